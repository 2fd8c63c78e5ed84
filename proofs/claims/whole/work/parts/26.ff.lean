def fL_law_L164 (L : Nat) (rec23 : Int32 → ky_St → Option (Int32 × ky_St)) (x4 : Int32) (σ : ky_St) : Option (Int32 × ky_St) :=
  ky_g (¬ ((x4 + (1 : Int32)) < 0 ∨ L ≤ (x4 + (1 : Int32)).toNatClampNeg)) (
  ky_bd (fL_buySets (σ.1 15 (x4 + (1 : Int32)).toNatClampNeg) σ) fun v8 s6 =>
  ky_g (¬ ((x4 + (1 : Int32)) < 0 ∨ L ≤ (x4 + (1 : Int32)).toNatClampNeg)) (
  ky_bd (fX4_buySets (s6.1 15 (x4 + (1 : Int32)).toNatClampNeg) s6) fun v12 s10 =>
  ky_bd (fX4_thrown s10) fun v15 s13 =>
  if v15 = v8 then (
  if v8 = 0 then (
  if (lg_cmp (s13.2 16) v12.toInt64) = 0 then (
  ky_bn (x4 + (4 : Int32)) fun v20 =>
  rec23 v20 s13) else (
  some ((0 : Int32), s13))) else (
  ky_bn (x4 + (4 : Int32)) fun v18 =>
  rec23 v18 s13)) else (
  some ((0 : Int32), s13))))
set_option maxHeartbeats 4000000 in
set_option maxRecDepth 100000 in
theorem tL_law_L164 {G : ky_G} {L : Nat} (hL : ky_len G.2.2.2.1 15 = some L) {rec23 : Int32 → ky_St → Option (Int32 × ky_St)} {kq sq : Nat} (d : Nat) (hrec23 : ∀ (x4 : Int32) (σ : ky_St) (r : Int32) (σ' : ky_St), rec23 x4 σ = some (r, σ') → ky_T G mL_law (d + 9) kq sq 23 [(0, ky_r G 15), (1, ky_r G 0), (2, ky_r G 7), (3, ky_r G 16), (4, .int x4)] [] σ (.inr (some (.int r))) σ') : ∀ (x4 : Int32) (σ : ky_St) (r : Int32) (σ' : ky_St), fL_law_L164 L rec23 x4 σ = some (r, σ') → ky_T G mL_law (d + 9) (kq + 5) (sq + 30) 164 [(0, ky_r G 15), (1, ky_r G 0), (2, ky_r G 7), (3, ky_r G 16), (4, .int x4)] [] σ (.inr (some (.int r))) σ' := by
  intro x4 σ r σ' hf
  unfold fL_law_L164 at hf
  refine ky_aload_n (n := 165) dL_law_164 rfl rfl 1 rfl ?_
  refine ky_aload_n (n := 166) dL_law_165 rfl rfl 0 rfl ?_
  refine ky_iload (n := 168) dL_law_166 rfl 4 rfl ?_
  refine ky_iconst (v := (1 : Int32)) (n := 169) dL_law_168 rfl rfl ?_
  refine ky_iadd (n := 170) dL_law_169 rfl ?_
  obtain ⟨g5, hf⟩ := ky_ge hf
  refine ky_iald (n := 171) dL_law_170 rfl hL g5 ?_
  refine ky_aload_n (n := 172) dL_law_171 rfl rfl 3 rfl ?_
  obtain ⟨v8, s6, h7, hf⟩ := ky_bd_e hf
  refine ky_bud (kc2 := kq + 1) (ks2 := sq + 6) (by omega) (by omega) ?_
  refine ky_callSW (kc := kq) (ks := sq) (kc2 := 1) (ks2 := 6) (as := [ky_r G 0, .int (σ.1 15 (x4 + (1 : Int32)).toNatClampNeg), ky_r G 16]) (st := []) (KL_buySets (d + 1) (σ.1 15 (x4 + (1 : Int32)).toNatClampNeg) σ _ _ h7) (by intro z; cases z) wcw_L_buySets w_ini_L wst_L_buySets ⟨by decide +kernel, by decide +kernel⟩ (na := 3) (by decide +kernel) (Nat.le_of_ble_eq_true rfl) wl_L_92 rfl rfl (Nat.le_of_ble_eq_true rfl) dL_law_172 rfl ?_
  refine ky_istore (lv' := [(5, .int v8), (0, ky_r G 15), (1, ky_r G 0), (2, ky_r G 7), (3, ky_r G 16), (4, .int x4)]) (n := 177) dL_law_175 rfl (Nat.le_of_ble_eq_true rfl) rfl ?_
  refine ky_aload_n (n := 178) dL_law_177 rfl rfl 3 rfl ?_
  refine ky_aload_n (n := 179) dL_law_178 rfl rfl 1 rfl ?_
  refine ky_iload (n := 181) dL_law_179 rfl 5 rfl ?_
  refine ky_iconst (v := (1 : Int32)) (n := 182) dL_law_181 rfl rfl ?_
  refine ky_iadd (n := 183) dL_law_182 rfl ?_
  obtain ⟨g9, hf⟩ := ky_ge hf
  refine ky_iald (n := 184) dL_law_183 rfl hL g9 ?_
  obtain ⟨v12, s10, h11, hf⟩ := ky_bd_e hf
  refine ky_bud (kc2 := kq + 0) (ks2 := sq + 0) (by omega) (by omega) ?_
  refine ky_callV (kc := kq) (ks := sq) (kc2 := 0) (ks2 := 0) (k0 := 7) (as := [.int (s6.1 15 (x4 + (1 : Int32)).toNatClampNeg)]) (st := []) (KX4_buySets (d + 6) (s6.1 15 (x4 + (1 : Int32)).toNatClampNeg) s6 _ _ h11) okX4_buySets wl_L_97 kc_7 (q := (RX4, TX4, 12)) rfl rfl rfl rfl (Nat.le_of_ble_eq_true rfl) dL_law_184 rfl ?_
  refine ky_istore (lv' := [(6, .int v12), (5, .int v8), (0, ky_r G 15), (1, ky_r G 0), (2, ky_r G 7), (3, ky_r G 16), (4, .int x4)]) (n := 189) dL_law_187 rfl (Nat.le_of_ble_eq_true rfl) rfl ?_
  refine ky_aload_n (n := 190) dL_law_189 rfl rfl 4 rfl ?_
  obtain ⟨v15, s13, h14, hf⟩ := ky_bd_e hf
  refine ky_bud (kc2 := kq + 0) (ks2 := sq + 0) (by omega) (by omega) ?_
  refine ky_callV (kc := kq) (ks := sq) (kc2 := 0) (ks2 := 0) (k0 := 7) (as := []) (st := []) (KX4_thrown (d + 8) s10 _ _ h14) okX4_thrown wl_L_98 kc_7 (q := (RX4, TX4, 12)) rfl rfl rfl rfl (Nat.le_of_ble_eq_true rfl) dL_law_190 rfl ?_
  refine ky_iload (n := 195) dL_law_193 rfl 1 rfl ?_
  refine ky_icmp_eq (n := 198) (tgt := 200) dL_law_195 rfl rfl (fun c16 => ?_) (fun c16 => ?_)
  · have hf := ky_pos c16 hf
    refine ky_iload (n := 202) dL_law_200 rfl 1 rfl ?_
    refine ky_if_ne (n := 205) (tgt := 217) dL_law_202 rfl rfl (fun c17 => ?_) (fun c17 => ?_)
    · have hf := ky_neg c17 hf
      refine ky_goto (tgt := 1714) dL_law_217 rfl ?_
      refine ky_iincB (c := (4 : Int32)) (n := 1717) dL_law_1714 rfl 6 rfl rfl (Nat.le_of_ble_eq_true rfl) (fun v18 ev18 => ?_)
      have hf := ky_bn_e hf v18 ev18
      refine ky_lv (lv' := [(4, .int v18), (6, .int v12), (5, .int v8), (0, ky_r G 15), (1, ky_r G 0), (2, ky_r G 7), (3, ky_r G 16)]) rfl ?_
      refine ky_goto (tgt := 23) dL_law_1717 rfl ?_
      refine ky_bud (kc2 := kq) (ks2 := sq) (by omega) (by omega) ?_
      refine ky_sub [3, 4, 5, 6, 0] (lv' := [(0, ky_r G 15), (1, ky_r G 0), (2, ky_r G 7), (3, ky_r G 16), (4, .int v18)]) rfl ?_
      exact hrec23 v18 s13 _ _ hf
    · have hf := ky_pos c17 hf
      refine ky_aload_n (n := 206) dL_law_205 rfl rfl 5 rfl ?_
      refine ky_iconst (v := (0 : Int32)) (n := 207) dL_law_206 rfl rfl ?_
      refine ky_lald (n := 208) dL_law_207 rfl ?_
      refine ky_iload (n := 210) dL_law_208 rfl 0 rfl ?_
      refine ky_i2l (n := 211) dL_law_210 rfl ?_
      refine ky_lcmp (n := 212) dL_law_211 rfl ?_
      refine ky_if_eq (n := 215) (tgt := 217) dL_law_212 rfl rfl (fun c19 => ?_) (fun c19 => ?_)
      · have hf := ky_pos c19 hf
        refine ky_goto (tgt := 1714) dL_law_217 rfl ?_
        refine ky_iincB (c := (4 : Int32)) (n := 1717) dL_law_1714 rfl 6 rfl rfl (Nat.le_of_ble_eq_true rfl) (fun v20 ev20 => ?_)
        have hf := ky_bn_e hf v20 ev20
        refine ky_lv (lv' := [(4, .int v20), (6, .int v12), (5, .int v8), (0, ky_r G 15), (1, ky_r G 0), (2, ky_r G 7), (3, ky_r G 16)]) rfl ?_
        refine ky_goto (tgt := 23) dL_law_1717 rfl ?_
        refine ky_bud (kc2 := kq) (ks2 := sq) (by omega) (by omega) ?_
        refine ky_sub [3, 4, 5, 6, 0] (lv' := [(0, ky_r G 15), (1, ky_r G 0), (2, ky_r G 7), (3, ky_r G 16), (4, .int v20)]) rfl ?_
        exact hrec23 v20 s13 _ _ hf
      · have hf := ky_neg c19 hf
        refine ky_iconst (v := (0 : Int32)) (n := 216) dL_law_215 rfl rfl ?_
        cases hf
        exact ky_zreturn dL_law_216 rfl (Or.inl rfl)
  · have hf := ky_neg c16 hf
    refine ky_iconst (v := (0 : Int32)) (n := 199) dL_law_198 rfl rfl ?_
    cases hf
    exact ky_zreturn dL_law_199 rfl (Or.inl rfl)
def fL_law_L220 (L : Nat) (rec23 : Int32 → ky_St → Option (Int32 × ky_St)) (x4 : Int32) (σ : ky_St) : Option (Int32 × ky_St) :=
  ky_g (¬ ((x4 + (1 : Int32)) < 0 ∨ L ≤ (x4 + (1 : Int32)).toNatClampNeg)) (
  ky_g (¬ ((x4 + (2 : Int32)) < 0 ∨ L ≤ (x4 + (2 : Int32)).toNatClampNeg)) (
  ky_bd (fL_buySpare (σ.1 15 (x4 + (1 : Int32)).toNatClampNeg) (σ.1 15 (x4 + (2 : Int32)).toNatClampNeg) σ) fun v26 s24 =>
  ky_g (¬ ((x4 + (1 : Int32)) < 0 ∨ L ≤ (x4 + (1 : Int32)).toNatClampNeg)) (
  ky_g (¬ ((x4 + (2 : Int32)) < 0 ∨ L ≤ (x4 + (2 : Int32)).toNatClampNeg)) (
  ky_bd (fX4_buySpare (s24.1 15 (x4 + (1 : Int32)).toNatClampNeg) (s24.1 15 (x4 + (2 : Int32)).toNatClampNeg) s24) fun v31 s29 =>
  ky_bd (fX4_thrown s29) fun v34 s32 =>
  if v34 = v26 then (
  if v26 = 0 then (
  if (lg_cmp (s32.2 16) v31.toInt64) = 0 then (
  ky_bn (x4 + (4 : Int32)) fun v39 =>
  rec23 v39 s32) else (
  some ((0 : Int32), s32))) else (
  ky_bn (x4 + (4 : Int32)) fun v37 =>
  rec23 v37 s32)) else (
  some ((0 : Int32), s32))))))
set_option maxHeartbeats 4000000 in
set_option maxRecDepth 100000 in
theorem tL_law_L220 {G : ky_G} {L : Nat} (hL : ky_len G.2.2.2.1 15 = some L) {rec23 : Int32 → ky_St → Option (Int32 × ky_St)} {kq sq : Nat} (d : Nat) (hrec23 : ∀ (x4 : Int32) (σ : ky_St) (r : Int32) (σ' : ky_St), rec23 x4 σ = some (r, σ') → ky_T G mL_law (d + 9) kq sq 23 [(0, ky_r G 15), (1, ky_r G 0), (2, ky_r G 7), (3, ky_r G 16), (4, .int x4)] [] σ (.inr (some (.int r))) σ') : ∀ (x4 : Int32) (σ : ky_St) (r : Int32) (σ' : ky_St), fL_law_L220 L rec23 x4 σ = some (r, σ') → ky_T G mL_law (d + 9) (kq + 5) (sq + 30) 220 [(0, ky_r G 15), (1, ky_r G 0), (2, ky_r G 7), (3, ky_r G 16), (4, .int x4)] [] σ (.inr (some (.int r))) σ' := by
  intro x4 σ r σ' hf
  unfold fL_law_L220 at hf
  refine ky_aload_n (n := 221) dL_law_220 rfl rfl 1 rfl ?_
  refine ky_aload_n (n := 222) dL_law_221 rfl rfl 0 rfl ?_
  refine ky_iload (n := 224) dL_law_222 rfl 4 rfl ?_
  refine ky_iconst (v := (1 : Int32)) (n := 225) dL_law_224 rfl rfl ?_
  refine ky_iadd (n := 226) dL_law_225 rfl ?_
  obtain ⟨g22, hf⟩ := ky_ge hf
  refine ky_iald (n := 227) dL_law_226 rfl hL g22 ?_
  refine ky_aload_n (n := 228) dL_law_227 rfl rfl 0 rfl ?_
  refine ky_iload (n := 230) dL_law_228 rfl 4 rfl ?_
  refine ky_iconst (v := (2 : Int32)) (n := 231) dL_law_230 rfl rfl ?_
  refine ky_iadd (n := 232) dL_law_231 rfl ?_
  obtain ⟨g23, hf⟩ := ky_ge hf
  refine ky_iald (n := 233) dL_law_232 rfl hL g23 ?_
  refine ky_aload_n (n := 234) dL_law_233 rfl rfl 3 rfl ?_
  obtain ⟨v26, s24, h25, hf⟩ := ky_bd_e hf
  refine ky_bud (kc2 := kq + 2) (ks2 := sq + 12) (by omega) (by omega) ?_
  refine ky_callSW (kc := kq) (ks := sq) (kc2 := 2) (ks2 := 12) (as := [ky_r G 0, .int (σ.1 15 (x4 + (1 : Int32)).toNatClampNeg), .int (σ.1 15 (x4 + (2 : Int32)).toNatClampNeg), ky_r G 16]) (st := []) (KL_buySpare d (σ.1 15 (x4 + (1 : Int32)).toNatClampNeg) (σ.1 15 (x4 + (2 : Int32)).toNatClampNeg) σ _ _ h25) (by intro z; cases z) wcw_L_buySpare w_ini_L wst_L_buySpare ⟨by decide +kernel, by decide +kernel⟩ (na := 4) (by decide +kernel) (Nat.le_of_ble_eq_true rfl) wl_L_101 rfl rfl (Nat.le_of_ble_eq_true rfl) dL_law_234 rfl ?_
  refine ky_istore (lv' := [(5, .int v26), (0, ky_r G 15), (1, ky_r G 0), (2, ky_r G 7), (3, ky_r G 16), (4, .int x4)]) (n := 239) dL_law_237 rfl (Nat.le_of_ble_eq_true rfl) rfl ?_
  refine ky_aload_n (n := 240) dL_law_239 rfl rfl 3 rfl ?_
  refine ky_aload_n (n := 241) dL_law_240 rfl rfl 1 rfl ?_
  refine ky_iload (n := 243) dL_law_241 rfl 5 rfl ?_
  refine ky_iconst (v := (1 : Int32)) (n := 244) dL_law_243 rfl rfl ?_
  refine ky_iadd (n := 245) dL_law_244 rfl ?_
  obtain ⟨g27, hf⟩ := ky_ge hf
  refine ky_iald (n := 246) dL_law_245 rfl hL g27 ?_
  refine ky_aload_n (n := 247) dL_law_246 rfl rfl 1 rfl ?_
  refine ky_iload (n := 249) dL_law_247 rfl 5 rfl ?_
  refine ky_iconst (v := (2 : Int32)) (n := 250) dL_law_249 rfl rfl ?_
  refine ky_iadd (n := 251) dL_law_250 rfl ?_
  obtain ⟨g28, hf⟩ := ky_ge hf
  refine ky_iald (n := 252) dL_law_251 rfl hL g28 ?_
  obtain ⟨v31, s29, h30, hf⟩ := ky_bd_e hf
  refine ky_bud (kc2 := kq + 0) (ks2 := sq + 0) (by omega) (by omega) ?_
  refine ky_callV (kc := kq) (ks := sq) (kc2 := 0) (ks2 := 0) (k0 := 7) (as := [.int (s24.1 15 (x4 + (1 : Int32)).toNatClampNeg), .int (s24.1 15 (x4 + (2 : Int32)).toNatClampNeg)]) (st := []) (KX4_buySpare (d + 6) (s24.1 15 (x4 + (1 : Int32)).toNatClampNeg) (s24.1 15 (x4 + (2 : Int32)).toNatClampNeg) s24 _ _ h30) okX4_buySpare wl_L_104 kc_7 (q := (RX4, TX4, 12)) rfl rfl rfl rfl (Nat.le_of_ble_eq_true rfl) dL_law_252 rfl ?_
  refine ky_istore (lv' := [(6, .int v31), (5, .int v26), (0, ky_r G 15), (1, ky_r G 0), (2, ky_r G 7), (3, ky_r G 16), (4, .int x4)]) (n := 257) dL_law_255 rfl (Nat.le_of_ble_eq_true rfl) rfl ?_
  refine ky_aload_n (n := 258) dL_law_257 rfl rfl 4 rfl ?_
  obtain ⟨v34, s32, h33, hf⟩ := ky_bd_e hf
  refine ky_bud (kc2 := kq + 0) (ks2 := sq + 0) (by omega) (by omega) ?_
  refine ky_callV (kc := kq) (ks := sq) (kc2 := 0) (ks2 := 0) (k0 := 7) (as := []) (st := []) (KX4_thrown (d + 8) s29 _ _ h33) okX4_thrown wl_L_98 kc_7 (q := (RX4, TX4, 12)) rfl rfl rfl rfl (Nat.le_of_ble_eq_true rfl) dL_law_258 rfl ?_
  refine ky_iload (n := 263) dL_law_261 rfl 1 rfl ?_
  refine ky_icmp_eq (n := 266) (tgt := 268) dL_law_263 rfl rfl (fun c35 => ?_) (fun c35 => ?_)
  · have hf := ky_pos c35 hf
    refine ky_iload (n := 270) dL_law_268 rfl 1 rfl ?_
    refine ky_if_ne (n := 273) (tgt := 285) dL_law_270 rfl rfl (fun c36 => ?_) (fun c36 => ?_)
    · have hf := ky_neg c36 hf
      refine ky_goto (tgt := 1714) dL_law_285 rfl ?_
      refine ky_iincB (c := (4 : Int32)) (n := 1717) dL_law_1714 rfl 6 rfl rfl (Nat.le_of_ble_eq_true rfl) (fun v37 ev37 => ?_)
      have hf := ky_bn_e hf v37 ev37
      refine ky_lv (lv' := [(4, .int v37), (6, .int v31), (5, .int v26), (0, ky_r G 15), (1, ky_r G 0), (2, ky_r G 7), (3, ky_r G 16)]) rfl ?_
      refine ky_goto (tgt := 23) dL_law_1717 rfl ?_
      refine ky_bud (kc2 := kq) (ks2 := sq) (by omega) (by omega) ?_
      refine ky_sub [3, 4, 5, 6, 0] (lv' := [(0, ky_r G 15), (1, ky_r G 0), (2, ky_r G 7), (3, ky_r G 16), (4, .int v37)]) rfl ?_
      exact hrec23 v37 s32 _ _ hf
    · have hf := ky_pos c36 hf
      refine ky_aload_n (n := 274) dL_law_273 rfl rfl 5 rfl ?_
      refine ky_iconst (v := (0 : Int32)) (n := 275) dL_law_274 rfl rfl ?_
      refine ky_lald (n := 276) dL_law_275 rfl ?_
      refine ky_iload (n := 278) dL_law_276 rfl 0 rfl ?_
      refine ky_i2l (n := 279) dL_law_278 rfl ?_
      refine ky_lcmp (n := 280) dL_law_279 rfl ?_
      refine ky_if_eq (n := 283) (tgt := 285) dL_law_280 rfl rfl (fun c38 => ?_) (fun c38 => ?_)
      · have hf := ky_pos c38 hf
        refine ky_goto (tgt := 1714) dL_law_285 rfl ?_
        refine ky_iincB (c := (4 : Int32)) (n := 1717) dL_law_1714 rfl 6 rfl rfl (Nat.le_of_ble_eq_true rfl) (fun v39 ev39 => ?_)
        have hf := ky_bn_e hf v39 ev39
        refine ky_lv (lv' := [(4, .int v39), (6, .int v31), (5, .int v26), (0, ky_r G 15), (1, ky_r G 0), (2, ky_r G 7), (3, ky_r G 16)]) rfl ?_
        refine ky_goto (tgt := 23) dL_law_1717 rfl ?_
        refine ky_bud (kc2 := kq) (ks2 := sq) (by omega) (by omega) ?_
        refine ky_sub [3, 4, 5, 6, 0] (lv' := [(0, ky_r G 15), (1, ky_r G 0), (2, ky_r G 7), (3, ky_r G 16), (4, .int v39)]) rfl ?_
        exact hrec23 v39 s32 _ _ hf
      · have hf := ky_neg c38 hf
        refine ky_iconst (v := (0 : Int32)) (n := 284) dL_law_283 rfl rfl ?_
        cases hf
        exact ky_zreturn dL_law_284 rfl (Or.inl rfl)
  · have hf := ky_neg c35 hf
    refine ky_iconst (v := (0 : Int32)) (n := 267) dL_law_266 rfl rfl ?_
    cases hf
    exact ky_zreturn dL_law_267 rfl (Or.inl rfl)
def fL_law_L288 (L : Nat) (rec23 : Int32 → ky_St → Option (Int32 × ky_St)) (x4 : Int32) (σ : ky_St) : Option (Int32 × ky_St) :=
  ky_g (¬ ((x4 + (1 : Int32)) < 0 ∨ L ≤ (x4 + (1 : Int32)).toNatClampNeg)) (
  ky_bd (fL_repair (σ.1 15 (x4 + (1 : Int32)).toNatClampNeg) σ) fun v44 s42 =>
  ky_g (¬ ((x4 + (1 : Int32)) < 0 ∨ L ≤ (x4 + (1 : Int32)).toNatClampNeg)) (
  ky_bd (fX4_repair (s42.1 15 (x4 + (1 : Int32)).toNatClampNeg) s42) fun v48 s46 =>
  ky_bd (fX4_thrown s46) fun v51 s49 =>
  if v51 = v44 then (
  if v44 = 0 then (
  if (lg_cmp (s49.2 16) v48.toInt64) = 0 then (
  ky_bn (x4 + (4 : Int32)) fun v56 =>
  rec23 v56 s49) else (
  some ((0 : Int32), s49))) else (
  ky_bn (x4 + (4 : Int32)) fun v54 =>
  rec23 v54 s49)) else (
  some ((0 : Int32), s49))))
set_option maxHeartbeats 4000000 in
set_option maxRecDepth 100000 in
theorem tL_law_L288 {G : ky_G} {L : Nat} (hL : ky_len G.2.2.2.1 15 = some L) {rec23 : Int32 → ky_St → Option (Int32 × ky_St)} {kq sq : Nat} (d : Nat) (hrec23 : ∀ (x4 : Int32) (σ : ky_St) (r : Int32) (σ' : ky_St), rec23 x4 σ = some (r, σ') → ky_T G mL_law (d + 9) kq sq 23 [(0, ky_r G 15), (1, ky_r G 0), (2, ky_r G 7), (3, ky_r G 16), (4, .int x4)] [] σ (.inr (some (.int r))) σ') : ∀ (x4 : Int32) (σ : ky_St) (r : Int32) (σ' : ky_St), fL_law_L288 L rec23 x4 σ = some (r, σ') → ky_T G mL_law (d + 9) (kq + 5) (sq + 30) 288 [(0, ky_r G 15), (1, ky_r G 0), (2, ky_r G 7), (3, ky_r G 16), (4, .int x4)] [] σ (.inr (some (.int r))) σ' := by
  intro x4 σ r σ' hf
  unfold fL_law_L288 at hf
  refine ky_aload_n (n := 289) dL_law_288 rfl rfl 1 rfl ?_
  refine ky_aload_n (n := 290) dL_law_289 rfl rfl 0 rfl ?_
  refine ky_iload (n := 292) dL_law_290 rfl 4 rfl ?_
  refine ky_iconst (v := (1 : Int32)) (n := 293) dL_law_292 rfl rfl ?_
  refine ky_iadd (n := 294) dL_law_293 rfl ?_
  obtain ⟨g41, hf⟩ := ky_ge hf
  refine ky_iald (n := 295) dL_law_294 rfl hL g41 ?_
  refine ky_aload_n (n := 296) dL_law_295 rfl rfl 3 rfl ?_
  obtain ⟨v44, s42, h43, hf⟩ := ky_bd_e hf
  refine ky_bud (kc2 := kq + 2) (ks2 := sq + 12) (by omega) (by omega) ?_
  refine ky_callSW (kc := kq) (ks := sq) (kc2 := 2) (ks2 := 12) (as := [ky_r G 0, .int (σ.1 15 (x4 + (1 : Int32)).toNatClampNeg), ky_r G 16]) (st := []) (KL_repair d (σ.1 15 (x4 + (1 : Int32)).toNatClampNeg) σ _ _ h43) (by intro z; cases z) wcw_L_repair w_ini_L wst_L_repair ⟨by decide +kernel, by decide +kernel⟩ (na := 3) (by decide +kernel) (Nat.le_of_ble_eq_true rfl) wl_L_105 rfl rfl (Nat.le_of_ble_eq_true rfl) dL_law_296 rfl ?_
  refine ky_istore (lv' := [(5, .int v44), (0, ky_r G 15), (1, ky_r G 0), (2, ky_r G 7), (3, ky_r G 16), (4, .int x4)]) (n := 301) dL_law_299 rfl (Nat.le_of_ble_eq_true rfl) rfl ?_
  refine ky_aload_n (n := 302) dL_law_301 rfl rfl 3 rfl ?_
  refine ky_aload_n (n := 303) dL_law_302 rfl rfl 1 rfl ?_
  refine ky_iload (n := 305) dL_law_303 rfl 5 rfl ?_
  refine ky_iconst (v := (1 : Int32)) (n := 306) dL_law_305 rfl rfl ?_
  refine ky_iadd (n := 307) dL_law_306 rfl ?_
  obtain ⟨g45, hf⟩ := ky_ge hf
  refine ky_iald (n := 308) dL_law_307 rfl hL g45 ?_
  obtain ⟨v48, s46, h47, hf⟩ := ky_bd_e hf
  refine ky_bud (kc2 := kq + 0) (ks2 := sq + 0) (by omega) (by omega) ?_
  refine ky_callV (kc := kq) (ks := sq) (kc2 := 0) (ks2 := 0) (k0 := 7) (as := [.int (s42.1 15 (x4 + (1 : Int32)).toNatClampNeg)]) (st := []) (KX4_repair (d + 6) (s42.1 15 (x4 + (1 : Int32)).toNatClampNeg) s42 _ _ h47) okX4_repair wl_L_107 kc_7 (q := (RX4, TX4, 12)) rfl rfl rfl rfl (Nat.le_of_ble_eq_true rfl) dL_law_308 rfl ?_
  refine ky_istore (lv' := [(6, .int v48), (5, .int v44), (0, ky_r G 15), (1, ky_r G 0), (2, ky_r G 7), (3, ky_r G 16), (4, .int x4)]) (n := 313) dL_law_311 rfl (Nat.le_of_ble_eq_true rfl) rfl ?_
  refine ky_aload_n (n := 314) dL_law_313 rfl rfl 4 rfl ?_
  obtain ⟨v51, s49, h50, hf⟩ := ky_bd_e hf
  refine ky_bud (kc2 := kq + 0) (ks2 := sq + 0) (by omega) (by omega) ?_
  refine ky_callV (kc := kq) (ks := sq) (kc2 := 0) (ks2 := 0) (k0 := 7) (as := []) (st := []) (KX4_thrown (d + 8) s46 _ _ h50) okX4_thrown wl_L_98 kc_7 (q := (RX4, TX4, 12)) rfl rfl rfl rfl (Nat.le_of_ble_eq_true rfl) dL_law_314 rfl ?_
  refine ky_iload (n := 319) dL_law_317 rfl 1 rfl ?_
  refine ky_icmp_eq (n := 322) (tgt := 324) dL_law_319 rfl rfl (fun c52 => ?_) (fun c52 => ?_)
  · have hf := ky_pos c52 hf
    refine ky_iload (n := 326) dL_law_324 rfl 1 rfl ?_
    refine ky_if_ne (n := 329) (tgt := 341) dL_law_326 rfl rfl (fun c53 => ?_) (fun c53 => ?_)
    · have hf := ky_neg c53 hf
      refine ky_goto (tgt := 1714) dL_law_341 rfl ?_
      refine ky_iincB (c := (4 : Int32)) (n := 1717) dL_law_1714 rfl 6 rfl rfl (Nat.le_of_ble_eq_true rfl) (fun v54 ev54 => ?_)
      have hf := ky_bn_e hf v54 ev54
      refine ky_lv (lv' := [(4, .int v54), (6, .int v48), (5, .int v44), (0, ky_r G 15), (1, ky_r G 0), (2, ky_r G 7), (3, ky_r G 16)]) rfl ?_
      refine ky_goto (tgt := 23) dL_law_1717 rfl ?_
      refine ky_bud (kc2 := kq) (ks2 := sq) (by omega) (by omega) ?_
      refine ky_sub [3, 4, 5, 6, 0] (lv' := [(0, ky_r G 15), (1, ky_r G 0), (2, ky_r G 7), (3, ky_r G 16), (4, .int v54)]) rfl ?_
      exact hrec23 v54 s49 _ _ hf
    · have hf := ky_pos c53 hf
      refine ky_aload_n (n := 330) dL_law_329 rfl rfl 5 rfl ?_
      refine ky_iconst (v := (0 : Int32)) (n := 331) dL_law_330 rfl rfl ?_
      refine ky_lald (n := 332) dL_law_331 rfl ?_
      refine ky_iload (n := 334) dL_law_332 rfl 0 rfl ?_
      refine ky_i2l (n := 335) dL_law_334 rfl ?_
      refine ky_lcmp (n := 336) dL_law_335 rfl ?_
      refine ky_if_eq (n := 339) (tgt := 341) dL_law_336 rfl rfl (fun c55 => ?_) (fun c55 => ?_)
      · have hf := ky_pos c55 hf
        refine ky_goto (tgt := 1714) dL_law_341 rfl ?_
        refine ky_iincB (c := (4 : Int32)) (n := 1717) dL_law_1714 rfl 6 rfl rfl (Nat.le_of_ble_eq_true rfl) (fun v56 ev56 => ?_)
        have hf := ky_bn_e hf v56 ev56
        refine ky_lv (lv' := [(4, .int v56), (6, .int v48), (5, .int v44), (0, ky_r G 15), (1, ky_r G 0), (2, ky_r G 7), (3, ky_r G 16)]) rfl ?_
        refine ky_goto (tgt := 23) dL_law_1717 rfl ?_
        refine ky_bud (kc2 := kq) (ks2 := sq) (by omega) (by omega) ?_
        refine ky_sub [3, 4, 5, 6, 0] (lv' := [(0, ky_r G 15), (1, ky_r G 0), (2, ky_r G 7), (3, ky_r G 16), (4, .int v56)]) rfl ?_
        exact hrec23 v56 s49 _ _ hf
      · have hf := ky_neg c55 hf
        refine ky_iconst (v := (0 : Int32)) (n := 340) dL_law_339 rfl rfl ?_
        cases hf
        exact ky_zreturn dL_law_340 rfl (Or.inl rfl)
  · have hf := ky_neg c52 hf
    refine ky_iconst (v := (0 : Int32)) (n := 323) dL_law_322 rfl rfl ?_
    cases hf
    exact ky_zreturn dL_law_323 rfl (Or.inl rfl)
def fL_law_L344 (L : Nat) (rec23 : Int32 → ky_St → Option (Int32 × ky_St)) (x4 : Int32) (σ : ky_St) : Option (Int32 × ky_St) :=
  ky_g (¬ ((x4 + (1 : Int32)) < 0 ∨ L ≤ (x4 + (1 : Int32)).toNatClampNeg)) (
  ky_g (¬ ((x4 + (2 : Int32)) < 0 ∨ L ≤ (x4 + (2 : Int32)).toNatClampNeg)) (
  ky_g (¬ ((x4 + (3 : Int32)) < 0 ∨ L ≤ (x4 + (3 : Int32)).toNatClampNeg)) (
  ky_bd (fL_damage (σ.1 15 (x4 + (1 : Int32)).toNatClampNeg) (σ.1 15 (x4 + (2 : Int32)).toNatClampNeg) (σ.1 15 (x4 + (3 : Int32)).toNatClampNeg) σ) fun v63 s61 =>
  ky_g (¬ ((x4 + (1 : Int32)) < 0 ∨ L ≤ (x4 + (1 : Int32)).toNatClampNeg)) (
  ky_g (¬ ((x4 + (2 : Int32)) < 0 ∨ L ≤ (x4 + (2 : Int32)).toNatClampNeg)) (
  ky_g (¬ ((x4 + (3 : Int32)) < 0 ∨ L ≤ (x4 + (3 : Int32)).toNatClampNeg)) (
  ky_bd (fX4_damage (s61.1 15 (x4 + (1 : Int32)).toNatClampNeg) (s61.1 15 (x4 + (2 : Int32)).toNatClampNeg) (s61.1 15 (x4 + (3 : Int32)).toNatClampNeg) s61) fun v69 s67 =>
  ky_bd (fX4_thrown s67) fun v72 s70 =>
  if v72 = v63 then (
  if v63 = 0 then (
  if (lg_cmp (s70.2 16) v69.toInt64) = 0 then (
  ky_bn (x4 + (4 : Int32)) fun v77 =>
  rec23 v77 s70) else (
  some ((0 : Int32), s70))) else (
  ky_bn (x4 + (4 : Int32)) fun v75 =>
  rec23 v75 s70)) else (
  some ((0 : Int32), s70))))))))
set_option maxHeartbeats 4000000 in
set_option maxRecDepth 100000 in
theorem tL_law_L344 {G : ky_G} {L : Nat} (hL : ky_len G.2.2.2.1 15 = some L) {rec23 : Int32 → ky_St → Option (Int32 × ky_St)} {kq sq : Nat} (d : Nat) (hrec23 : ∀ (x4 : Int32) (σ : ky_St) (r : Int32) (σ' : ky_St), rec23 x4 σ = some (r, σ') → ky_T G mL_law (d + 9) kq sq 23 [(0, ky_r G 15), (1, ky_r G 0), (2, ky_r G 7), (3, ky_r G 16), (4, .int x4)] [] σ (.inr (some (.int r))) σ') : ∀ (x4 : Int32) (σ : ky_St) (r : Int32) (σ' : ky_St), fL_law_L344 L rec23 x4 σ = some (r, σ') → ky_T G mL_law (d + 9) (kq + 5) (sq + 30) 344 [(0, ky_r G 15), (1, ky_r G 0), (2, ky_r G 7), (3, ky_r G 16), (4, .int x4)] [] σ (.inr (some (.int r))) σ' := by
  intro x4 σ r σ' hf
  unfold fL_law_L344 at hf
  refine ky_aload_n (n := 345) dL_law_344 rfl rfl 1 rfl ?_
  refine ky_aload_n (n := 346) dL_law_345 rfl rfl 0 rfl ?_
  refine ky_iload (n := 348) dL_law_346 rfl 4 rfl ?_
  refine ky_iconst (v := (1 : Int32)) (n := 349) dL_law_348 rfl rfl ?_
  refine ky_iadd (n := 350) dL_law_349 rfl ?_
  obtain ⟨g58, hf⟩ := ky_ge hf
  refine ky_iald (n := 351) dL_law_350 rfl hL g58 ?_
  refine ky_aload_n (n := 352) dL_law_351 rfl rfl 0 rfl ?_
  refine ky_iload (n := 354) dL_law_352 rfl 4 rfl ?_
  refine ky_iconst (v := (2 : Int32)) (n := 355) dL_law_354 rfl rfl ?_
  refine ky_iadd (n := 356) dL_law_355 rfl ?_
  obtain ⟨g59, hf⟩ := ky_ge hf
  refine ky_iald (n := 357) dL_law_356 rfl hL g59 ?_
  refine ky_aload_n (n := 358) dL_law_357 rfl rfl 0 rfl ?_
  refine ky_iload (n := 360) dL_law_358 rfl 4 rfl ?_
  refine ky_iconst (v := (3 : Int32)) (n := 361) dL_law_360 rfl rfl ?_
  refine ky_iadd (n := 362) dL_law_361 rfl ?_
  obtain ⟨g60, hf⟩ := ky_ge hf
  refine ky_iald (n := 363) dL_law_362 rfl hL g60 ?_
  refine ky_aload_n (n := 364) dL_law_363 rfl rfl 3 rfl ?_
  obtain ⟨v63, s61, h62, hf⟩ := ky_bd_e hf
  refine ky_bud (kc2 := kq + 5) (ks2 := sq + 30) (by omega) (by omega) ?_
  refine ky_callSW (kc := kq) (ks := sq) (kc2 := 5) (ks2 := 30) (as := [ky_r G 0, .int (σ.1 15 (x4 + (1 : Int32)).toNatClampNeg), .int (σ.1 15 (x4 + (2 : Int32)).toNatClampNeg), .int (σ.1 15 (x4 + (3 : Int32)).toNatClampNeg), ky_r G 16]) (st := []) (KL_damage d (σ.1 15 (x4 + (1 : Int32)).toNatClampNeg) (σ.1 15 (x4 + (2 : Int32)).toNatClampNeg) (σ.1 15 (x4 + (3 : Int32)).toNatClampNeg) σ _ _ h62) (by intro z; cases z) wcw_L_damage w_ini_L wst_L_damage ⟨by decide +kernel, by decide +kernel⟩ (na := 5) (by decide +kernel) (Nat.le_of_ble_eq_true rfl) wl_L_108 rfl rfl (Nat.le_of_ble_eq_true rfl) dL_law_364 rfl ?_
  refine ky_istore (lv' := [(5, .int v63), (0, ky_r G 15), (1, ky_r G 0), (2, ky_r G 7), (3, ky_r G 16), (4, .int x4)]) (n := 369) dL_law_367 rfl (Nat.le_of_ble_eq_true rfl) rfl ?_
  refine ky_aload_n (n := 370) dL_law_369 rfl rfl 3 rfl ?_
  refine ky_aload_n (n := 371) dL_law_370 rfl rfl 1 rfl ?_
  refine ky_iload (n := 373) dL_law_371 rfl 5 rfl ?_
  refine ky_iconst (v := (1 : Int32)) (n := 374) dL_law_373 rfl rfl ?_
  refine ky_iadd (n := 375) dL_law_374 rfl ?_
  obtain ⟨g64, hf⟩ := ky_ge hf
  refine ky_iald (n := 376) dL_law_375 rfl hL g64 ?_
  refine ky_aload_n (n := 377) dL_law_376 rfl rfl 1 rfl ?_
  refine ky_iload (n := 379) dL_law_377 rfl 5 rfl ?_
  refine ky_iconst (v := (2 : Int32)) (n := 380) dL_law_379 rfl rfl ?_
  refine ky_iadd (n := 381) dL_law_380 rfl ?_
  obtain ⟨g65, hf⟩ := ky_ge hf
  refine ky_iald (n := 382) dL_law_381 rfl hL g65 ?_
  refine ky_aload_n (n := 383) dL_law_382 rfl rfl 1 rfl ?_
  refine ky_iload (n := 385) dL_law_383 rfl 5 rfl ?_
  refine ky_iconst (v := (3 : Int32)) (n := 386) dL_law_385 rfl rfl ?_
  refine ky_iadd (n := 387) dL_law_386 rfl ?_
  obtain ⟨g66, hf⟩ := ky_ge hf
  refine ky_iald (n := 388) dL_law_387 rfl hL g66 ?_
  obtain ⟨v69, s67, h68, hf⟩ := ky_bd_e hf
  refine ky_bud (kc2 := kq + 0) (ks2 := sq + 0) (by omega) (by omega) ?_
  refine ky_callV (kc := kq) (ks := sq) (kc2 := 0) (ks2 := 0) (k0 := 7) (as := [.int (s61.1 15 (x4 + (1 : Int32)).toNatClampNeg), .int (s61.1 15 (x4 + (2 : Int32)).toNatClampNeg), .int (s61.1 15 (x4 + (3 : Int32)).toNatClampNeg)]) (st := []) (KX4_damage (d + 5) (s61.1 15 (x4 + (1 : Int32)).toNatClampNeg) (s61.1 15 (x4 + (2 : Int32)).toNatClampNeg) (s61.1 15 (x4 + (3 : Int32)).toNatClampNeg) s61 _ _ h68) okX4_damage wl_L_111 kc_7 (q := (RX4, TX4, 12)) rfl rfl rfl rfl (Nat.le_of_ble_eq_true rfl) dL_law_388 rfl ?_
  refine ky_istore (lv' := [(6, .int v69), (5, .int v63), (0, ky_r G 15), (1, ky_r G 0), (2, ky_r G 7), (3, ky_r G 16), (4, .int x4)]) (n := 393) dL_law_391 rfl (Nat.le_of_ble_eq_true rfl) rfl ?_
  refine ky_aload_n (n := 394) dL_law_393 rfl rfl 4 rfl ?_
  obtain ⟨v72, s70, h71, hf⟩ := ky_bd_e hf
  refine ky_bud (kc2 := kq + 0) (ks2 := sq + 0) (by omega) (by omega) ?_
  refine ky_callV (kc := kq) (ks := sq) (kc2 := 0) (ks2 := 0) (k0 := 7) (as := []) (st := []) (KX4_thrown (d + 8) s67 _ _ h71) okX4_thrown wl_L_98 kc_7 (q := (RX4, TX4, 12)) rfl rfl rfl rfl (Nat.le_of_ble_eq_true rfl) dL_law_394 rfl ?_
  refine ky_iload (n := 399) dL_law_397 rfl 1 rfl ?_
  refine ky_icmp_eq (n := 402) (tgt := 404) dL_law_399 rfl rfl (fun c73 => ?_) (fun c73 => ?_)
  · have hf := ky_pos c73 hf
    refine ky_iload (n := 406) dL_law_404 rfl 1 rfl ?_
    refine ky_if_ne (n := 409) (tgt := 421) dL_law_406 rfl rfl (fun c74 => ?_) (fun c74 => ?_)
    · have hf := ky_neg c74 hf
      refine ky_goto (tgt := 1714) dL_law_421 rfl ?_
      refine ky_iincB (c := (4 : Int32)) (n := 1717) dL_law_1714 rfl 6 rfl rfl (Nat.le_of_ble_eq_true rfl) (fun v75 ev75 => ?_)
      have hf := ky_bn_e hf v75 ev75
      refine ky_lv (lv' := [(4, .int v75), (6, .int v69), (5, .int v63), (0, ky_r G 15), (1, ky_r G 0), (2, ky_r G 7), (3, ky_r G 16)]) rfl ?_
      refine ky_goto (tgt := 23) dL_law_1717 rfl ?_
      refine ky_bud (kc2 := kq) (ks2 := sq) (by omega) (by omega) ?_
      refine ky_sub [3, 4, 5, 6, 0] (lv' := [(0, ky_r G 15), (1, ky_r G 0), (2, ky_r G 7), (3, ky_r G 16), (4, .int v75)]) rfl ?_
      exact hrec23 v75 s70 _ _ hf
    · have hf := ky_pos c74 hf
      refine ky_aload_n (n := 410) dL_law_409 rfl rfl 5 rfl ?_
      refine ky_iconst (v := (0 : Int32)) (n := 411) dL_law_410 rfl rfl ?_
      refine ky_lald (n := 412) dL_law_411 rfl ?_
      refine ky_iload (n := 414) dL_law_412 rfl 0 rfl ?_
      refine ky_i2l (n := 415) dL_law_414 rfl ?_
      refine ky_lcmp (n := 416) dL_law_415 rfl ?_
      refine ky_if_eq (n := 419) (tgt := 421) dL_law_416 rfl rfl (fun c76 => ?_) (fun c76 => ?_)
      · have hf := ky_pos c76 hf
        refine ky_goto (tgt := 1714) dL_law_421 rfl ?_
        refine ky_iincB (c := (4 : Int32)) (n := 1717) dL_law_1714 rfl 6 rfl rfl (Nat.le_of_ble_eq_true rfl) (fun v77 ev77 => ?_)
        have hf := ky_bn_e hf v77 ev77
        refine ky_lv (lv' := [(4, .int v77), (6, .int v69), (5, .int v63), (0, ky_r G 15), (1, ky_r G 0), (2, ky_r G 7), (3, ky_r G 16)]) rfl ?_
        refine ky_goto (tgt := 23) dL_law_1717 rfl ?_
        refine ky_bud (kc2 := kq) (ks2 := sq) (by omega) (by omega) ?_
        refine ky_sub [3, 4, 5, 6, 0] (lv' := [(0, ky_r G 15), (1, ky_r G 0), (2, ky_r G 7), (3, ky_r G 16), (4, .int v77)]) rfl ?_
        exact hrec23 v77 s70 _ _ hf
      · have hf := ky_neg c76 hf
        refine ky_iconst (v := (0 : Int32)) (n := 420) dL_law_419 rfl rfl ?_
        cases hf
        exact ky_zreturn dL_law_420 rfl (Or.inl rfl)
  · have hf := ky_neg c73 hf
    refine ky_iconst (v := (0 : Int32)) (n := 403) dL_law_402 rfl rfl ?_
    cases hf
    exact ky_zreturn dL_law_403 rfl (Or.inl rfl)
def fL_law_L424 (L : Nat) (rec23 : Int32 → ky_St → Option (Int32 × ky_St)) (x4 : Int32) (σ : ky_St) : Option (Int32 × ky_St) :=
  ky_g (¬ ((x4 + (1 : Int32)) < 0 ∨ L ≤ (x4 + (1 : Int32)).toNatClampNeg)) (
  ky_g (¬ ((x4 + (2 : Int32)) < 0 ∨ L ≤ (x4 + (2 : Int32)).toNatClampNeg)) (
  ky_bd (fL_swap (σ.1 15 (x4 + (1 : Int32)).toNatClampNeg) (σ.1 15 (x4 + (2 : Int32)).toNatClampNeg) σ) fun v83 s81 =>
  ky_g (¬ ((x4 + (1 : Int32)) < 0 ∨ L ≤ (x4 + (1 : Int32)).toNatClampNeg)) (
  ky_g (¬ ((x4 + (2 : Int32)) < 0 ∨ L ≤ (x4 + (2 : Int32)).toNatClampNeg)) (
  ky_bd (fX4_swap (s81.1 15 (x4 + (1 : Int32)).toNatClampNeg) (s81.1 15 (x4 + (2 : Int32)).toNatClampNeg) s81) fun v88 s86 =>
  ky_bd (fX4_thrown s86) fun v91 s89 =>
  if v91 = v83 then (
  if v83 = 0 then (
  if (lg_cmp (s89.2 16) v88.toInt64) = 0 then (
  ky_bn (x4 + (4 : Int32)) fun v96 =>
  rec23 v96 s89) else (
  some ((0 : Int32), s89))) else (
  ky_bn (x4 + (4 : Int32)) fun v94 =>
  rec23 v94 s89)) else (
  some ((0 : Int32), s89))))))
set_option maxHeartbeats 4000000 in
set_option maxRecDepth 100000 in
theorem tL_law_L424 {G : ky_G} {L : Nat} (hL : ky_len G.2.2.2.1 15 = some L) {rec23 : Int32 → ky_St → Option (Int32 × ky_St)} {kq sq : Nat} (d : Nat) (hrec23 : ∀ (x4 : Int32) (σ : ky_St) (r : Int32) (σ' : ky_St), rec23 x4 σ = some (r, σ') → ky_T G mL_law (d + 9) kq sq 23 [(0, ky_r G 15), (1, ky_r G 0), (2, ky_r G 7), (3, ky_r G 16), (4, .int x4)] [] σ (.inr (some (.int r))) σ') : ∀ (x4 : Int32) (σ : ky_St) (r : Int32) (σ' : ky_St), fL_law_L424 L rec23 x4 σ = some (r, σ') → ky_T G mL_law (d + 9) (kq + 5) (sq + 30) 424 [(0, ky_r G 15), (1, ky_r G 0), (2, ky_r G 7), (3, ky_r G 16), (4, .int x4)] [] σ (.inr (some (.int r))) σ' := by
  intro x4 σ r σ' hf
  unfold fL_law_L424 at hf
  refine ky_aload_n (n := 425) dL_law_424 rfl rfl 1 rfl ?_
  refine ky_aload_n (n := 426) dL_law_425 rfl rfl 0 rfl ?_
  refine ky_iload (n := 428) dL_law_426 rfl 4 rfl ?_
  refine ky_iconst (v := (1 : Int32)) (n := 429) dL_law_428 rfl rfl ?_
  refine ky_iadd (n := 430) dL_law_429 rfl ?_
  obtain ⟨g79, hf⟩ := ky_ge hf
  refine ky_iald (n := 431) dL_law_430 rfl hL g79 ?_
  refine ky_aload_n (n := 432) dL_law_431 rfl rfl 0 rfl ?_
  refine ky_iload (n := 434) dL_law_432 rfl 4 rfl ?_
  refine ky_iconst (v := (2 : Int32)) (n := 435) dL_law_434 rfl rfl ?_
  refine ky_iadd (n := 436) dL_law_435 rfl ?_
  obtain ⟨g80, hf⟩ := ky_ge hf
  refine ky_iald (n := 437) dL_law_436 rfl hL g80 ?_
  refine ky_aload_n (n := 438) dL_law_437 rfl rfl 3 rfl ?_
  obtain ⟨v83, s81, h82, hf⟩ := ky_bd_e hf
  refine ky_bud (kc2 := kq + 4) (ks2 := sq + 24) (by omega) (by omega) ?_
  refine ky_callSW (kc := kq) (ks := sq) (kc2 := 4) (ks2 := 24) (as := [ky_r G 0, .int (σ.1 15 (x4 + (1 : Int32)).toNatClampNeg), .int (σ.1 15 (x4 + (2 : Int32)).toNatClampNeg), ky_r G 16]) (st := []) (KL_swap d (σ.1 15 (x4 + (1 : Int32)).toNatClampNeg) (σ.1 15 (x4 + (2 : Int32)).toNatClampNeg) σ _ _ h82) (by intro z; cases z) wcw_L_swap w_ini_L wst_L_swap ⟨by decide +kernel, by decide +kernel⟩ (na := 4) (by decide +kernel) (Nat.le_of_ble_eq_true rfl) wl_L_112 rfl rfl (Nat.le_of_ble_eq_true rfl) dL_law_438 rfl ?_
  refine ky_istore (lv' := [(5, .int v83), (0, ky_r G 15), (1, ky_r G 0), (2, ky_r G 7), (3, ky_r G 16), (4, .int x4)]) (n := 443) dL_law_441 rfl (Nat.le_of_ble_eq_true rfl) rfl ?_
  refine ky_aload_n (n := 444) dL_law_443 rfl rfl 3 rfl ?_
  refine ky_aload_n (n := 445) dL_law_444 rfl rfl 1 rfl ?_
  refine ky_iload (n := 447) dL_law_445 rfl 5 rfl ?_
  refine ky_iconst (v := (1 : Int32)) (n := 448) dL_law_447 rfl rfl ?_
  refine ky_iadd (n := 449) dL_law_448 rfl ?_
  obtain ⟨g84, hf⟩ := ky_ge hf
  refine ky_iald (n := 450) dL_law_449 rfl hL g84 ?_
  refine ky_aload_n (n := 451) dL_law_450 rfl rfl 1 rfl ?_
  refine ky_iload (n := 453) dL_law_451 rfl 5 rfl ?_
  refine ky_iconst (v := (2 : Int32)) (n := 454) dL_law_453 rfl rfl ?_
  refine ky_iadd (n := 455) dL_law_454 rfl ?_
  obtain ⟨g85, hf⟩ := ky_ge hf
  refine ky_iald (n := 456) dL_law_455 rfl hL g85 ?_
  obtain ⟨v88, s86, h87, hf⟩ := ky_bd_e hf
  refine ky_bud (kc2 := kq + 0) (ks2 := sq + 0) (by omega) (by omega) ?_
  refine ky_callV (kc := kq) (ks := sq) (kc2 := 0) (ks2 := 0) (k0 := 7) (as := [.int (s81.1 15 (x4 + (1 : Int32)).toNatClampNeg), .int (s81.1 15 (x4 + (2 : Int32)).toNatClampNeg)]) (st := []) (KX4_swap (d + 6) (s81.1 15 (x4 + (1 : Int32)).toNatClampNeg) (s81.1 15 (x4 + (2 : Int32)).toNatClampNeg) s81 _ _ h87) okX4_swap wl_L_114 kc_7 (q := (RX4, TX4, 12)) rfl rfl rfl rfl (Nat.le_of_ble_eq_true rfl) dL_law_456 rfl ?_
  refine ky_istore (lv' := [(6, .int v88), (5, .int v83), (0, ky_r G 15), (1, ky_r G 0), (2, ky_r G 7), (3, ky_r G 16), (4, .int x4)]) (n := 461) dL_law_459 rfl (Nat.le_of_ble_eq_true rfl) rfl ?_
  refine ky_aload_n (n := 462) dL_law_461 rfl rfl 4 rfl ?_
  obtain ⟨v91, s89, h90, hf⟩ := ky_bd_e hf
  refine ky_bud (kc2 := kq + 0) (ks2 := sq + 0) (by omega) (by omega) ?_
  refine ky_callV (kc := kq) (ks := sq) (kc2 := 0) (ks2 := 0) (k0 := 7) (as := []) (st := []) (KX4_thrown (d + 8) s86 _ _ h90) okX4_thrown wl_L_98 kc_7 (q := (RX4, TX4, 12)) rfl rfl rfl rfl (Nat.le_of_ble_eq_true rfl) dL_law_462 rfl ?_
  refine ky_iload (n := 467) dL_law_465 rfl 1 rfl ?_
  refine ky_icmp_eq (n := 470) (tgt := 472) dL_law_467 rfl rfl (fun c92 => ?_) (fun c92 => ?_)
  · have hf := ky_pos c92 hf
    refine ky_iload (n := 474) dL_law_472 rfl 1 rfl ?_
    refine ky_if_ne (n := 477) (tgt := 489) dL_law_474 rfl rfl (fun c93 => ?_) (fun c93 => ?_)
    · have hf := ky_neg c93 hf
      refine ky_goto (tgt := 1714) dL_law_489 rfl ?_
      refine ky_iincB (c := (4 : Int32)) (n := 1717) dL_law_1714 rfl 6 rfl rfl (Nat.le_of_ble_eq_true rfl) (fun v94 ev94 => ?_)
      have hf := ky_bn_e hf v94 ev94
      refine ky_lv (lv' := [(4, .int v94), (6, .int v88), (5, .int v83), (0, ky_r G 15), (1, ky_r G 0), (2, ky_r G 7), (3, ky_r G 16)]) rfl ?_
      refine ky_goto (tgt := 23) dL_law_1717 rfl ?_
      refine ky_bud (kc2 := kq) (ks2 := sq) (by omega) (by omega) ?_
      refine ky_sub [3, 4, 5, 6, 0] (lv' := [(0, ky_r G 15), (1, ky_r G 0), (2, ky_r G 7), (3, ky_r G 16), (4, .int v94)]) rfl ?_
      exact hrec23 v94 s89 _ _ hf
    · have hf := ky_pos c93 hf
      refine ky_aload_n (n := 478) dL_law_477 rfl rfl 5 rfl ?_
      refine ky_iconst (v := (0 : Int32)) (n := 479) dL_law_478 rfl rfl ?_
      refine ky_lald (n := 480) dL_law_479 rfl ?_
      refine ky_iload (n := 482) dL_law_480 rfl 0 rfl ?_
      refine ky_i2l (n := 483) dL_law_482 rfl ?_
      refine ky_lcmp (n := 484) dL_law_483 rfl ?_
      refine ky_if_eq (n := 487) (tgt := 489) dL_law_484 rfl rfl (fun c95 => ?_) (fun c95 => ?_)
      · have hf := ky_pos c95 hf
        refine ky_goto (tgt := 1714) dL_law_489 rfl ?_
        refine ky_iincB (c := (4 : Int32)) (n := 1717) dL_law_1714 rfl 6 rfl rfl (Nat.le_of_ble_eq_true rfl) (fun v96 ev96 => ?_)
        have hf := ky_bn_e hf v96 ev96
        refine ky_lv (lv' := [(4, .int v96), (6, .int v88), (5, .int v83), (0, ky_r G 15), (1, ky_r G 0), (2, ky_r G 7), (3, ky_r G 16)]) rfl ?_
        refine ky_goto (tgt := 23) dL_law_1717 rfl ?_
        refine ky_bud (kc2 := kq) (ks2 := sq) (by omega) (by omega) ?_
        refine ky_sub [3, 4, 5, 6, 0] (lv' := [(0, ky_r G 15), (1, ky_r G 0), (2, ky_r G 7), (3, ky_r G 16), (4, .int v96)]) rfl ?_
        exact hrec23 v96 s89 _ _ hf
      · have hf := ky_neg c95 hf
        refine ky_iconst (v := (0 : Int32)) (n := 488) dL_law_487 rfl rfl ?_
        cases hf
        exact ky_zreturn dL_law_488 rfl (Or.inl rfl)
  · have hf := ky_neg c92 hf
    refine ky_iconst (v := (0 : Int32)) (n := 471) dL_law_470 rfl rfl ?_
    cases hf
    exact ky_zreturn dL_law_471 rfl (Or.inl rfl)
def fL_law_L492 (L : Nat) (rec23 : Int32 → ky_St → Option (Int32 × ky_St)) (x4 : Int32) (σ : ky_St) : Option (Int32 × ky_St) :=
  ky_g (¬ ((x4 + (1 : Int32)) < 0 ∨ L ≤ (x4 + (1 : Int32)).toNatClampNeg)) (
  ky_g (¬ ((x4 + (2 : Int32)) < 0 ∨ L ≤ (x4 + (2 : Int32)).toNatClampNeg)) (
  ky_bd (fL_hire (σ.1 15 (x4 + (1 : Int32)).toNatClampNeg) (σ.1 15 (x4 + (2 : Int32)).toNatClampNeg) σ) fun v102 s100 =>
  ky_g (¬ ((x4 + (1 : Int32)) < 0 ∨ L ≤ (x4 + (1 : Int32)).toNatClampNeg)) (
  ky_g (¬ ((x4 + (2 : Int32)) < 0 ∨ L ≤ (x4 + (2 : Int32)).toNatClampNeg)) (
  ky_bd (fX4_hire (s100.1 15 (x4 + (1 : Int32)).toNatClampNeg) (s100.1 15 (x4 + (2 : Int32)).toNatClampNeg) s100) fun v107 s105 =>
  ky_bd (fX4_thrown s105) fun v110 s108 =>
  if v110 = v102 then (
  if v102 = 0 then (
  if (lg_cmp (s108.2 16) v107.toInt64) = 0 then (
  ky_bn (x4 + (4 : Int32)) fun v115 =>
  rec23 v115 s108) else (
  some ((0 : Int32), s108))) else (
  ky_bn (x4 + (4 : Int32)) fun v113 =>
  rec23 v113 s108)) else (
  some ((0 : Int32), s108))))))
set_option maxHeartbeats 4000000 in
set_option maxRecDepth 100000 in
theorem tL_law_L492 {G : ky_G} {L : Nat} (hL : ky_len G.2.2.2.1 15 = some L) {rec23 : Int32 → ky_St → Option (Int32 × ky_St)} {kq sq : Nat} (d : Nat) (hrec23 : ∀ (x4 : Int32) (σ : ky_St) (r : Int32) (σ' : ky_St), rec23 x4 σ = some (r, σ') → ky_T G mL_law (d + 9) kq sq 23 [(0, ky_r G 15), (1, ky_r G 0), (2, ky_r G 7), (3, ky_r G 16), (4, .int x4)] [] σ (.inr (some (.int r))) σ') : ∀ (x4 : Int32) (σ : ky_St) (r : Int32) (σ' : ky_St), fL_law_L492 L rec23 x4 σ = some (r, σ') → ky_T G mL_law (d + 9) (kq + 5) (sq + 30) 492 [(0, ky_r G 15), (1, ky_r G 0), (2, ky_r G 7), (3, ky_r G 16), (4, .int x4)] [] σ (.inr (some (.int r))) σ' := by
  intro x4 σ r σ' hf
  unfold fL_law_L492 at hf
  refine ky_aload_n (n := 493) dL_law_492 rfl rfl 1 rfl ?_
  refine ky_aload_n (n := 494) dL_law_493 rfl rfl 0 rfl ?_
  refine ky_iload (n := 496) dL_law_494 rfl 4 rfl ?_
  refine ky_iconst (v := (1 : Int32)) (n := 497) dL_law_496 rfl rfl ?_
  refine ky_iadd (n := 498) dL_law_497 rfl ?_
  obtain ⟨g98, hf⟩ := ky_ge hf
  refine ky_iald (n := 499) dL_law_498 rfl hL g98 ?_
  refine ky_aload_n (n := 500) dL_law_499 rfl rfl 0 rfl ?_
  refine ky_iload (n := 502) dL_law_500 rfl 4 rfl ?_
  refine ky_iconst (v := (2 : Int32)) (n := 503) dL_law_502 rfl rfl ?_
  refine ky_iadd (n := 504) dL_law_503 rfl ?_
  obtain ⟨g99, hf⟩ := ky_ge hf
  refine ky_iald (n := 505) dL_law_504 rfl hL g99 ?_
  refine ky_aload_n (n := 506) dL_law_505 rfl rfl 3 rfl ?_
  obtain ⟨v102, s100, h101, hf⟩ := ky_bd_e hf
  refine ky_bud (kc2 := kq + 2) (ks2 := sq + 12) (by omega) (by omega) ?_
  refine ky_callSW (kc := kq) (ks := sq) (kc2 := 2) (ks2 := 12) (as := [ky_r G 0, .int (σ.1 15 (x4 + (1 : Int32)).toNatClampNeg), .int (σ.1 15 (x4 + (2 : Int32)).toNatClampNeg), ky_r G 16]) (st := []) (KL_hire d (σ.1 15 (x4 + (1 : Int32)).toNatClampNeg) (σ.1 15 (x4 + (2 : Int32)).toNatClampNeg) σ _ _ h101) (by intro z; cases z) wcw_L_hire w_ini_L wst_L_hire ⟨by decide +kernel, by decide +kernel⟩ (na := 4) (by decide +kernel) (Nat.le_of_ble_eq_true rfl) wl_L_115 rfl rfl (Nat.le_of_ble_eq_true rfl) dL_law_506 rfl ?_
  refine ky_istore (lv' := [(5, .int v102), (0, ky_r G 15), (1, ky_r G 0), (2, ky_r G 7), (3, ky_r G 16), (4, .int x4)]) (n := 511) dL_law_509 rfl (Nat.le_of_ble_eq_true rfl) rfl ?_
  refine ky_aload_n (n := 512) dL_law_511 rfl rfl 3 rfl ?_
  refine ky_aload_n (n := 513) dL_law_512 rfl rfl 1 rfl ?_
  refine ky_iload (n := 515) dL_law_513 rfl 5 rfl ?_
  refine ky_iconst (v := (1 : Int32)) (n := 516) dL_law_515 rfl rfl ?_
  refine ky_iadd (n := 517) dL_law_516 rfl ?_
  obtain ⟨g103, hf⟩ := ky_ge hf
  refine ky_iald (n := 518) dL_law_517 rfl hL g103 ?_
  refine ky_aload_n (n := 519) dL_law_518 rfl rfl 1 rfl ?_
  refine ky_iload (n := 521) dL_law_519 rfl 5 rfl ?_
  refine ky_iconst (v := (2 : Int32)) (n := 522) dL_law_521 rfl rfl ?_
  refine ky_iadd (n := 523) dL_law_522 rfl ?_
  obtain ⟨g104, hf⟩ := ky_ge hf
  refine ky_iald (n := 524) dL_law_523 rfl hL g104 ?_
  obtain ⟨v107, s105, h106, hf⟩ := ky_bd_e hf
  refine ky_bud (kc2 := kq + 0) (ks2 := sq + 0) (by omega) (by omega) ?_
  refine ky_callV (kc := kq) (ks := sq) (kc2 := 0) (ks2 := 0) (k0 := 7) (as := [.int (s100.1 15 (x4 + (1 : Int32)).toNatClampNeg), .int (s100.1 15 (x4 + (2 : Int32)).toNatClampNeg)]) (st := []) (KX4_hire (d + 4) (s100.1 15 (x4 + (1 : Int32)).toNatClampNeg) (s100.1 15 (x4 + (2 : Int32)).toNatClampNeg) s100 _ _ h106) okX4_hire wl_L_117 kc_7 (q := (RX4, TX4, 12)) rfl rfl rfl rfl (Nat.le_of_ble_eq_true rfl) dL_law_524 rfl ?_
  refine ky_istore (lv' := [(6, .int v107), (5, .int v102), (0, ky_r G 15), (1, ky_r G 0), (2, ky_r G 7), (3, ky_r G 16), (4, .int x4)]) (n := 529) dL_law_527 rfl (Nat.le_of_ble_eq_true rfl) rfl ?_
  refine ky_aload_n (n := 530) dL_law_529 rfl rfl 4 rfl ?_
  obtain ⟨v110, s108, h109, hf⟩ := ky_bd_e hf
  refine ky_bud (kc2 := kq + 0) (ks2 := sq + 0) (by omega) (by omega) ?_
  refine ky_callV (kc := kq) (ks := sq) (kc2 := 0) (ks2 := 0) (k0 := 7) (as := []) (st := []) (KX4_thrown (d + 8) s105 _ _ h109) okX4_thrown wl_L_98 kc_7 (q := (RX4, TX4, 12)) rfl rfl rfl rfl (Nat.le_of_ble_eq_true rfl) dL_law_530 rfl ?_
  refine ky_iload (n := 535) dL_law_533 rfl 1 rfl ?_
  refine ky_icmp_eq (n := 538) (tgt := 540) dL_law_535 rfl rfl (fun c111 => ?_) (fun c111 => ?_)
  · have hf := ky_pos c111 hf
    refine ky_iload (n := 542) dL_law_540 rfl 1 rfl ?_
    refine ky_if_ne (n := 545) (tgt := 557) dL_law_542 rfl rfl (fun c112 => ?_) (fun c112 => ?_)
    · have hf := ky_neg c112 hf
      refine ky_goto (tgt := 1714) dL_law_557 rfl ?_
      refine ky_iincB (c := (4 : Int32)) (n := 1717) dL_law_1714 rfl 6 rfl rfl (Nat.le_of_ble_eq_true rfl) (fun v113 ev113 => ?_)
      have hf := ky_bn_e hf v113 ev113
      refine ky_lv (lv' := [(4, .int v113), (6, .int v107), (5, .int v102), (0, ky_r G 15), (1, ky_r G 0), (2, ky_r G 7), (3, ky_r G 16)]) rfl ?_
      refine ky_goto (tgt := 23) dL_law_1717 rfl ?_
      refine ky_bud (kc2 := kq) (ks2 := sq) (by omega) (by omega) ?_
      refine ky_sub [3, 4, 5, 6, 0] (lv' := [(0, ky_r G 15), (1, ky_r G 0), (2, ky_r G 7), (3, ky_r G 16), (4, .int v113)]) rfl ?_
      exact hrec23 v113 s108 _ _ hf
    · have hf := ky_pos c112 hf
      refine ky_aload_n (n := 546) dL_law_545 rfl rfl 5 rfl ?_
      refine ky_iconst (v := (0 : Int32)) (n := 547) dL_law_546 rfl rfl ?_
      refine ky_lald (n := 548) dL_law_547 rfl ?_
      refine ky_iload (n := 550) dL_law_548 rfl 0 rfl ?_
      refine ky_i2l (n := 551) dL_law_550 rfl ?_
      refine ky_lcmp (n := 552) dL_law_551 rfl ?_
      refine ky_if_eq (n := 555) (tgt := 557) dL_law_552 rfl rfl (fun c114 => ?_) (fun c114 => ?_)
      · have hf := ky_pos c114 hf
        refine ky_goto (tgt := 1714) dL_law_557 rfl ?_
        refine ky_iincB (c := (4 : Int32)) (n := 1717) dL_law_1714 rfl 6 rfl rfl (Nat.le_of_ble_eq_true rfl) (fun v115 ev115 => ?_)
        have hf := ky_bn_e hf v115 ev115
        refine ky_lv (lv' := [(4, .int v115), (6, .int v107), (5, .int v102), (0, ky_r G 15), (1, ky_r G 0), (2, ky_r G 7), (3, ky_r G 16)]) rfl ?_
        refine ky_goto (tgt := 23) dL_law_1717 rfl ?_
        refine ky_bud (kc2 := kq) (ks2 := sq) (by omega) (by omega) ?_
        refine ky_sub [3, 4, 5, 6, 0] (lv' := [(0, ky_r G 15), (1, ky_r G 0), (2, ky_r G 7), (3, ky_r G 16), (4, .int v115)]) rfl ?_
        exact hrec23 v115 s108 _ _ hf
      · have hf := ky_neg c114 hf
        refine ky_iconst (v := (0 : Int32)) (n := 556) dL_law_555 rfl rfl ?_
        cases hf
        exact ky_zreturn dL_law_556 rfl (Or.inl rfl)
  · have hf := ky_neg c111 hf
    refine ky_iconst (v := (0 : Int32)) (n := 539) dL_law_538 rfl rfl ?_
    cases hf
    exact ky_zreturn dL_law_539 rfl (Or.inl rfl)
def fL_law_L560 (L : Nat) (rec23 : Int32 → ky_St → Option (Int32 × ky_St)) (x4 : Int32) (σ : ky_St) : Option (Int32 × ky_St) :=
  ky_g (¬ ((x4 + (1 : Int32)) < 0 ∨ L ≤ (x4 + (1 : Int32)).toNatClampNeg)) (
  ky_g (¬ ((x4 + (2 : Int32)) < 0 ∨ L ≤ (x4 + (2 : Int32)).toNatClampNeg)) (
  ky_bd (fL_moveOn (σ.1 15 (x4 + (1 : Int32)).toNatClampNeg) (σ.1 15 (x4 + (2 : Int32)).toNatClampNeg) σ) fun v121 s119 =>
  ky_g (¬ ((x4 + (1 : Int32)) < 0 ∨ L ≤ (x4 + (1 : Int32)).toNatClampNeg)) (
  ky_g (¬ ((x4 + (2 : Int32)) < 0 ∨ L ≤ (x4 + (2 : Int32)).toNatClampNeg)) (
  ky_bd (fX4_moveOn (s119.1 15 (x4 + (1 : Int32)).toNatClampNeg) (s119.1 15 (x4 + (2 : Int32)).toNatClampNeg) s119) fun v126 s124 =>
  ky_bd (fX4_thrown s124) fun v129 s127 =>
  if v129 = v121 then (
  if v121 = 0 then (
  if (lg_cmp (s127.2 16) v126.toInt64) = 0 then (
  ky_bn (x4 + (4 : Int32)) fun v134 =>
  rec23 v134 s127) else (
  some ((0 : Int32), s127))) else (
  ky_bn (x4 + (4 : Int32)) fun v132 =>
  rec23 v132 s127)) else (
  some ((0 : Int32), s127))))))
set_option maxHeartbeats 4000000 in
set_option maxRecDepth 100000 in
theorem tL_law_L560 {G : ky_G} {L : Nat} (hL : ky_len G.2.2.2.1 15 = some L) {rec23 : Int32 → ky_St → Option (Int32 × ky_St)} {kq sq : Nat} (d : Nat) (hrec23 : ∀ (x4 : Int32) (σ : ky_St) (r : Int32) (σ' : ky_St), rec23 x4 σ = some (r, σ') → ky_T G mL_law (d + 9) kq sq 23 [(0, ky_r G 15), (1, ky_r G 0), (2, ky_r G 7), (3, ky_r G 16), (4, .int x4)] [] σ (.inr (some (.int r))) σ') : ∀ (x4 : Int32) (σ : ky_St) (r : Int32) (σ' : ky_St), fL_law_L560 L rec23 x4 σ = some (r, σ') → ky_T G mL_law (d + 9) (kq + 5) (sq + 30) 560 [(0, ky_r G 15), (1, ky_r G 0), (2, ky_r G 7), (3, ky_r G 16), (4, .int x4)] [] σ (.inr (some (.int r))) σ' := by
  intro x4 σ r σ' hf
  unfold fL_law_L560 at hf
  refine ky_aload_n (n := 561) dL_law_560 rfl rfl 1 rfl ?_
  refine ky_aload_n (n := 562) dL_law_561 rfl rfl 0 rfl ?_
  refine ky_iload (n := 564) dL_law_562 rfl 4 rfl ?_
  refine ky_iconst (v := (1 : Int32)) (n := 565) dL_law_564 rfl rfl ?_
  refine ky_iadd (n := 566) dL_law_565 rfl ?_
  obtain ⟨g117, hf⟩ := ky_ge hf
  refine ky_iald (n := 567) dL_law_566 rfl hL g117 ?_
  refine ky_aload_n (n := 568) dL_law_567 rfl rfl 0 rfl ?_
  refine ky_iload (n := 570) dL_law_568 rfl 4 rfl ?_
  refine ky_iconst (v := (2 : Int32)) (n := 571) dL_law_570 rfl rfl ?_
  refine ky_iadd (n := 572) dL_law_571 rfl ?_
  obtain ⟨g118, hf⟩ := ky_ge hf
  refine ky_iald (n := 573) dL_law_572 rfl hL g118 ?_
  refine ky_aload_n (n := 574) dL_law_573 rfl rfl 3 rfl ?_
  obtain ⟨v121, s119, h120, hf⟩ := ky_bd_e hf
  refine ky_bud (kc2 := kq + 3) (ks2 := sq + 18) (by omega) (by omega) ?_
  refine ky_callSW (kc := kq) (ks := sq) (kc2 := 3) (ks2 := 18) (as := [ky_r G 0, .int (σ.1 15 (x4 + (1 : Int32)).toNatClampNeg), .int (σ.1 15 (x4 + (2 : Int32)).toNatClampNeg), ky_r G 16]) (st := []) (KL_moveOn d (σ.1 15 (x4 + (1 : Int32)).toNatClampNeg) (σ.1 15 (x4 + (2 : Int32)).toNatClampNeg) σ _ _ h120) (by intro z; cases z) wcw_L_moveOn w_ini_L wst_L_moveOn ⟨by decide +kernel, by decide +kernel⟩ (na := 4) (by decide +kernel) (Nat.le_of_ble_eq_true rfl) wl_L_118 rfl rfl (Nat.le_of_ble_eq_true rfl) dL_law_574 rfl ?_
  refine ky_istore (lv' := [(5, .int v121), (0, ky_r G 15), (1, ky_r G 0), (2, ky_r G 7), (3, ky_r G 16), (4, .int x4)]) (n := 579) dL_law_577 rfl (Nat.le_of_ble_eq_true rfl) rfl ?_
  refine ky_aload_n (n := 580) dL_law_579 rfl rfl 3 rfl ?_
  refine ky_aload_n (n := 581) dL_law_580 rfl rfl 1 rfl ?_
  refine ky_iload (n := 583) dL_law_581 rfl 5 rfl ?_
  refine ky_iconst (v := (1 : Int32)) (n := 584) dL_law_583 rfl rfl ?_
  refine ky_iadd (n := 585) dL_law_584 rfl ?_
  obtain ⟨g122, hf⟩ := ky_ge hf
  refine ky_iald (n := 586) dL_law_585 rfl hL g122 ?_
  refine ky_aload_n (n := 587) dL_law_586 rfl rfl 1 rfl ?_
  refine ky_iload (n := 589) dL_law_587 rfl 5 rfl ?_
  refine ky_iconst (v := (2 : Int32)) (n := 590) dL_law_589 rfl rfl ?_
  refine ky_iadd (n := 591) dL_law_590 rfl ?_
  obtain ⟨g123, hf⟩ := ky_ge hf
  refine ky_iald (n := 592) dL_law_591 rfl hL g123 ?_
  obtain ⟨v126, s124, h125, hf⟩ := ky_bd_e hf
  refine ky_bud (kc2 := kq + 0) (ks2 := sq + 0) (by omega) (by omega) ?_
  refine ky_callV (kc := kq) (ks := sq) (kc2 := 0) (ks2 := 0) (k0 := 7) (as := [.int (s119.1 15 (x4 + (1 : Int32)).toNatClampNeg), .int (s119.1 15 (x4 + (2 : Int32)).toNatClampNeg)]) (st := []) (KX4_moveOn (d + 3) (s119.1 15 (x4 + (1 : Int32)).toNatClampNeg) (s119.1 15 (x4 + (2 : Int32)).toNatClampNeg) s119 _ _ h125) okX4_moveOn wl_L_120 kc_7 (q := (RX4, TX4, 12)) rfl rfl rfl rfl (Nat.le_of_ble_eq_true rfl) dL_law_592 rfl ?_
  refine ky_istore (lv' := [(6, .int v126), (5, .int v121), (0, ky_r G 15), (1, ky_r G 0), (2, ky_r G 7), (3, ky_r G 16), (4, .int x4)]) (n := 597) dL_law_595 rfl (Nat.le_of_ble_eq_true rfl) rfl ?_
  refine ky_aload_n (n := 598) dL_law_597 rfl rfl 4 rfl ?_
  obtain ⟨v129, s127, h128, hf⟩ := ky_bd_e hf
  refine ky_bud (kc2 := kq + 0) (ks2 := sq + 0) (by omega) (by omega) ?_
  refine ky_callV (kc := kq) (ks := sq) (kc2 := 0) (ks2 := 0) (k0 := 7) (as := []) (st := []) (KX4_thrown (d + 8) s124 _ _ h128) okX4_thrown wl_L_98 kc_7 (q := (RX4, TX4, 12)) rfl rfl rfl rfl (Nat.le_of_ble_eq_true rfl) dL_law_598 rfl ?_
  refine ky_iload (n := 603) dL_law_601 rfl 1 rfl ?_
  refine ky_icmp_eq (n := 606) (tgt := 608) dL_law_603 rfl rfl (fun c130 => ?_) (fun c130 => ?_)
  · have hf := ky_pos c130 hf
    refine ky_iload (n := 610) dL_law_608 rfl 1 rfl ?_
    refine ky_if_ne (n := 613) (tgt := 625) dL_law_610 rfl rfl (fun c131 => ?_) (fun c131 => ?_)
    · have hf := ky_neg c131 hf
      refine ky_goto (tgt := 1714) dL_law_625 rfl ?_
      refine ky_iincB (c := (4 : Int32)) (n := 1717) dL_law_1714 rfl 6 rfl rfl (Nat.le_of_ble_eq_true rfl) (fun v132 ev132 => ?_)
      have hf := ky_bn_e hf v132 ev132
      refine ky_lv (lv' := [(4, .int v132), (6, .int v126), (5, .int v121), (0, ky_r G 15), (1, ky_r G 0), (2, ky_r G 7), (3, ky_r G 16)]) rfl ?_
      refine ky_goto (tgt := 23) dL_law_1717 rfl ?_
      refine ky_bud (kc2 := kq) (ks2 := sq) (by omega) (by omega) ?_
      refine ky_sub [3, 4, 5, 6, 0] (lv' := [(0, ky_r G 15), (1, ky_r G 0), (2, ky_r G 7), (3, ky_r G 16), (4, .int v132)]) rfl ?_
      exact hrec23 v132 s127 _ _ hf
    · have hf := ky_pos c131 hf
      refine ky_aload_n (n := 614) dL_law_613 rfl rfl 5 rfl ?_
      refine ky_iconst (v := (0 : Int32)) (n := 615) dL_law_614 rfl rfl ?_
      refine ky_lald (n := 616) dL_law_615 rfl ?_
      refine ky_iload (n := 618) dL_law_616 rfl 0 rfl ?_
      refine ky_i2l (n := 619) dL_law_618 rfl ?_
      refine ky_lcmp (n := 620) dL_law_619 rfl ?_
      refine ky_if_eq (n := 623) (tgt := 625) dL_law_620 rfl rfl (fun c133 => ?_) (fun c133 => ?_)
      · have hf := ky_pos c133 hf
        refine ky_goto (tgt := 1714) dL_law_625 rfl ?_
        refine ky_iincB (c := (4 : Int32)) (n := 1717) dL_law_1714 rfl 6 rfl rfl (Nat.le_of_ble_eq_true rfl) (fun v134 ev134 => ?_)
        have hf := ky_bn_e hf v134 ev134
        refine ky_lv (lv' := [(4, .int v134), (6, .int v126), (5, .int v121), (0, ky_r G 15), (1, ky_r G 0), (2, ky_r G 7), (3, ky_r G 16)]) rfl ?_
        refine ky_goto (tgt := 23) dL_law_1717 rfl ?_
        refine ky_bud (kc2 := kq) (ks2 := sq) (by omega) (by omega) ?_
        refine ky_sub [3, 4, 5, 6, 0] (lv' := [(0, ky_r G 15), (1, ky_r G 0), (2, ky_r G 7), (3, ky_r G 16), (4, .int v134)]) rfl ?_
        exact hrec23 v134 s127 _ _ hf
      · have hf := ky_neg c133 hf
        refine ky_iconst (v := (0 : Int32)) (n := 624) dL_law_623 rfl rfl ?_
        cases hf
        exact ky_zreturn dL_law_624 rfl (Or.inl rfl)
  · have hf := ky_neg c130 hf
    refine ky_iconst (v := (0 : Int32)) (n := 607) dL_law_606 rfl rfl ?_
    cases hf
    exact ky_zreturn dL_law_607 rfl (Or.inl rfl)
def fL_law_L628 (L : Nat) (rec23 : Int32 → ky_St → Option (Int32 × ky_St)) (x4 : Int32) (σ : ky_St) : Option (Int32 × ky_St) :=
  ky_g (¬ ((x4 + (1 : Int32)) < 0 ∨ L ≤ (x4 + (1 : Int32)).toNatClampNeg)) (
  ky_bd (fL_bring (σ.1 15 (x4 + (1 : Int32)).toNatClampNeg) σ) fun v139 s137 =>
  ky_g (¬ ((x4 + (1 : Int32)) < 0 ∨ L ≤ (x4 + (1 : Int32)).toNatClampNeg)) (
  ky_bd (fX4_bring (s137.1 15 (x4 + (1 : Int32)).toNatClampNeg) s137) fun v143 s141 =>
  ky_bd (fX4_thrown s141) fun v146 s144 =>
  if v146 = v139 then (
  if v139 = 0 then (
  if (lg_cmp (s144.2 16) v143.toInt64) = 0 then (
  ky_bn (x4 + (4 : Int32)) fun v151 =>
  rec23 v151 s144) else (
  some ((0 : Int32), s144))) else (
  ky_bn (x4 + (4 : Int32)) fun v149 =>
  rec23 v149 s144)) else (
  some ((0 : Int32), s144))))
set_option maxHeartbeats 4000000 in
set_option maxRecDepth 100000 in
theorem tL_law_L628 {G : ky_G} {L : Nat} (hL : ky_len G.2.2.2.1 15 = some L) {rec23 : Int32 → ky_St → Option (Int32 × ky_St)} {kq sq : Nat} (d : Nat) (hrec23 : ∀ (x4 : Int32) (σ : ky_St) (r : Int32) (σ' : ky_St), rec23 x4 σ = some (r, σ') → ky_T G mL_law (d + 9) kq sq 23 [(0, ky_r G 15), (1, ky_r G 0), (2, ky_r G 7), (3, ky_r G 16), (4, .int x4)] [] σ (.inr (some (.int r))) σ') : ∀ (x4 : Int32) (σ : ky_St) (r : Int32) (σ' : ky_St), fL_law_L628 L rec23 x4 σ = some (r, σ') → ky_T G mL_law (d + 9) (kq + 5) (sq + 30) 628 [(0, ky_r G 15), (1, ky_r G 0), (2, ky_r G 7), (3, ky_r G 16), (4, .int x4)] [] σ (.inr (some (.int r))) σ' := by
  intro x4 σ r σ' hf
  unfold fL_law_L628 at hf
  refine ky_aload_n (n := 629) dL_law_628 rfl rfl 1 rfl ?_
  refine ky_aload_n (n := 630) dL_law_629 rfl rfl 0 rfl ?_
  refine ky_iload (n := 632) dL_law_630 rfl 4 rfl ?_
  refine ky_iconst (v := (1 : Int32)) (n := 633) dL_law_632 rfl rfl ?_
  refine ky_iadd (n := 634) dL_law_633 rfl ?_
  obtain ⟨g136, hf⟩ := ky_ge hf
  refine ky_iald (n := 635) dL_law_634 rfl hL g136 ?_
  refine ky_aload_n (n := 636) dL_law_635 rfl rfl 3 rfl ?_
  obtain ⟨v139, s137, h138, hf⟩ := ky_bd_e hf
  refine ky_bud (kc2 := kq + 2) (ks2 := sq + 12) (by omega) (by omega) ?_
  refine ky_callSW (kc := kq) (ks := sq) (kc2 := 2) (ks2 := 12) (as := [ky_r G 0, .int (σ.1 15 (x4 + (1 : Int32)).toNatClampNeg), ky_r G 16]) (st := []) (KL_bring d (σ.1 15 (x4 + (1 : Int32)).toNatClampNeg) σ _ _ h138) (by intro z; cases z) wcw_L_bring w_ini_L wst_L_bring ⟨by decide +kernel, by decide +kernel⟩ (na := 3) (by decide +kernel) (Nat.le_of_ble_eq_true rfl) wl_L_121 rfl rfl (Nat.le_of_ble_eq_true rfl) dL_law_636 rfl ?_
  refine ky_istore (lv' := [(5, .int v139), (0, ky_r G 15), (1, ky_r G 0), (2, ky_r G 7), (3, ky_r G 16), (4, .int x4)]) (n := 641) dL_law_639 rfl (Nat.le_of_ble_eq_true rfl) rfl ?_
  refine ky_aload_n (n := 642) dL_law_641 rfl rfl 3 rfl ?_
  refine ky_aload_n (n := 643) dL_law_642 rfl rfl 1 rfl ?_
  refine ky_iload (n := 645) dL_law_643 rfl 5 rfl ?_
  refine ky_iconst (v := (1 : Int32)) (n := 646) dL_law_645 rfl rfl ?_
  refine ky_iadd (n := 647) dL_law_646 rfl ?_
  obtain ⟨g140, hf⟩ := ky_ge hf
  refine ky_iald (n := 648) dL_law_647 rfl hL g140 ?_
  obtain ⟨v143, s141, h142, hf⟩ := ky_bd_e hf
  refine ky_bud (kc2 := kq + 0) (ks2 := sq + 0) (by omega) (by omega) ?_
  refine ky_callV (kc := kq) (ks := sq) (kc2 := 0) (ks2 := 0) (k0 := 7) (as := [.int (s137.1 15 (x4 + (1 : Int32)).toNatClampNeg)]) (st := []) (KX4_bring (d + 4) (s137.1 15 (x4 + (1 : Int32)).toNatClampNeg) s137 _ _ h142) okX4_bring wl_L_123 kc_7 (q := (RX4, TX4, 12)) rfl rfl rfl rfl (Nat.le_of_ble_eq_true rfl) dL_law_648 rfl ?_
  refine ky_istore (lv' := [(6, .int v143), (5, .int v139), (0, ky_r G 15), (1, ky_r G 0), (2, ky_r G 7), (3, ky_r G 16), (4, .int x4)]) (n := 653) dL_law_651 rfl (Nat.le_of_ble_eq_true rfl) rfl ?_
  refine ky_aload_n (n := 654) dL_law_653 rfl rfl 4 rfl ?_
  obtain ⟨v146, s144, h145, hf⟩ := ky_bd_e hf
  refine ky_bud (kc2 := kq + 0) (ks2 := sq + 0) (by omega) (by omega) ?_
  refine ky_callV (kc := kq) (ks := sq) (kc2 := 0) (ks2 := 0) (k0 := 7) (as := []) (st := []) (KX4_thrown (d + 8) s141 _ _ h145) okX4_thrown wl_L_98 kc_7 (q := (RX4, TX4, 12)) rfl rfl rfl rfl (Nat.le_of_ble_eq_true rfl) dL_law_654 rfl ?_
  refine ky_iload (n := 659) dL_law_657 rfl 1 rfl ?_
  refine ky_icmp_eq (n := 662) (tgt := 664) dL_law_659 rfl rfl (fun c147 => ?_) (fun c147 => ?_)
  · have hf := ky_pos c147 hf
    refine ky_iload (n := 666) dL_law_664 rfl 1 rfl ?_
    refine ky_if_ne (n := 669) (tgt := 681) dL_law_666 rfl rfl (fun c148 => ?_) (fun c148 => ?_)
    · have hf := ky_neg c148 hf
      refine ky_goto (tgt := 1714) dL_law_681 rfl ?_
      refine ky_iincB (c := (4 : Int32)) (n := 1717) dL_law_1714 rfl 6 rfl rfl (Nat.le_of_ble_eq_true rfl) (fun v149 ev149 => ?_)
      have hf := ky_bn_e hf v149 ev149
      refine ky_lv (lv' := [(4, .int v149), (6, .int v143), (5, .int v139), (0, ky_r G 15), (1, ky_r G 0), (2, ky_r G 7), (3, ky_r G 16)]) rfl ?_
      refine ky_goto (tgt := 23) dL_law_1717 rfl ?_
      refine ky_bud (kc2 := kq) (ks2 := sq) (by omega) (by omega) ?_
      refine ky_sub [3, 4, 5, 6, 0] (lv' := [(0, ky_r G 15), (1, ky_r G 0), (2, ky_r G 7), (3, ky_r G 16), (4, .int v149)]) rfl ?_
      exact hrec23 v149 s144 _ _ hf
    · have hf := ky_pos c148 hf
      refine ky_aload_n (n := 670) dL_law_669 rfl rfl 5 rfl ?_
      refine ky_iconst (v := (0 : Int32)) (n := 671) dL_law_670 rfl rfl ?_
      refine ky_lald (n := 672) dL_law_671 rfl ?_
      refine ky_iload (n := 674) dL_law_672 rfl 0 rfl ?_
      refine ky_i2l (n := 675) dL_law_674 rfl ?_
      refine ky_lcmp (n := 676) dL_law_675 rfl ?_
      refine ky_if_eq (n := 679) (tgt := 681) dL_law_676 rfl rfl (fun c150 => ?_) (fun c150 => ?_)
      · have hf := ky_pos c150 hf
        refine ky_goto (tgt := 1714) dL_law_681 rfl ?_
        refine ky_iincB (c := (4 : Int32)) (n := 1717) dL_law_1714 rfl 6 rfl rfl (Nat.le_of_ble_eq_true rfl) (fun v151 ev151 => ?_)
        have hf := ky_bn_e hf v151 ev151
        refine ky_lv (lv' := [(4, .int v151), (6, .int v143), (5, .int v139), (0, ky_r G 15), (1, ky_r G 0), (2, ky_r G 7), (3, ky_r G 16)]) rfl ?_
        refine ky_goto (tgt := 23) dL_law_1717 rfl ?_
        refine ky_bud (kc2 := kq) (ks2 := sq) (by omega) (by omega) ?_
        refine ky_sub [3, 4, 5, 6, 0] (lv' := [(0, ky_r G 15), (1, ky_r G 0), (2, ky_r G 7), (3, ky_r G 16), (4, .int v151)]) rfl ?_
        exact hrec23 v151 s144 _ _ hf
      · have hf := ky_neg c150 hf
        refine ky_iconst (v := (0 : Int32)) (n := 680) dL_law_679 rfl rfl ?_
        cases hf
        exact ky_zreturn dL_law_680 rfl (Or.inl rfl)
  · have hf := ky_neg c147 hf
    refine ky_iconst (v := (0 : Int32)) (n := 663) dL_law_662 rfl rfl ?_
    cases hf
    exact ky_zreturn dL_law_663 rfl (Or.inl rfl)
def fL_law_L684 (L : Nat) (rec23 : Int32 → ky_St → Option (Int32 × ky_St)) (x4 : Int32) (σ : ky_St) : Option (Int32 × ky_St) :=
  ky_g (¬ ((x4 + (1 : Int32)) < 0 ∨ L ≤ (x4 + (1 : Int32)).toNatClampNeg)) (
  ky_g (¬ ((x4 + (2 : Int32)) < 0 ∨ L ≤ (x4 + (2 : Int32)).toNatClampNeg)) (
  ky_g (¬ ((x4 + (3 : Int32)) < 0 ∨ L ≤ (x4 + (3 : Int32)).toNatClampNeg)) (
  ky_bd (fL_bringShort (σ.1 15 (x4 + (1 : Int32)).toNatClampNeg) (σ.1 15 (x4 + (2 : Int32)).toNatClampNeg) (σ.1 15 (x4 + (3 : Int32)).toNatClampNeg) σ) fun v158 s156 =>
  ky_g (¬ ((x4 + (1 : Int32)) < 0 ∨ L ≤ (x4 + (1 : Int32)).toNatClampNeg)) (
  ky_g (¬ ((x4 + (2 : Int32)) < 0 ∨ L ≤ (x4 + (2 : Int32)).toNatClampNeg)) (
  ky_g (¬ ((x4 + (3 : Int32)) < 0 ∨ L ≤ (x4 + (3 : Int32)).toNatClampNeg)) (
  ky_bd (fX4_bringShort (s156.1 15 (x4 + (1 : Int32)).toNatClampNeg) (s156.1 15 (x4 + (2 : Int32)).toNatClampNeg) (s156.1 15 (x4 + (3 : Int32)).toNatClampNeg) s156) fun v164 s162 =>
  ky_bd (fX4_thrown s162) fun v167 s165 =>
  if v167 = v158 then (
  if v158 = 0 then (
  if (lg_cmp (s165.2 16) v164.toInt64) = 0 then (
  ky_bn (x4 + (4 : Int32)) fun v172 =>
  rec23 v172 s165) else (
  some ((0 : Int32), s165))) else (
  ky_bn (x4 + (4 : Int32)) fun v170 =>
  rec23 v170 s165)) else (
  some ((0 : Int32), s165))))))))
set_option maxHeartbeats 4000000 in
set_option maxRecDepth 100000 in
theorem tL_law_L684 {G : ky_G} {L : Nat} (hL : ky_len G.2.2.2.1 15 = some L) {rec23 : Int32 → ky_St → Option (Int32 × ky_St)} {kq sq : Nat} (d : Nat) (hrec23 : ∀ (x4 : Int32) (σ : ky_St) (r : Int32) (σ' : ky_St), rec23 x4 σ = some (r, σ') → ky_T G mL_law (d + 9) kq sq 23 [(0, ky_r G 15), (1, ky_r G 0), (2, ky_r G 7), (3, ky_r G 16), (4, .int x4)] [] σ (.inr (some (.int r))) σ') : ∀ (x4 : Int32) (σ : ky_St) (r : Int32) (σ' : ky_St), fL_law_L684 L rec23 x4 σ = some (r, σ') → ky_T G mL_law (d + 9) (kq + 5) (sq + 30) 684 [(0, ky_r G 15), (1, ky_r G 0), (2, ky_r G 7), (3, ky_r G 16), (4, .int x4)] [] σ (.inr (some (.int r))) σ' := by
  intro x4 σ r σ' hf
  unfold fL_law_L684 at hf
  refine ky_aload_n (n := 685) dL_law_684 rfl rfl 1 rfl ?_
  refine ky_aload_n (n := 686) dL_law_685 rfl rfl 0 rfl ?_
  refine ky_iload (n := 688) dL_law_686 rfl 4 rfl ?_
  refine ky_iconst (v := (1 : Int32)) (n := 689) dL_law_688 rfl rfl ?_
  refine ky_iadd (n := 690) dL_law_689 rfl ?_
  obtain ⟨g153, hf⟩ := ky_ge hf
  refine ky_iald (n := 691) dL_law_690 rfl hL g153 ?_
  refine ky_aload_n (n := 692) dL_law_691 rfl rfl 0 rfl ?_
  refine ky_iload (n := 694) dL_law_692 rfl 4 rfl ?_
  refine ky_iconst (v := (2 : Int32)) (n := 695) dL_law_694 rfl rfl ?_
  refine ky_iadd (n := 696) dL_law_695 rfl ?_
  obtain ⟨g154, hf⟩ := ky_ge hf
  refine ky_iald (n := 697) dL_law_696 rfl hL g154 ?_
  refine ky_aload_n (n := 698) dL_law_697 rfl rfl 0 rfl ?_
  refine ky_iload (n := 700) dL_law_698 rfl 4 rfl ?_
  refine ky_iconst (v := (3 : Int32)) (n := 701) dL_law_700 rfl rfl ?_
  refine ky_iadd (n := 702) dL_law_701 rfl ?_
  obtain ⟨g155, hf⟩ := ky_ge hf
  refine ky_iald (n := 703) dL_law_702 rfl hL g155 ?_
  refine ky_aload_n (n := 704) dL_law_703 rfl rfl 3 rfl ?_
  obtain ⟨v158, s156, h157, hf⟩ := ky_bd_e hf
  refine ky_bud (kc2 := kq + 5) (ks2 := sq + 30) (by omega) (by omega) ?_
  refine ky_callSW (kc := kq) (ks := sq) (kc2 := 5) (ks2 := 30) (as := [ky_r G 0, .int (σ.1 15 (x4 + (1 : Int32)).toNatClampNeg), .int (σ.1 15 (x4 + (2 : Int32)).toNatClampNeg), .int (σ.1 15 (x4 + (3 : Int32)).toNatClampNeg), ky_r G 16]) (st := []) (KL_bringShort d (σ.1 15 (x4 + (1 : Int32)).toNatClampNeg) (σ.1 15 (x4 + (2 : Int32)).toNatClampNeg) (σ.1 15 (x4 + (3 : Int32)).toNatClampNeg) σ _ _ h157) (by intro z; cases z) wcw_L_bringShort w_ini_L wst_L_bringShort ⟨by decide +kernel, by decide +kernel⟩ (na := 5) (by decide +kernel) (Nat.le_of_ble_eq_true rfl) wl_L_124 rfl rfl (Nat.le_of_ble_eq_true rfl) dL_law_704 rfl ?_
  refine ky_istore (lv' := [(5, .int v158), (0, ky_r G 15), (1, ky_r G 0), (2, ky_r G 7), (3, ky_r G 16), (4, .int x4)]) (n := 709) dL_law_707 rfl (Nat.le_of_ble_eq_true rfl) rfl ?_
  refine ky_aload_n (n := 710) dL_law_709 rfl rfl 3 rfl ?_
  refine ky_aload_n (n := 711) dL_law_710 rfl rfl 1 rfl ?_
  refine ky_iload (n := 713) dL_law_711 rfl 5 rfl ?_
  refine ky_iconst (v := (1 : Int32)) (n := 714) dL_law_713 rfl rfl ?_
  refine ky_iadd (n := 715) dL_law_714 rfl ?_
  obtain ⟨g159, hf⟩ := ky_ge hf
  refine ky_iald (n := 716) dL_law_715 rfl hL g159 ?_
  refine ky_aload_n (n := 717) dL_law_716 rfl rfl 1 rfl ?_
  refine ky_iload (n := 719) dL_law_717 rfl 5 rfl ?_
  refine ky_iconst (v := (2 : Int32)) (n := 720) dL_law_719 rfl rfl ?_
  refine ky_iadd (n := 721) dL_law_720 rfl ?_
  obtain ⟨g160, hf⟩ := ky_ge hf
  refine ky_iald (n := 722) dL_law_721 rfl hL g160 ?_
  refine ky_aload_n (n := 723) dL_law_722 rfl rfl 1 rfl ?_
  refine ky_iload (n := 725) dL_law_723 rfl 5 rfl ?_
  refine ky_iconst (v := (3 : Int32)) (n := 726) dL_law_725 rfl rfl ?_
  refine ky_iadd (n := 727) dL_law_726 rfl ?_
  obtain ⟨g161, hf⟩ := ky_ge hf
  refine ky_iald (n := 728) dL_law_727 rfl hL g161 ?_
  obtain ⟨v164, s162, h163, hf⟩ := ky_bd_e hf
  refine ky_bud (kc2 := kq + 0) (ks2 := sq + 0) (by omega) (by omega) ?_
  refine ky_callV (kc := kq) (ks := sq) (kc2 := 0) (ks2 := 0) (k0 := 7) (as := [.int (s156.1 15 (x4 + (1 : Int32)).toNatClampNeg), .int (s156.1 15 (x4 + (2 : Int32)).toNatClampNeg), .int (s156.1 15 (x4 + (3 : Int32)).toNatClampNeg)]) (st := []) (KX4_bringShort (d + 4) (s156.1 15 (x4 + (1 : Int32)).toNatClampNeg) (s156.1 15 (x4 + (2 : Int32)).toNatClampNeg) (s156.1 15 (x4 + (3 : Int32)).toNatClampNeg) s156 _ _ h163) okX4_bringShort wl_L_126 kc_7 (q := (RX4, TX4, 12)) rfl rfl rfl rfl (Nat.le_of_ble_eq_true rfl) dL_law_728 rfl ?_
  refine ky_istore (lv' := [(6, .int v164), (5, .int v158), (0, ky_r G 15), (1, ky_r G 0), (2, ky_r G 7), (3, ky_r G 16), (4, .int x4)]) (n := 733) dL_law_731 rfl (Nat.le_of_ble_eq_true rfl) rfl ?_
  refine ky_aload_n (n := 734) dL_law_733 rfl rfl 4 rfl ?_
  obtain ⟨v167, s165, h166, hf⟩ := ky_bd_e hf
  refine ky_bud (kc2 := kq + 0) (ks2 := sq + 0) (by omega) (by omega) ?_
  refine ky_callV (kc := kq) (ks := sq) (kc2 := 0) (ks2 := 0) (k0 := 7) (as := []) (st := []) (KX4_thrown (d + 8) s162 _ _ h166) okX4_thrown wl_L_98 kc_7 (q := (RX4, TX4, 12)) rfl rfl rfl rfl (Nat.le_of_ble_eq_true rfl) dL_law_734 rfl ?_
  refine ky_iload (n := 739) dL_law_737 rfl 1 rfl ?_
  refine ky_icmp_eq (n := 742) (tgt := 744) dL_law_739 rfl rfl (fun c168 => ?_) (fun c168 => ?_)
  · have hf := ky_pos c168 hf
    refine ky_iload (n := 746) dL_law_744 rfl 1 rfl ?_
    refine ky_if_ne (n := 749) (tgt := 761) dL_law_746 rfl rfl (fun c169 => ?_) (fun c169 => ?_)
    · have hf := ky_neg c169 hf
      refine ky_goto (tgt := 1714) dL_law_761 rfl ?_
      refine ky_iincB (c := (4 : Int32)) (n := 1717) dL_law_1714 rfl 6 rfl rfl (Nat.le_of_ble_eq_true rfl) (fun v170 ev170 => ?_)
      have hf := ky_bn_e hf v170 ev170
      refine ky_lv (lv' := [(4, .int v170), (6, .int v164), (5, .int v158), (0, ky_r G 15), (1, ky_r G 0), (2, ky_r G 7), (3, ky_r G 16)]) rfl ?_
      refine ky_goto (tgt := 23) dL_law_1717 rfl ?_
      refine ky_bud (kc2 := kq) (ks2 := sq) (by omega) (by omega) ?_
      refine ky_sub [3, 4, 5, 6, 0] (lv' := [(0, ky_r G 15), (1, ky_r G 0), (2, ky_r G 7), (3, ky_r G 16), (4, .int v170)]) rfl ?_
      exact hrec23 v170 s165 _ _ hf
    · have hf := ky_pos c169 hf
      refine ky_aload_n (n := 750) dL_law_749 rfl rfl 5 rfl ?_
      refine ky_iconst (v := (0 : Int32)) (n := 751) dL_law_750 rfl rfl ?_
      refine ky_lald (n := 752) dL_law_751 rfl ?_
      refine ky_iload (n := 754) dL_law_752 rfl 0 rfl ?_
      refine ky_i2l (n := 755) dL_law_754 rfl ?_
      refine ky_lcmp (n := 756) dL_law_755 rfl ?_
      refine ky_if_eq (n := 759) (tgt := 761) dL_law_756 rfl rfl (fun c171 => ?_) (fun c171 => ?_)
      · have hf := ky_pos c171 hf
        refine ky_goto (tgt := 1714) dL_law_761 rfl ?_
        refine ky_iincB (c := (4 : Int32)) (n := 1717) dL_law_1714 rfl 6 rfl rfl (Nat.le_of_ble_eq_true rfl) (fun v172 ev172 => ?_)
        have hf := ky_bn_e hf v172 ev172
        refine ky_lv (lv' := [(4, .int v172), (6, .int v164), (5, .int v158), (0, ky_r G 15), (1, ky_r G 0), (2, ky_r G 7), (3, ky_r G 16)]) rfl ?_
        refine ky_goto (tgt := 23) dL_law_1717 rfl ?_
        refine ky_bud (kc2 := kq) (ks2 := sq) (by omega) (by omega) ?_
        refine ky_sub [3, 4, 5, 6, 0] (lv' := [(0, ky_r G 15), (1, ky_r G 0), (2, ky_r G 7), (3, ky_r G 16), (4, .int v172)]) rfl ?_
        exact hrec23 v172 s165 _ _ hf
      · have hf := ky_neg c171 hf
        refine ky_iconst (v := (0 : Int32)) (n := 760) dL_law_759 rfl rfl ?_
        cases hf
        exact ky_zreturn dL_law_760 rfl (Or.inl rfl)
  · have hf := ky_neg c168 hf
    refine ky_iconst (v := (0 : Int32)) (n := 743) dL_law_742 rfl rfl ?_
    cases hf
    exact ky_zreturn dL_law_743 rfl (Or.inl rfl)
def fL_law_L764 (L : Nat) (rec23 : Int32 → ky_St → Option (Int32 × ky_St)) (x4 : Int32) (σ : ky_St) : Option (Int32 × ky_St) :=
  ky_g (¬ ((x4 + (1 : Int32)) < 0 ∨ L ≤ (x4 + (1 : Int32)).toNatClampNeg)) (
  ky_g (¬ ((x4 + (2 : Int32)) < 0 ∨ L ≤ (x4 + (2 : Int32)).toNatClampNeg)) (
  ky_bd (fL_pay (σ.1 15 (x4 + (1 : Int32)).toNatClampNeg) (σ.1 15 (x4 + (2 : Int32)).toNatClampNeg) σ) fun v178 s176 =>
  ky_g (¬ ((x4 + (1 : Int32)) < 0 ∨ L ≤ (x4 + (1 : Int32)).toNatClampNeg)) (
  ky_g (¬ ((x4 + (2 : Int32)) < 0 ∨ L ≤ (x4 + (2 : Int32)).toNatClampNeg)) (
  ky_bd (fX4_pay (s176.1 15 (x4 + (1 : Int32)).toNatClampNeg) (s176.1 15 (x4 + (2 : Int32)).toNatClampNeg) s176) fun v183 s181 =>
  ky_bd (fX4_thrown s181) fun v186 s184 =>
  if v186 = v178 then (
  if v178 = 0 then (
  if (lg_cmp (s184.2 16) v183.toInt64) = 0 then (
  ky_bn (x4 + (4 : Int32)) fun v191 =>
  rec23 v191 s184) else (
  some ((0 : Int32), s184))) else (
  ky_bn (x4 + (4 : Int32)) fun v189 =>
  rec23 v189 s184)) else (
  some ((0 : Int32), s184))))))
set_option maxHeartbeats 4000000 in
set_option maxRecDepth 100000 in
theorem tL_law_L764 {G : ky_G} {L : Nat} (hL : ky_len G.2.2.2.1 15 = some L) {rec23 : Int32 → ky_St → Option (Int32 × ky_St)} {kq sq : Nat} (d : Nat) (hrec23 : ∀ (x4 : Int32) (σ : ky_St) (r : Int32) (σ' : ky_St), rec23 x4 σ = some (r, σ') → ky_T G mL_law (d + 9) kq sq 23 [(0, ky_r G 15), (1, ky_r G 0), (2, ky_r G 7), (3, ky_r G 16), (4, .int x4)] [] σ (.inr (some (.int r))) σ') : ∀ (x4 : Int32) (σ : ky_St) (r : Int32) (σ' : ky_St), fL_law_L764 L rec23 x4 σ = some (r, σ') → ky_T G mL_law (d + 9) (kq + 5) (sq + 30) 764 [(0, ky_r G 15), (1, ky_r G 0), (2, ky_r G 7), (3, ky_r G 16), (4, .int x4)] [] σ (.inr (some (.int r))) σ' := by
  intro x4 σ r σ' hf
  unfold fL_law_L764 at hf
  refine ky_aload_n (n := 765) dL_law_764 rfl rfl 1 rfl ?_
  refine ky_aload_n (n := 766) dL_law_765 rfl rfl 0 rfl ?_
  refine ky_iload (n := 768) dL_law_766 rfl 4 rfl ?_
  refine ky_iconst (v := (1 : Int32)) (n := 769) dL_law_768 rfl rfl ?_
  refine ky_iadd (n := 770) dL_law_769 rfl ?_
  obtain ⟨g174, hf⟩ := ky_ge hf
  refine ky_iald (n := 771) dL_law_770 rfl hL g174 ?_
  refine ky_aload_n (n := 772) dL_law_771 rfl rfl 0 rfl ?_
  refine ky_iload (n := 774) dL_law_772 rfl 4 rfl ?_
  refine ky_iconst (v := (2 : Int32)) (n := 775) dL_law_774 rfl rfl ?_
  refine ky_iadd (n := 776) dL_law_775 rfl ?_
  obtain ⟨g175, hf⟩ := ky_ge hf
  refine ky_iald (n := 777) dL_law_776 rfl hL g175 ?_
  refine ky_aload_n (n := 778) dL_law_777 rfl rfl 3 rfl ?_
  obtain ⟨v178, s176, h177, hf⟩ := ky_bd_e hf
  refine ky_bud (kc2 := kq + 2) (ks2 := sq + 12) (by omega) (by omega) ?_
  refine ky_callSW (kc := kq) (ks := sq) (kc2 := 2) (ks2 := 12) (as := [ky_r G 0, .int (σ.1 15 (x4 + (1 : Int32)).toNatClampNeg), .int (σ.1 15 (x4 + (2 : Int32)).toNatClampNeg), ky_r G 16]) (st := []) (KL_pay d (σ.1 15 (x4 + (1 : Int32)).toNatClampNeg) (σ.1 15 (x4 + (2 : Int32)).toNatClampNeg) σ _ _ h177) (by intro z; cases z) wcw_L_pay w_ini_L wst_L_pay ⟨by decide +kernel, by decide +kernel⟩ (na := 4) (by decide +kernel) (Nat.le_of_ble_eq_true rfl) wl_L_127 rfl rfl (Nat.le_of_ble_eq_true rfl) dL_law_778 rfl ?_
  refine ky_istore (lv' := [(5, .int v178), (0, ky_r G 15), (1, ky_r G 0), (2, ky_r G 7), (3, ky_r G 16), (4, .int x4)]) (n := 783) dL_law_781 rfl (Nat.le_of_ble_eq_true rfl) rfl ?_
  refine ky_aload_n (n := 784) dL_law_783 rfl rfl 3 rfl ?_
  refine ky_aload_n (n := 785) dL_law_784 rfl rfl 1 rfl ?_
  refine ky_iload (n := 787) dL_law_785 rfl 5 rfl ?_
  refine ky_iconst (v := (1 : Int32)) (n := 788) dL_law_787 rfl rfl ?_
  refine ky_iadd (n := 789) dL_law_788 rfl ?_
  obtain ⟨g179, hf⟩ := ky_ge hf
  refine ky_iald (n := 790) dL_law_789 rfl hL g179 ?_
  refine ky_aload_n (n := 791) dL_law_790 rfl rfl 1 rfl ?_
  refine ky_iload (n := 793) dL_law_791 rfl 5 rfl ?_
  refine ky_iconst (v := (2 : Int32)) (n := 794) dL_law_793 rfl rfl ?_
  refine ky_iadd (n := 795) dL_law_794 rfl ?_
  obtain ⟨g180, hf⟩ := ky_ge hf
  refine ky_iald (n := 796) dL_law_795 rfl hL g180 ?_
  obtain ⟨v183, s181, h182, hf⟩ := ky_bd_e hf
  refine ky_bud (kc2 := kq + 0) (ks2 := sq + 0) (by omega) (by omega) ?_
  refine ky_callV (kc := kq) (ks := sq) (kc2 := 0) (ks2 := 0) (k0 := 7) (as := [.int (s176.1 15 (x4 + (1 : Int32)).toNatClampNeg), .int (s176.1 15 (x4 + (2 : Int32)).toNatClampNeg)]) (st := []) (KX4_pay (d + 5) (s176.1 15 (x4 + (1 : Int32)).toNatClampNeg) (s176.1 15 (x4 + (2 : Int32)).toNatClampNeg) s176 _ _ h182) okX4_pay wl_L_129 kc_7 (q := (RX4, TX4, 12)) rfl rfl rfl rfl (Nat.le_of_ble_eq_true rfl) dL_law_796 rfl ?_
  refine ky_istore (lv' := [(6, .int v183), (5, .int v178), (0, ky_r G 15), (1, ky_r G 0), (2, ky_r G 7), (3, ky_r G 16), (4, .int x4)]) (n := 801) dL_law_799 rfl (Nat.le_of_ble_eq_true rfl) rfl ?_
  refine ky_aload_n (n := 802) dL_law_801 rfl rfl 4 rfl ?_
  obtain ⟨v186, s184, h185, hf⟩ := ky_bd_e hf
  refine ky_bud (kc2 := kq + 0) (ks2 := sq + 0) (by omega) (by omega) ?_
  refine ky_callV (kc := kq) (ks := sq) (kc2 := 0) (ks2 := 0) (k0 := 7) (as := []) (st := []) (KX4_thrown (d + 8) s181 _ _ h185) okX4_thrown wl_L_98 kc_7 (q := (RX4, TX4, 12)) rfl rfl rfl rfl (Nat.le_of_ble_eq_true rfl) dL_law_802 rfl ?_
  refine ky_iload (n := 807) dL_law_805 rfl 1 rfl ?_
  refine ky_icmp_eq (n := 810) (tgt := 812) dL_law_807 rfl rfl (fun c187 => ?_) (fun c187 => ?_)
  · have hf := ky_pos c187 hf
    refine ky_iload (n := 814) dL_law_812 rfl 1 rfl ?_
    refine ky_if_ne (n := 817) (tgt := 829) dL_law_814 rfl rfl (fun c188 => ?_) (fun c188 => ?_)
    · have hf := ky_neg c188 hf
      refine ky_goto (tgt := 1714) dL_law_829 rfl ?_
      refine ky_iincB (c := (4 : Int32)) (n := 1717) dL_law_1714 rfl 6 rfl rfl (Nat.le_of_ble_eq_true rfl) (fun v189 ev189 => ?_)
      have hf := ky_bn_e hf v189 ev189
      refine ky_lv (lv' := [(4, .int v189), (6, .int v183), (5, .int v178), (0, ky_r G 15), (1, ky_r G 0), (2, ky_r G 7), (3, ky_r G 16)]) rfl ?_
      refine ky_goto (tgt := 23) dL_law_1717 rfl ?_
      refine ky_bud (kc2 := kq) (ks2 := sq) (by omega) (by omega) ?_
      refine ky_sub [3, 4, 5, 6, 0] (lv' := [(0, ky_r G 15), (1, ky_r G 0), (2, ky_r G 7), (3, ky_r G 16), (4, .int v189)]) rfl ?_
      exact hrec23 v189 s184 _ _ hf
    · have hf := ky_pos c188 hf
      refine ky_aload_n (n := 818) dL_law_817 rfl rfl 5 rfl ?_
      refine ky_iconst (v := (0 : Int32)) (n := 819) dL_law_818 rfl rfl ?_
      refine ky_lald (n := 820) dL_law_819 rfl ?_
      refine ky_iload (n := 822) dL_law_820 rfl 0 rfl ?_
      refine ky_i2l (n := 823) dL_law_822 rfl ?_
      refine ky_lcmp (n := 824) dL_law_823 rfl ?_
      refine ky_if_eq (n := 827) (tgt := 829) dL_law_824 rfl rfl (fun c190 => ?_) (fun c190 => ?_)
      · have hf := ky_pos c190 hf
        refine ky_goto (tgt := 1714) dL_law_829 rfl ?_
        refine ky_iincB (c := (4 : Int32)) (n := 1717) dL_law_1714 rfl 6 rfl rfl (Nat.le_of_ble_eq_true rfl) (fun v191 ev191 => ?_)
        have hf := ky_bn_e hf v191 ev191
        refine ky_lv (lv' := [(4, .int v191), (6, .int v183), (5, .int v178), (0, ky_r G 15), (1, ky_r G 0), (2, ky_r G 7), (3, ky_r G 16)]) rfl ?_
        refine ky_goto (tgt := 23) dL_law_1717 rfl ?_
        refine ky_bud (kc2 := kq) (ks2 := sq) (by omega) (by omega) ?_
        refine ky_sub [3, 4, 5, 6, 0] (lv' := [(0, ky_r G 15), (1, ky_r G 0), (2, ky_r G 7), (3, ky_r G 16), (4, .int v191)]) rfl ?_
        exact hrec23 v191 s184 _ _ hf
      · have hf := ky_neg c190 hf
        refine ky_iconst (v := (0 : Int32)) (n := 828) dL_law_827 rfl rfl ?_
        cases hf
        exact ky_zreturn dL_law_828 rfl (Or.inl rfl)
  · have hf := ky_neg c187 hf
    refine ky_iconst (v := (0 : Int32)) (n := 811) dL_law_810 rfl rfl ?_
    cases hf
    exact ky_zreturn dL_law_811 rfl (Or.inl rfl)
def fL_law_L832 (L : Nat) (rec23 : Int32 → ky_St → Option (Int32 × ky_St)) (x4 : Int32) (σ : ky_St) : Option (Int32 × ky_St) :=
  ky_g (¬ ((x4 + (1 : Int32)) < 0 ∨ L ≤ (x4 + (1 : Int32)).toNatClampNeg)) (
  ky_bd (fL_pass (σ.1 15 (x4 + (1 : Int32)).toNatClampNeg) σ) fun v196 s194 =>
  ky_g (¬ ((x4 + (1 : Int32)) < 0 ∨ L ≤ (x4 + (1 : Int32)).toNatClampNeg)) (
  ky_bd (fX4_pass (s194.1 15 (x4 + (1 : Int32)).toNatClampNeg) s194) fun v200 s198 =>
  ky_bd (fX4_thrown s198) fun v203 s201 =>
  if v203 = v196 then (
  if v196 = 0 then (
  if (lg_cmp (s201.2 16) v200.toInt64) = 0 then (
  ky_bn (x4 + (4 : Int32)) fun v208 =>
  rec23 v208 s201) else (
  some ((0 : Int32), s201))) else (
  ky_bn (x4 + (4 : Int32)) fun v206 =>
  rec23 v206 s201)) else (
  some ((0 : Int32), s201))))
set_option maxHeartbeats 4000000 in
set_option maxRecDepth 100000 in
theorem tL_law_L832 {G : ky_G} {L : Nat} (hL : ky_len G.2.2.2.1 15 = some L) {rec23 : Int32 → ky_St → Option (Int32 × ky_St)} {kq sq : Nat} (d : Nat) (hrec23 : ∀ (x4 : Int32) (σ : ky_St) (r : Int32) (σ' : ky_St), rec23 x4 σ = some (r, σ') → ky_T G mL_law (d + 9) kq sq 23 [(0, ky_r G 15), (1, ky_r G 0), (2, ky_r G 7), (3, ky_r G 16), (4, .int x4)] [] σ (.inr (some (.int r))) σ') : ∀ (x4 : Int32) (σ : ky_St) (r : Int32) (σ' : ky_St), fL_law_L832 L rec23 x4 σ = some (r, σ') → ky_T G mL_law (d + 9) (kq + 5) (sq + 30) 832 [(0, ky_r G 15), (1, ky_r G 0), (2, ky_r G 7), (3, ky_r G 16), (4, .int x4)] [] σ (.inr (some (.int r))) σ' := by
  intro x4 σ r σ' hf
  unfold fL_law_L832 at hf
  refine ky_aload_n (n := 833) dL_law_832 rfl rfl 1 rfl ?_
  refine ky_aload_n (n := 834) dL_law_833 rfl rfl 0 rfl ?_
  refine ky_iload (n := 836) dL_law_834 rfl 4 rfl ?_
  refine ky_iconst (v := (1 : Int32)) (n := 837) dL_law_836 rfl rfl ?_
  refine ky_iadd (n := 838) dL_law_837 rfl ?_
  obtain ⟨g193, hf⟩ := ky_ge hf
  refine ky_iald (n := 839) dL_law_838 rfl hL g193 ?_
  refine ky_aload_n (n := 840) dL_law_839 rfl rfl 3 rfl ?_
  obtain ⟨v196, s194, h195, hf⟩ := ky_bd_e hf
  refine ky_bud (kc2 := kq + 1) (ks2 := sq + 6) (by omega) (by omega) ?_
  refine ky_callSW (kc := kq) (ks := sq) (kc2 := 1) (ks2 := 6) (as := [ky_r G 0, .int (σ.1 15 (x4 + (1 : Int32)).toNatClampNeg), ky_r G 16]) (st := []) (KL_pass (d + 1) (σ.1 15 (x4 + (1 : Int32)).toNatClampNeg) σ _ _ h195) (by intro z; cases z) wcw_L_pass w_ini_L wst_L_pass ⟨by decide +kernel, by decide +kernel⟩ (na := 3) (by decide +kernel) (Nat.le_of_ble_eq_true rfl) wl_L_130 rfl rfl (Nat.le_of_ble_eq_true rfl) dL_law_840 rfl ?_
  refine ky_istore (lv' := [(5, .int v196), (0, ky_r G 15), (1, ky_r G 0), (2, ky_r G 7), (3, ky_r G 16), (4, .int x4)]) (n := 845) dL_law_843 rfl (Nat.le_of_ble_eq_true rfl) rfl ?_
  refine ky_aload_n (n := 846) dL_law_845 rfl rfl 3 rfl ?_
  refine ky_aload_n (n := 847) dL_law_846 rfl rfl 1 rfl ?_
  refine ky_iload (n := 849) dL_law_847 rfl 5 rfl ?_
  refine ky_iconst (v := (1 : Int32)) (n := 850) dL_law_849 rfl rfl ?_
  refine ky_iadd (n := 851) dL_law_850 rfl ?_
  obtain ⟨g197, hf⟩ := ky_ge hf
  refine ky_iald (n := 852) dL_law_851 rfl hL g197 ?_
  obtain ⟨v200, s198, h199, hf⟩ := ky_bd_e hf
  refine ky_bud (kc2 := kq + 0) (ks2 := sq + 0) (by omega) (by omega) ?_
  refine ky_callV (kc := kq) (ks := sq) (kc2 := 0) (ks2 := 0) (k0 := 7) (as := [.int (s194.1 15 (x4 + (1 : Int32)).toNatClampNeg)]) (st := []) (KX4_pass (d + 6) (s194.1 15 (x4 + (1 : Int32)).toNatClampNeg) s194 _ _ h199) okX4_pass wl_L_132 kc_7 (q := (RX4, TX4, 12)) rfl rfl rfl rfl (Nat.le_of_ble_eq_true rfl) dL_law_852 rfl ?_
  refine ky_istore (lv' := [(6, .int v200), (5, .int v196), (0, ky_r G 15), (1, ky_r G 0), (2, ky_r G 7), (3, ky_r G 16), (4, .int x4)]) (n := 857) dL_law_855 rfl (Nat.le_of_ble_eq_true rfl) rfl ?_
  refine ky_aload_n (n := 858) dL_law_857 rfl rfl 4 rfl ?_
  obtain ⟨v203, s201, h202, hf⟩ := ky_bd_e hf
  refine ky_bud (kc2 := kq + 0) (ks2 := sq + 0) (by omega) (by omega) ?_
  refine ky_callV (kc := kq) (ks := sq) (kc2 := 0) (ks2 := 0) (k0 := 7) (as := []) (st := []) (KX4_thrown (d + 8) s198 _ _ h202) okX4_thrown wl_L_98 kc_7 (q := (RX4, TX4, 12)) rfl rfl rfl rfl (Nat.le_of_ble_eq_true rfl) dL_law_858 rfl ?_
  refine ky_iload (n := 863) dL_law_861 rfl 1 rfl ?_
  refine ky_icmp_eq (n := 866) (tgt := 868) dL_law_863 rfl rfl (fun c204 => ?_) (fun c204 => ?_)
  · have hf := ky_pos c204 hf
    refine ky_iload (n := 870) dL_law_868 rfl 1 rfl ?_
    refine ky_if_ne (n := 873) (tgt := 885) dL_law_870 rfl rfl (fun c205 => ?_) (fun c205 => ?_)
    · have hf := ky_neg c205 hf
      refine ky_goto (tgt := 1714) dL_law_885 rfl ?_
      refine ky_iincB (c := (4 : Int32)) (n := 1717) dL_law_1714 rfl 6 rfl rfl (Nat.le_of_ble_eq_true rfl) (fun v206 ev206 => ?_)
      have hf := ky_bn_e hf v206 ev206
      refine ky_lv (lv' := [(4, .int v206), (6, .int v200), (5, .int v196), (0, ky_r G 15), (1, ky_r G 0), (2, ky_r G 7), (3, ky_r G 16)]) rfl ?_
      refine ky_goto (tgt := 23) dL_law_1717 rfl ?_
      refine ky_bud (kc2 := kq) (ks2 := sq) (by omega) (by omega) ?_
      refine ky_sub [3, 4, 5, 6, 0] (lv' := [(0, ky_r G 15), (1, ky_r G 0), (2, ky_r G 7), (3, ky_r G 16), (4, .int v206)]) rfl ?_
      exact hrec23 v206 s201 _ _ hf
    · have hf := ky_pos c205 hf
      refine ky_aload_n (n := 874) dL_law_873 rfl rfl 5 rfl ?_
      refine ky_iconst (v := (0 : Int32)) (n := 875) dL_law_874 rfl rfl ?_
      refine ky_lald (n := 876) dL_law_875 rfl ?_
      refine ky_iload (n := 878) dL_law_876 rfl 0 rfl ?_
      refine ky_i2l (n := 879) dL_law_878 rfl ?_
      refine ky_lcmp (n := 880) dL_law_879 rfl ?_
      refine ky_if_eq (n := 883) (tgt := 885) dL_law_880 rfl rfl (fun c207 => ?_) (fun c207 => ?_)
      · have hf := ky_pos c207 hf
        refine ky_goto (tgt := 1714) dL_law_885 rfl ?_
        refine ky_iincB (c := (4 : Int32)) (n := 1717) dL_law_1714 rfl 6 rfl rfl (Nat.le_of_ble_eq_true rfl) (fun v208 ev208 => ?_)
        have hf := ky_bn_e hf v208 ev208
        refine ky_lv (lv' := [(4, .int v208), (6, .int v200), (5, .int v196), (0, ky_r G 15), (1, ky_r G 0), (2, ky_r G 7), (3, ky_r G 16)]) rfl ?_
        refine ky_goto (tgt := 23) dL_law_1717 rfl ?_
        refine ky_bud (kc2 := kq) (ks2 := sq) (by omega) (by omega) ?_
        refine ky_sub [3, 4, 5, 6, 0] (lv' := [(0, ky_r G 15), (1, ky_r G 0), (2, ky_r G 7), (3, ky_r G 16), (4, .int v208)]) rfl ?_
        exact hrec23 v208 s201 _ _ hf
      · have hf := ky_neg c207 hf
        refine ky_iconst (v := (0 : Int32)) (n := 884) dL_law_883 rfl rfl ?_
        cases hf
        exact ky_zreturn dL_law_884 rfl (Or.inl rfl)
  · have hf := ky_neg c204 hf
    refine ky_iconst (v := (0 : Int32)) (n := 867) dL_law_866 rfl rfl ?_
    cases hf
    exact ky_zreturn dL_law_867 rfl (Or.inl rfl)
def fL_law_L888 (L : Nat) (rec23 : Int32 → ky_St → Option (Int32 × ky_St)) (x4 : Int32) (σ : ky_St) : Option (Int32 × ky_St) :=
  ky_g (¬ ((x4 + (1 : Int32)) < 0 ∨ L ≤ (x4 + (1 : Int32)).toNatClampNeg)) (
  ky_g (¬ ((x4 + (2 : Int32)) < 0 ∨ L ≤ (x4 + (2 : Int32)).toNatClampNeg)) (
  ky_bd (fL_set (σ.1 15 (x4 + (1 : Int32)).toNatClampNeg) (σ.1 15 (x4 + (2 : Int32)).toNatClampNeg) σ) fun v214 s212 =>
  ky_g (¬ ((x4 + (1 : Int32)) < 0 ∨ L ≤ (x4 + (1 : Int32)).toNatClampNeg)) (
  ky_g (¬ ((x4 + (2 : Int32)) < 0 ∨ L ≤ (x4 + (2 : Int32)).toNatClampNeg)) (
  ky_bd (fX4_set (s212.1 15 (x4 + (1 : Int32)).toNatClampNeg) (s212.1 15 (x4 + (2 : Int32)).toNatClampNeg) s212) fun v219 s217 =>
  ky_bd (fX4_thrown s217) fun v222 s220 =>
  if v222 = v214 then (
  if v214 = 0 then (
  if (lg_cmp (s220.2 16) v219.toInt64) = 0 then (
  ky_bn (x4 + (4 : Int32)) fun v227 =>
  rec23 v227 s220) else (
  some ((0 : Int32), s220))) else (
  ky_bn (x4 + (4 : Int32)) fun v225 =>
  rec23 v225 s220)) else (
  some ((0 : Int32), s220))))))
set_option maxHeartbeats 4000000 in
set_option maxRecDepth 100000 in
theorem tL_law_L888 {G : ky_G} {L : Nat} (hL : ky_len G.2.2.2.1 15 = some L) {rec23 : Int32 → ky_St → Option (Int32 × ky_St)} {kq sq : Nat} (d : Nat) (hrec23 : ∀ (x4 : Int32) (σ : ky_St) (r : Int32) (σ' : ky_St), rec23 x4 σ = some (r, σ') → ky_T G mL_law (d + 9) kq sq 23 [(0, ky_r G 15), (1, ky_r G 0), (2, ky_r G 7), (3, ky_r G 16), (4, .int x4)] [] σ (.inr (some (.int r))) σ') : ∀ (x4 : Int32) (σ : ky_St) (r : Int32) (σ' : ky_St), fL_law_L888 L rec23 x4 σ = some (r, σ') → ky_T G mL_law (d + 9) (kq + 5) (sq + 30) 888 [(0, ky_r G 15), (1, ky_r G 0), (2, ky_r G 7), (3, ky_r G 16), (4, .int x4)] [] σ (.inr (some (.int r))) σ' := by
  intro x4 σ r σ' hf
  unfold fL_law_L888 at hf
  refine ky_aload_n (n := 889) dL_law_888 rfl rfl 1 rfl ?_
  refine ky_aload_n (n := 890) dL_law_889 rfl rfl 0 rfl ?_
  refine ky_iload (n := 892) dL_law_890 rfl 4 rfl ?_
  refine ky_iconst (v := (1 : Int32)) (n := 893) dL_law_892 rfl rfl ?_
  refine ky_iadd (n := 894) dL_law_893 rfl ?_
  obtain ⟨g210, hf⟩ := ky_ge hf
  refine ky_iald (n := 895) dL_law_894 rfl hL g210 ?_
  refine ky_aload_n (n := 896) dL_law_895 rfl rfl 0 rfl ?_
  refine ky_iload (n := 898) dL_law_896 rfl 4 rfl ?_
  refine ky_iconst (v := (2 : Int32)) (n := 899) dL_law_898 rfl rfl ?_
  refine ky_iadd (n := 900) dL_law_899 rfl ?_
  obtain ⟨g211, hf⟩ := ky_ge hf
  refine ky_iald (n := 901) dL_law_900 rfl hL g211 ?_
  refine ky_aload_n (n := 902) dL_law_901 rfl rfl 3 rfl ?_
  obtain ⟨v214, s212, h213, hf⟩ := ky_bd_e hf
  refine ky_bud (kc2 := kq + 2) (ks2 := sq + 12) (by omega) (by omega) ?_
  refine ky_callSW (kc := kq) (ks := sq) (kc2 := 2) (ks2 := 12) (as := [ky_r G 0, .int (σ.1 15 (x4 + (1 : Int32)).toNatClampNeg), .int (σ.1 15 (x4 + (2 : Int32)).toNatClampNeg), ky_r G 16]) (st := []) (KL_set d (σ.1 15 (x4 + (1 : Int32)).toNatClampNeg) (σ.1 15 (x4 + (2 : Int32)).toNatClampNeg) σ _ _ h213) (by intro z; cases z) wcw_L_set w_ini_L wst_L_set ⟨by decide +kernel, by decide +kernel⟩ (na := 4) (by decide +kernel) (Nat.le_of_ble_eq_true rfl) wl_L_133 rfl rfl (Nat.le_of_ble_eq_true rfl) dL_law_902 rfl ?_
  refine ky_istore (lv' := [(5, .int v214), (0, ky_r G 15), (1, ky_r G 0), (2, ky_r G 7), (3, ky_r G 16), (4, .int x4)]) (n := 907) dL_law_905 rfl (Nat.le_of_ble_eq_true rfl) rfl ?_
  refine ky_aload_n (n := 908) dL_law_907 rfl rfl 3 rfl ?_
  refine ky_aload_n (n := 909) dL_law_908 rfl rfl 1 rfl ?_
  refine ky_iload (n := 911) dL_law_909 rfl 5 rfl ?_
  refine ky_iconst (v := (1 : Int32)) (n := 912) dL_law_911 rfl rfl ?_
  refine ky_iadd (n := 913) dL_law_912 rfl ?_
  obtain ⟨g215, hf⟩ := ky_ge hf
  refine ky_iald (n := 914) dL_law_913 rfl hL g215 ?_
  refine ky_aload_n (n := 915) dL_law_914 rfl rfl 1 rfl ?_
  refine ky_iload (n := 917) dL_law_915 rfl 5 rfl ?_
  refine ky_iconst (v := (2 : Int32)) (n := 918) dL_law_917 rfl rfl ?_
  refine ky_iadd (n := 919) dL_law_918 rfl ?_
  obtain ⟨g216, hf⟩ := ky_ge hf
  refine ky_iald (n := 920) dL_law_919 rfl hL g216 ?_
  obtain ⟨v219, s217, h218, hf⟩ := ky_bd_e hf
  refine ky_bud (kc2 := kq + 0) (ks2 := sq + 0) (by omega) (by omega) ?_
  refine ky_callV (kc := kq) (ks := sq) (kc2 := 0) (ks2 := 0) (k0 := 7) (as := [.int (s212.1 15 (x4 + (1 : Int32)).toNatClampNeg), .int (s212.1 15 (x4 + (2 : Int32)).toNatClampNeg)]) (st := []) (KX4_set (d + 6) (s212.1 15 (x4 + (1 : Int32)).toNatClampNeg) (s212.1 15 (x4 + (2 : Int32)).toNatClampNeg) s212 _ _ h218) okX4_set wl_L_135 kc_7 (q := (RX4, TX4, 12)) rfl rfl rfl rfl (Nat.le_of_ble_eq_true rfl) dL_law_920 rfl ?_
  refine ky_istore (lv' := [(6, .int v219), (5, .int v214), (0, ky_r G 15), (1, ky_r G 0), (2, ky_r G 7), (3, ky_r G 16), (4, .int x4)]) (n := 925) dL_law_923 rfl (Nat.le_of_ble_eq_true rfl) rfl ?_
  refine ky_aload_n (n := 926) dL_law_925 rfl rfl 4 rfl ?_
  obtain ⟨v222, s220, h221, hf⟩ := ky_bd_e hf
  refine ky_bud (kc2 := kq + 0) (ks2 := sq + 0) (by omega) (by omega) ?_
  refine ky_callV (kc := kq) (ks := sq) (kc2 := 0) (ks2 := 0) (k0 := 7) (as := []) (st := []) (KX4_thrown (d + 8) s217 _ _ h221) okX4_thrown wl_L_98 kc_7 (q := (RX4, TX4, 12)) rfl rfl rfl rfl (Nat.le_of_ble_eq_true rfl) dL_law_926 rfl ?_
  refine ky_iload (n := 931) dL_law_929 rfl 1 rfl ?_
  refine ky_icmp_eq (n := 934) (tgt := 936) dL_law_931 rfl rfl (fun c223 => ?_) (fun c223 => ?_)
  · have hf := ky_pos c223 hf
    refine ky_iload (n := 938) dL_law_936 rfl 1 rfl ?_
    refine ky_if_ne (n := 941) (tgt := 953) dL_law_938 rfl rfl (fun c224 => ?_) (fun c224 => ?_)
    · have hf := ky_neg c224 hf
      refine ky_goto (tgt := 1714) dL_law_953 rfl ?_
      refine ky_iincB (c := (4 : Int32)) (n := 1717) dL_law_1714 rfl 6 rfl rfl (Nat.le_of_ble_eq_true rfl) (fun v225 ev225 => ?_)
      have hf := ky_bn_e hf v225 ev225
      refine ky_lv (lv' := [(4, .int v225), (6, .int v219), (5, .int v214), (0, ky_r G 15), (1, ky_r G 0), (2, ky_r G 7), (3, ky_r G 16)]) rfl ?_
      refine ky_goto (tgt := 23) dL_law_1717 rfl ?_
      refine ky_bud (kc2 := kq) (ks2 := sq) (by omega) (by omega) ?_
      refine ky_sub [3, 4, 5, 6, 0] (lv' := [(0, ky_r G 15), (1, ky_r G 0), (2, ky_r G 7), (3, ky_r G 16), (4, .int v225)]) rfl ?_
      exact hrec23 v225 s220 _ _ hf
    · have hf := ky_pos c224 hf
      refine ky_aload_n (n := 942) dL_law_941 rfl rfl 5 rfl ?_
      refine ky_iconst (v := (0 : Int32)) (n := 943) dL_law_942 rfl rfl ?_
      refine ky_lald (n := 944) dL_law_943 rfl ?_
      refine ky_iload (n := 946) dL_law_944 rfl 0 rfl ?_
      refine ky_i2l (n := 947) dL_law_946 rfl ?_
      refine ky_lcmp (n := 948) dL_law_947 rfl ?_
      refine ky_if_eq (n := 951) (tgt := 953) dL_law_948 rfl rfl (fun c226 => ?_) (fun c226 => ?_)
      · have hf := ky_pos c226 hf
        refine ky_goto (tgt := 1714) dL_law_953 rfl ?_
        refine ky_iincB (c := (4 : Int32)) (n := 1717) dL_law_1714 rfl 6 rfl rfl (Nat.le_of_ble_eq_true rfl) (fun v227 ev227 => ?_)
        have hf := ky_bn_e hf v227 ev227
        refine ky_lv (lv' := [(4, .int v227), (6, .int v219), (5, .int v214), (0, ky_r G 15), (1, ky_r G 0), (2, ky_r G 7), (3, ky_r G 16)]) rfl ?_
        refine ky_goto (tgt := 23) dL_law_1717 rfl ?_
        refine ky_bud (kc2 := kq) (ks2 := sq) (by omega) (by omega) ?_
        refine ky_sub [3, 4, 5, 6, 0] (lv' := [(0, ky_r G 15), (1, ky_r G 0), (2, ky_r G 7), (3, ky_r G 16), (4, .int v227)]) rfl ?_
        exact hrec23 v227 s220 _ _ hf
      · have hf := ky_neg c226 hf
        refine ky_iconst (v := (0 : Int32)) (n := 952) dL_law_951 rfl rfl ?_
        cases hf
        exact ky_zreturn dL_law_952 rfl (Or.inl rfl)
  · have hf := ky_neg c223 hf
    refine ky_iconst (v := (0 : Int32)) (n := 935) dL_law_934 rfl rfl ?_
    cases hf
    exact ky_zreturn dL_law_935 rfl (Or.inl rfl)
def fL_law_L956 (L : Nat) (rec23 : Int32 → ky_St → Option (Int32 × ky_St)) (x4 : Int32) (σ : ky_St) : Option (Int32 × ky_St) :=
  ky_g (¬ ((x4 + (1 : Int32)) < 0 ∨ L ≤ (x4 + (1 : Int32)).toNatClampNeg)) (
  ky_bd (fL_append (σ.1 15 (x4 + (1 : Int32)).toNatClampNeg) σ) fun v232 s230 =>
  ky_g (¬ ((x4 + (1 : Int32)) < 0 ∨ L ≤ (x4 + (1 : Int32)).toNatClampNeg)) (
  ky_bd (fX4_append (s230.1 15 (x4 + (1 : Int32)).toNatClampNeg) s230) fun v236 s234 =>
  ky_bd (fX4_thrown s234) fun v239 s237 =>
  if v239 = v232 then (
  if v232 = 0 then (
  if (lg_cmp (s237.2 16) v236.toInt64) = 0 then (
  ky_bn (x4 + (4 : Int32)) fun v244 =>
  rec23 v244 s237) else (
  some ((0 : Int32), s237))) else (
  ky_bn (x4 + (4 : Int32)) fun v242 =>
  rec23 v242 s237)) else (
  some ((0 : Int32), s237))))
set_option maxHeartbeats 4000000 in
set_option maxRecDepth 100000 in
theorem tL_law_L956 {G : ky_G} {L : Nat} (hL : ky_len G.2.2.2.1 15 = some L) {rec23 : Int32 → ky_St → Option (Int32 × ky_St)} {kq sq : Nat} (d : Nat) (hrec23 : ∀ (x4 : Int32) (σ : ky_St) (r : Int32) (σ' : ky_St), rec23 x4 σ = some (r, σ') → ky_T G mL_law (d + 9) kq sq 23 [(0, ky_r G 15), (1, ky_r G 0), (2, ky_r G 7), (3, ky_r G 16), (4, .int x4)] [] σ (.inr (some (.int r))) σ') : ∀ (x4 : Int32) (σ : ky_St) (r : Int32) (σ' : ky_St), fL_law_L956 L rec23 x4 σ = some (r, σ') → ky_T G mL_law (d + 9) (kq + 5) (sq + 30) 956 [(0, ky_r G 15), (1, ky_r G 0), (2, ky_r G 7), (3, ky_r G 16), (4, .int x4)] [] σ (.inr (some (.int r))) σ' := by
  intro x4 σ r σ' hf
  unfold fL_law_L956 at hf
  refine ky_aload_n (n := 957) dL_law_956 rfl rfl 1 rfl ?_
  refine ky_aload_n (n := 958) dL_law_957 rfl rfl 0 rfl ?_
  refine ky_iload (n := 960) dL_law_958 rfl 4 rfl ?_
  refine ky_iconst (v := (1 : Int32)) (n := 961) dL_law_960 rfl rfl ?_
  refine ky_iadd (n := 962) dL_law_961 rfl ?_
  obtain ⟨g229, hf⟩ := ky_ge hf
  refine ky_iald (n := 963) dL_law_962 rfl hL g229 ?_
  refine ky_aload_n (n := 964) dL_law_963 rfl rfl 3 rfl ?_
  obtain ⟨v232, s230, h231, hf⟩ := ky_bd_e hf
  refine ky_bud (kc2 := kq + 1) (ks2 := sq + 6) (by omega) (by omega) ?_
  refine ky_callSW (kc := kq) (ks := sq) (kc2 := 1) (ks2 := 6) (as := [ky_r G 0, .int (σ.1 15 (x4 + (1 : Int32)).toNatClampNeg), ky_r G 16]) (st := []) (KL_append (d + 1) (σ.1 15 (x4 + (1 : Int32)).toNatClampNeg) σ _ _ h231) (by intro z; cases z) wcw_L_append w_ini_L wst_L_append ⟨by decide +kernel, by decide +kernel⟩ (na := 3) (by decide +kernel) (Nat.le_of_ble_eq_true rfl) wl_L_136 rfl rfl (Nat.le_of_ble_eq_true rfl) dL_law_964 rfl ?_
  refine ky_istore (lv' := [(5, .int v232), (0, ky_r G 15), (1, ky_r G 0), (2, ky_r G 7), (3, ky_r G 16), (4, .int x4)]) (n := 969) dL_law_967 rfl (Nat.le_of_ble_eq_true rfl) rfl ?_
  refine ky_aload_n (n := 970) dL_law_969 rfl rfl 3 rfl ?_
  refine ky_aload_n (n := 971) dL_law_970 rfl rfl 1 rfl ?_
  refine ky_iload (n := 973) dL_law_971 rfl 5 rfl ?_
  refine ky_iconst (v := (1 : Int32)) (n := 974) dL_law_973 rfl rfl ?_
  refine ky_iadd (n := 975) dL_law_974 rfl ?_
  obtain ⟨g233, hf⟩ := ky_ge hf
  refine ky_iald (n := 976) dL_law_975 rfl hL g233 ?_
  obtain ⟨v236, s234, h235, hf⟩ := ky_bd_e hf
  refine ky_bud (kc2 := kq + 0) (ks2 := sq + 0) (by omega) (by omega) ?_
  refine ky_callV (kc := kq) (ks := sq) (kc2 := 0) (ks2 := 0) (k0 := 7) (as := [.int (s230.1 15 (x4 + (1 : Int32)).toNatClampNeg)]) (st := []) (KX4_append (d + 7) (s230.1 15 (x4 + (1 : Int32)).toNatClampNeg) s230 _ _ h235) okX4_append wl_L_138 kc_7 (q := (RX4, TX4, 12)) rfl rfl rfl rfl (Nat.le_of_ble_eq_true rfl) dL_law_976 rfl ?_
  refine ky_istore (lv' := [(6, .int v236), (5, .int v232), (0, ky_r G 15), (1, ky_r G 0), (2, ky_r G 7), (3, ky_r G 16), (4, .int x4)]) (n := 981) dL_law_979 rfl (Nat.le_of_ble_eq_true rfl) rfl ?_
  refine ky_aload_n (n := 982) dL_law_981 rfl rfl 4 rfl ?_
  obtain ⟨v239, s237, h238, hf⟩ := ky_bd_e hf
  refine ky_bud (kc2 := kq + 0) (ks2 := sq + 0) (by omega) (by omega) ?_
  refine ky_callV (kc := kq) (ks := sq) (kc2 := 0) (ks2 := 0) (k0 := 7) (as := []) (st := []) (KX4_thrown (d + 8) s234 _ _ h238) okX4_thrown wl_L_98 kc_7 (q := (RX4, TX4, 12)) rfl rfl rfl rfl (Nat.le_of_ble_eq_true rfl) dL_law_982 rfl ?_
  refine ky_iload (n := 987) dL_law_985 rfl 1 rfl ?_
  refine ky_icmp_eq (n := 990) (tgt := 992) dL_law_987 rfl rfl (fun c240 => ?_) (fun c240 => ?_)
  · have hf := ky_pos c240 hf
    refine ky_iload (n := 994) dL_law_992 rfl 1 rfl ?_
    refine ky_if_ne (n := 997) (tgt := 1009) dL_law_994 rfl rfl (fun c241 => ?_) (fun c241 => ?_)
    · have hf := ky_neg c241 hf
      refine ky_goto (tgt := 1714) dL_law_1009 rfl ?_
      refine ky_iincB (c := (4 : Int32)) (n := 1717) dL_law_1714 rfl 6 rfl rfl (Nat.le_of_ble_eq_true rfl) (fun v242 ev242 => ?_)
      have hf := ky_bn_e hf v242 ev242
      refine ky_lv (lv' := [(4, .int v242), (6, .int v236), (5, .int v232), (0, ky_r G 15), (1, ky_r G 0), (2, ky_r G 7), (3, ky_r G 16)]) rfl ?_
      refine ky_goto (tgt := 23) dL_law_1717 rfl ?_
      refine ky_bud (kc2 := kq) (ks2 := sq) (by omega) (by omega) ?_
      refine ky_sub [3, 4, 5, 6, 0] (lv' := [(0, ky_r G 15), (1, ky_r G 0), (2, ky_r G 7), (3, ky_r G 16), (4, .int v242)]) rfl ?_
      exact hrec23 v242 s237 _ _ hf
    · have hf := ky_pos c241 hf
      refine ky_aload_n (n := 998) dL_law_997 rfl rfl 5 rfl ?_
      refine ky_iconst (v := (0 : Int32)) (n := 999) dL_law_998 rfl rfl ?_
      refine ky_lald (n := 1000) dL_law_999 rfl ?_
      refine ky_iload (n := 1002) dL_law_1000 rfl 0 rfl ?_
      refine ky_i2l (n := 1003) dL_law_1002 rfl ?_
      refine ky_lcmp (n := 1004) dL_law_1003 rfl ?_
      refine ky_if_eq (n := 1007) (tgt := 1009) dL_law_1004 rfl rfl (fun c243 => ?_) (fun c243 => ?_)
      · have hf := ky_pos c243 hf
        refine ky_goto (tgt := 1714) dL_law_1009 rfl ?_
        refine ky_iincB (c := (4 : Int32)) (n := 1717) dL_law_1714 rfl 6 rfl rfl (Nat.le_of_ble_eq_true rfl) (fun v244 ev244 => ?_)
        have hf := ky_bn_e hf v244 ev244
        refine ky_lv (lv' := [(4, .int v244), (6, .int v236), (5, .int v232), (0, ky_r G 15), (1, ky_r G 0), (2, ky_r G 7), (3, ky_r G 16)]) rfl ?_
        refine ky_goto (tgt := 23) dL_law_1717 rfl ?_
        refine ky_bud (kc2 := kq) (ks2 := sq) (by omega) (by omega) ?_
        refine ky_sub [3, 4, 5, 6, 0] (lv' := [(0, ky_r G 15), (1, ky_r G 0), (2, ky_r G 7), (3, ky_r G 16), (4, .int v244)]) rfl ?_
        exact hrec23 v244 s237 _ _ hf
      · have hf := ky_neg c243 hf
        refine ky_iconst (v := (0 : Int32)) (n := 1008) dL_law_1007 rfl rfl ?_
        cases hf
        exact ky_zreturn dL_law_1008 rfl (Or.inl rfl)
  · have hf := ky_neg c240 hf
    refine ky_iconst (v := (0 : Int32)) (n := 991) dL_law_990 rfl rfl ?_
    cases hf
    exact ky_zreturn dL_law_991 rfl (Or.inl rfl)
def fL_law_L1012 (L : Nat) (rec23 : Int32 → ky_St → Option (Int32 × ky_St)) (x4 : Int32) (σ : ky_St) : Option (Int32 × ky_St) :=
  ky_bd (fX3_clearBuffer σ) fun v248 s246 =>
  ky_bd (fX4_clearBuffer s246) fun v251 s249 =>
  if v248 = v251 then (
  ky_bn (x4 + (4 : Int32)) fun v253 =>
  rec23 v253 s249) else (
  some ((0 : Int32), s249))
set_option maxHeartbeats 4000000 in
set_option maxRecDepth 100000 in
theorem tL_law_L1012 {G : ky_G} {L : Nat} (hL : ky_len G.2.2.2.1 15 = some L) {rec23 : Int32 → ky_St → Option (Int32 × ky_St)} {kq sq : Nat} (d : Nat) (hrec23 : ∀ (x4 : Int32) (σ : ky_St) (r : Int32) (σ' : ky_St), rec23 x4 σ = some (r, σ') → ky_T G mL_law (d + 9) kq sq 23 [(0, ky_r G 15), (1, ky_r G 0), (2, ky_r G 7), (3, ky_r G 16), (4, .int x4)] [] σ (.inr (some (.int r))) σ') : ∀ (x4 : Int32) (σ : ky_St) (r : Int32) (σ' : ky_St), fL_law_L1012 L rec23 x4 σ = some (r, σ') → ky_T G mL_law (d + 9) (kq + 5) (sq + 30) 1012 [(0, ky_r G 15), (1, ky_r G 0), (2, ky_r G 7), (3, ky_r G 16), (4, .int x4)] [] σ (.inr (some (.int r))) σ' := by
  intro x4 σ r σ' hf
  unfold fL_law_L1012 at hf
  refine ky_aload_n (n := 1013) dL_law_1012 rfl rfl 1 rfl ?_
  obtain ⟨v248, s246, h247, hf⟩ := ky_bd_e hf
  refine ky_bud (kc2 := kq + 0) (ks2 := sq + 0) (by omega) (by omega) ?_
  refine ky_callV (kc := kq) (ks := sq) (kc2 := 0) (ks2 := 0) (k0 := 0) (as := []) (st := []) (KX3_clearBuffer (d + 7) σ _ _ h247) okX3_clearBuffer wl_L_139 kc_0 (q := (RX3, TX3, 4)) rfl rfl rfl rfl (Nat.le_of_ble_eq_true rfl) dL_law_1013 rfl ?_
  refine ky_aload_n (n := 1017) dL_law_1016 rfl rfl 2 rfl ?_
  obtain ⟨v251, s249, h250, hf⟩ := ky_bd_e hf
  refine ky_bud (kc2 := kq + 0) (ks2 := sq + 0) (by omega) (by omega) ?_
  refine ky_callV (kc := kq) (ks := sq) (kc2 := 0) (ks2 := 0) (k0 := 7) (as := []) (st := [.int v248]) (KX4_clearBuffer (d + 8) s246 _ _ h250) okX4_clearBuffer wl_L_142 kc_7 (q := (RX4, TX4, 12)) rfl rfl rfl rfl (Nat.le_of_ble_eq_true rfl) dL_law_1017 rfl ?_
  refine ky_icmp_eq (n := 1023) (tgt := 1714) dL_law_1020 rfl rfl (fun c252 => ?_) (fun c252 => ?_)
  · have hf := ky_pos c252 hf
    refine ky_iincB (c := (4 : Int32)) (n := 1717) dL_law_1714 rfl 4 rfl rfl (Nat.le_of_ble_eq_true rfl) (fun v253 ev253 => ?_)
    have hf := ky_bn_e hf v253 ev253
    refine ky_lv (lv' := [(4, .int v253), (0, ky_r G 15), (1, ky_r G 0), (2, ky_r G 7), (3, ky_r G 16)]) rfl ?_
    refine ky_goto (tgt := 23) dL_law_1717 rfl ?_
    refine ky_bud (kc2 := kq) (ks2 := sq) (by omega) (by omega) ?_
    refine ky_sub [1, 2, 3, 4, 0] (lv' := [(0, ky_r G 15), (1, ky_r G 0), (2, ky_r G 7), (3, ky_r G 16), (4, .int v253)]) rfl ?_
    exact hrec23 v253 s249 _ _ hf
  · have hf := ky_neg c252 hf
    refine ky_iconst (v := (0 : Int32)) (n := 1024) dL_law_1023 rfl rfl ?_
    cases hf
    exact ky_zreturn dL_law_1024 rfl (Or.inl rfl)
def fL_law_L1025 (L : Nat) (rec23 : Int32 → ky_St → Option (Int32 × ky_St)) (x4 : Int32) (σ : ky_St) : Option (Int32 × ky_St) :=
  ky_bd (fX3_firstError σ) fun v257 s255 =>
  ky_bd (fX4_firstError s255) fun v260 s258 =>
  if v257 = v260 then (
  ky_bn (x4 + (4 : Int32)) fun v262 =>
  rec23 v262 s258) else (
  some ((0 : Int32), s258))
set_option maxHeartbeats 4000000 in
set_option maxRecDepth 100000 in
theorem tL_law_L1025 {G : ky_G} {L : Nat} (hL : ky_len G.2.2.2.1 15 = some L) {rec23 : Int32 → ky_St → Option (Int32 × ky_St)} {kq sq : Nat} (d : Nat) (hrec23 : ∀ (x4 : Int32) (σ : ky_St) (r : Int32) (σ' : ky_St), rec23 x4 σ = some (r, σ') → ky_T G mL_law (d + 9) kq sq 23 [(0, ky_r G 15), (1, ky_r G 0), (2, ky_r G 7), (3, ky_r G 16), (4, .int x4)] [] σ (.inr (some (.int r))) σ') : ∀ (x4 : Int32) (σ : ky_St) (r : Int32) (σ' : ky_St), fL_law_L1025 L rec23 x4 σ = some (r, σ') → ky_T G mL_law (d + 9) (kq + 5) (sq + 30) 1025 [(0, ky_r G 15), (1, ky_r G 0), (2, ky_r G 7), (3, ky_r G 16), (4, .int x4)] [] σ (.inr (some (.int r))) σ' := by
  intro x4 σ r σ' hf
  unfold fL_law_L1025 at hf
  refine ky_aload_n (n := 1026) dL_law_1025 rfl rfl 1 rfl ?_
  obtain ⟨v257, s255, h256, hf⟩ := ky_bd_e hf
  refine ky_bud (kc2 := kq + 0) (ks2 := sq + 0) (by omega) (by omega) ?_
  refine ky_callV (kc := kq) (ks := sq) (kc2 := 0) (ks2 := 0) (k0 := 0) (as := []) (st := []) (KX3_firstError (d + 2) σ _ _ h256) okX3_firstError wl_L_143 kc_0 (q := (RX3, TX3, 4)) rfl rfl rfl rfl (Nat.le_of_ble_eq_true rfl) dL_law_1026 rfl ?_
  refine ky_aload_n (n := 1030) dL_law_1029 rfl rfl 2 rfl ?_
  obtain ⟨v260, s258, h259, hf⟩ := ky_bd_e hf
  refine ky_bud (kc2 := kq + 0) (ks2 := sq + 0) (by omega) (by omega) ?_
  refine ky_callV (kc := kq) (ks := sq) (kc2 := 0) (ks2 := 0) (k0 := 7) (as := []) (st := [.int v257]) (KX4_firstError (d + 3) s255 _ _ h259) okX4_firstError wl_L_146 kc_7 (q := (RX4, TX4, 12)) rfl rfl rfl rfl (Nat.le_of_ble_eq_true rfl) dL_law_1030 rfl ?_
  refine ky_icmp_eq (n := 1036) (tgt := 1714) dL_law_1033 rfl rfl (fun c261 => ?_) (fun c261 => ?_)
  · have hf := ky_pos c261 hf
    refine ky_iincB (c := (4 : Int32)) (n := 1717) dL_law_1714 rfl 4 rfl rfl (Nat.le_of_ble_eq_true rfl) (fun v262 ev262 => ?_)
    have hf := ky_bn_e hf v262 ev262
    refine ky_lv (lv' := [(4, .int v262), (0, ky_r G 15), (1, ky_r G 0), (2, ky_r G 7), (3, ky_r G 16)]) rfl ?_
    refine ky_goto (tgt := 23) dL_law_1717 rfl ?_
    refine ky_bud (kc2 := kq) (ks2 := sq) (by omega) (by omega) ?_
    refine ky_sub [1, 2, 3, 4, 0] (lv' := [(0, ky_r G 15), (1, ky_r G 0), (2, ky_r G 7), (3, ky_r G 16), (4, .int v262)]) rfl ?_
    exact hrec23 v262 s258 _ _ hf
  · have hf := ky_neg c261 hf
    refine ky_iconst (v := (0 : Int32)) (n := 1037) dL_law_1036 rfl rfl ?_
    cases hf
    exact ky_zreturn dL_law_1037 rfl (Or.inl rfl)
def fL_law_L1038 (L : Nat) (rec23 : Int32 → ky_St → Option (Int32 × ky_St)) (x4 : Int32) (σ : ky_St) : Option (Int32 × ky_St) :=
  ky_bd (fL_run σ) fun v266 s264 =>
  ky_bd (fX4_run s264) fun v269 s267 =>
  ky_bd (fX4_thrown s267) fun v272 s270 =>
  if v272 = v266 then (
  if v266 = 0 then (
  if (lg_cmp (s270.2 16) v269.toInt64) = 0 then (
  ky_bn (x4 + (4 : Int32)) fun v277 =>
  rec23 v277 s270) else (
  some ((0 : Int32), s270))) else (
  ky_bn (x4 + (4 : Int32)) fun v275 =>
  rec23 v275 s270)) else (
  some ((0 : Int32), s270))
set_option maxHeartbeats 4000000 in
set_option maxRecDepth 100000 in
theorem tL_law_L1038 {G : ky_G} {L : Nat} (hL : ky_len G.2.2.2.1 15 = some L) {rec23 : Int32 → ky_St → Option (Int32 × ky_St)} {kq sq : Nat} (d : Nat) (hrec23 : ∀ (x4 : Int32) (σ : ky_St) (r : Int32) (σ' : ky_St), rec23 x4 σ = some (r, σ') → ky_T G mL_law (d + 9) kq sq 23 [(0, ky_r G 15), (1, ky_r G 0), (2, ky_r G 7), (3, ky_r G 16), (4, .int x4)] [] σ (.inr (some (.int r))) σ') : ∀ (x4 : Int32) (σ : ky_St) (r : Int32) (σ' : ky_St), fL_law_L1038 L rec23 x4 σ = some (r, σ') → ky_T G mL_law (d + 9) (kq + 5) (sq + 30) 1038 [(0, ky_r G 15), (1, ky_r G 0), (2, ky_r G 7), (3, ky_r G 16), (4, .int x4)] [] σ (.inr (some (.int r))) σ' := by
  intro x4 σ r σ' hf
  unfold fL_law_L1038 at hf
  refine ky_aload_n (n := 1039) dL_law_1038 rfl rfl 1 rfl ?_
  refine ky_aload_n (n := 1040) dL_law_1039 rfl rfl 3 rfl ?_
  obtain ⟨v266, s264, h265, hf⟩ := ky_bd_e hf
  refine ky_bud (kc2 := kq + 1) (ks2 := sq + 6) (by omega) (by omega) ?_
  refine ky_callSW (kc := kq) (ks := sq) (kc2 := 1) (ks2 := 6) (as := [ky_r G 0, ky_r G 16]) (st := []) (KL_run (d + 1) σ _ _ h265) (by intro z; cases z) wcw_L_run w_ini_L wst_L_run ⟨by decide +kernel, by decide +kernel⟩ (na := 2) (by decide +kernel) (Nat.le_of_ble_eq_true rfl) wl_L_147 rfl rfl (Nat.le_of_ble_eq_true rfl) dL_law_1040 rfl ?_
  refine ky_istore (lv' := [(5, .int v266), (0, ky_r G 15), (1, ky_r G 0), (2, ky_r G 7), (3, ky_r G 16), (4, .int x4)]) (n := 1045) dL_law_1043 rfl (Nat.le_of_ble_eq_true rfl) rfl ?_
  refine ky_aload_n (n := 1046) dL_law_1045 rfl rfl 3 rfl ?_
  obtain ⟨v269, s267, h268, hf⟩ := ky_bd_e hf
  refine ky_bud (kc2 := kq + 0) (ks2 := sq + 0) (by omega) (by omega) ?_
  refine ky_callV (kc := kq) (ks := sq) (kc2 := 0) (ks2 := 0) (k0 := 7) (as := []) (st := []) (KX4_run (d + 2) s264 _ _ h268) okX4_run wl_L_150 kc_7 (q := (RX4, TX4, 12)) rfl rfl rfl rfl (Nat.le_of_ble_eq_true rfl) dL_law_1046 rfl ?_
  refine ky_istore (lv' := [(6, .int v269), (5, .int v266), (0, ky_r G 15), (1, ky_r G 0), (2, ky_r G 7), (3, ky_r G 16), (4, .int x4)]) (n := 1051) dL_law_1049 rfl (Nat.le_of_ble_eq_true rfl) rfl ?_
  refine ky_aload_n (n := 1052) dL_law_1051 rfl rfl 4 rfl ?_
  obtain ⟨v272, s270, h271, hf⟩ := ky_bd_e hf
  refine ky_bud (kc2 := kq + 0) (ks2 := sq + 0) (by omega) (by omega) ?_
  refine ky_callV (kc := kq) (ks := sq) (kc2 := 0) (ks2 := 0) (k0 := 7) (as := []) (st := []) (KX4_thrown (d + 8) s267 _ _ h271) okX4_thrown wl_L_98 kc_7 (q := (RX4, TX4, 12)) rfl rfl rfl rfl (Nat.le_of_ble_eq_true rfl) dL_law_1052 rfl ?_
  refine ky_iload (n := 1057) dL_law_1055 rfl 1 rfl ?_
  refine ky_icmp_eq (n := 1060) (tgt := 1062) dL_law_1057 rfl rfl (fun c273 => ?_) (fun c273 => ?_)
  · have hf := ky_pos c273 hf
    refine ky_iload (n := 1064) dL_law_1062 rfl 1 rfl ?_
    refine ky_if_ne (n := 1067) (tgt := 1079) dL_law_1064 rfl rfl (fun c274 => ?_) (fun c274 => ?_)
    · have hf := ky_neg c274 hf
      refine ky_goto (tgt := 1714) dL_law_1079 rfl ?_
      refine ky_iincB (c := (4 : Int32)) (n := 1717) dL_law_1714 rfl 6 rfl rfl (Nat.le_of_ble_eq_true rfl) (fun v275 ev275 => ?_)
      have hf := ky_bn_e hf v275 ev275
      refine ky_lv (lv' := [(4, .int v275), (6, .int v269), (5, .int v266), (0, ky_r G 15), (1, ky_r G 0), (2, ky_r G 7), (3, ky_r G 16)]) rfl ?_
      refine ky_goto (tgt := 23) dL_law_1717 rfl ?_
      refine ky_bud (kc2 := kq) (ks2 := sq) (by omega) (by omega) ?_
      refine ky_sub [3, 4, 5, 6, 0] (lv' := [(0, ky_r G 15), (1, ky_r G 0), (2, ky_r G 7), (3, ky_r G 16), (4, .int v275)]) rfl ?_
      exact hrec23 v275 s270 _ _ hf
    · have hf := ky_pos c274 hf
      refine ky_aload_n (n := 1068) dL_law_1067 rfl rfl 5 rfl ?_
      refine ky_iconst (v := (0 : Int32)) (n := 1069) dL_law_1068 rfl rfl ?_
      refine ky_lald (n := 1070) dL_law_1069 rfl ?_
      refine ky_iload (n := 1072) dL_law_1070 rfl 0 rfl ?_
      refine ky_i2l (n := 1073) dL_law_1072 rfl ?_
      refine ky_lcmp (n := 1074) dL_law_1073 rfl ?_
      refine ky_if_eq (n := 1077) (tgt := 1079) dL_law_1074 rfl rfl (fun c276 => ?_) (fun c276 => ?_)
      · have hf := ky_pos c276 hf
        refine ky_goto (tgt := 1714) dL_law_1079 rfl ?_
        refine ky_iincB (c := (4 : Int32)) (n := 1717) dL_law_1714 rfl 6 rfl rfl (Nat.le_of_ble_eq_true rfl) (fun v277 ev277 => ?_)
        have hf := ky_bn_e hf v277 ev277
        refine ky_lv (lv' := [(4, .int v277), (6, .int v269), (5, .int v266), (0, ky_r G 15), (1, ky_r G 0), (2, ky_r G 7), (3, ky_r G 16)]) rfl ?_
        refine ky_goto (tgt := 23) dL_law_1717 rfl ?_
        refine ky_bud (kc2 := kq) (ks2 := sq) (by omega) (by omega) ?_
        refine ky_sub [3, 4, 5, 6, 0] (lv' := [(0, ky_r G 15), (1, ky_r G 0), (2, ky_r G 7), (3, ky_r G 16), (4, .int v277)]) rfl ?_
        exact hrec23 v277 s270 _ _ hf
      · have hf := ky_neg c276 hf
        refine ky_iconst (v := (0 : Int32)) (n := 1078) dL_law_1077 rfl rfl ?_
        cases hf
        exact ky_zreturn dL_law_1078 rfl (Or.inl rfl)
  · have hf := ky_neg c273 hf
    refine ky_iconst (v := (0 : Int32)) (n := 1061) dL_law_1060 rfl rfl ?_
    cases hf
    exact ky_zreturn dL_law_1061 rfl (Or.inl rfl)
def fL_law_L1082 (L : Nat) (rec23 : Int32 → ky_St → Option (Int32 × ky_St)) (x4 : Int32) (σ : ky_St) : Option (Int32 × ky_St) :=
  ky_bd (fL_undo σ) fun v281 s279 =>
  ky_bd (fX4_undo s279) fun v284 s282 =>
  ky_bd (fX4_thrown s282) fun v287 s285 =>
  if v287 = v281 then (
  if v281 = 0 then (
  if (lg_cmp (s285.2 16) v284.toInt64) = 0 then (
  ky_bn (x4 + (4 : Int32)) fun v292 =>
  rec23 v292 s285) else (
  some ((0 : Int32), s285))) else (
  ky_bn (x4 + (4 : Int32)) fun v290 =>
  rec23 v290 s285)) else (
  some ((0 : Int32), s285))
set_option maxHeartbeats 4000000 in
set_option maxRecDepth 100000 in
theorem tL_law_L1082 {G : ky_G} {L : Nat} (hL : ky_len G.2.2.2.1 15 = some L) {rec23 : Int32 → ky_St → Option (Int32 × ky_St)} {kq sq : Nat} (d : Nat) (hrec23 : ∀ (x4 : Int32) (σ : ky_St) (r : Int32) (σ' : ky_St), rec23 x4 σ = some (r, σ') → ky_T G mL_law (d + 9) kq sq 23 [(0, ky_r G 15), (1, ky_r G 0), (2, ky_r G 7), (3, ky_r G 16), (4, .int x4)] [] σ (.inr (some (.int r))) σ') : ∀ (x4 : Int32) (σ : ky_St) (r : Int32) (σ' : ky_St), fL_law_L1082 L rec23 x4 σ = some (r, σ') → ky_T G mL_law (d + 9) (kq + 5) (sq + 30) 1082 [(0, ky_r G 15), (1, ky_r G 0), (2, ky_r G 7), (3, ky_r G 16), (4, .int x4)] [] σ (.inr (some (.int r))) σ' := by
  intro x4 σ r σ' hf
  unfold fL_law_L1082 at hf
  refine ky_aload_n (n := 1083) dL_law_1082 rfl rfl 1 rfl ?_
  refine ky_aload_n (n := 1084) dL_law_1083 rfl rfl 3 rfl ?_
  obtain ⟨v281, s279, h280, hf⟩ := ky_bd_e hf
  refine ky_bud (kc2 := kq + 1) (ks2 := sq + 6) (by omega) (by omega) ?_
  refine ky_callSW (kc := kq) (ks := sq) (kc2 := 1) (ks2 := 6) (as := [ky_r G 0, ky_r G 16]) (st := []) (KL_undo (d + 1) σ _ _ h280) (by intro z; cases z) wcw_L_undo w_ini_L wst_L_undo ⟨by decide +kernel, by decide +kernel⟩ (na := 2) (by decide +kernel) (Nat.le_of_ble_eq_true rfl) wl_L_151 rfl rfl (Nat.le_of_ble_eq_true rfl) dL_law_1084 rfl ?_
  refine ky_istore (lv' := [(5, .int v281), (0, ky_r G 15), (1, ky_r G 0), (2, ky_r G 7), (3, ky_r G 16), (4, .int x4)]) (n := 1089) dL_law_1087 rfl (Nat.le_of_ble_eq_true rfl) rfl ?_
  refine ky_aload_n (n := 1090) dL_law_1089 rfl rfl 3 rfl ?_
  obtain ⟨v284, s282, h283, hf⟩ := ky_bd_e hf
  refine ky_bud (kc2 := kq + 0) (ks2 := sq + 0) (by omega) (by omega) ?_
  refine ky_callV (kc := kq) (ks := sq) (kc2 := 0) (ks2 := 0) (k0 := 7) (as := []) (st := []) (KX4_undo (d + 8) s279 _ _ h283) okX4_undo wl_L_153 kc_7 (q := (RX4, TX4, 12)) rfl rfl rfl rfl (Nat.le_of_ble_eq_true rfl) dL_law_1090 rfl ?_
  refine ky_istore (lv' := [(6, .int v284), (5, .int v281), (0, ky_r G 15), (1, ky_r G 0), (2, ky_r G 7), (3, ky_r G 16), (4, .int x4)]) (n := 1095) dL_law_1093 rfl (Nat.le_of_ble_eq_true rfl) rfl ?_
  refine ky_aload_n (n := 1096) dL_law_1095 rfl rfl 4 rfl ?_
  obtain ⟨v287, s285, h286, hf⟩ := ky_bd_e hf
  refine ky_bud (kc2 := kq + 0) (ks2 := sq + 0) (by omega) (by omega) ?_
  refine ky_callV (kc := kq) (ks := sq) (kc2 := 0) (ks2 := 0) (k0 := 7) (as := []) (st := []) (KX4_thrown (d + 8) s282 _ _ h286) okX4_thrown wl_L_98 kc_7 (q := (RX4, TX4, 12)) rfl rfl rfl rfl (Nat.le_of_ble_eq_true rfl) dL_law_1096 rfl ?_
  refine ky_iload (n := 1101) dL_law_1099 rfl 1 rfl ?_
  refine ky_icmp_eq (n := 1104) (tgt := 1106) dL_law_1101 rfl rfl (fun c288 => ?_) (fun c288 => ?_)
  · have hf := ky_pos c288 hf
    refine ky_iload (n := 1108) dL_law_1106 rfl 1 rfl ?_
    refine ky_if_ne (n := 1111) (tgt := 1123) dL_law_1108 rfl rfl (fun c289 => ?_) (fun c289 => ?_)
    · have hf := ky_neg c289 hf
      refine ky_goto (tgt := 1714) dL_law_1123 rfl ?_
      refine ky_iincB (c := (4 : Int32)) (n := 1717) dL_law_1714 rfl 6 rfl rfl (Nat.le_of_ble_eq_true rfl) (fun v290 ev290 => ?_)
      have hf := ky_bn_e hf v290 ev290
      refine ky_lv (lv' := [(4, .int v290), (6, .int v284), (5, .int v281), (0, ky_r G 15), (1, ky_r G 0), (2, ky_r G 7), (3, ky_r G 16)]) rfl ?_
      refine ky_goto (tgt := 23) dL_law_1717 rfl ?_
      refine ky_bud (kc2 := kq) (ks2 := sq) (by omega) (by omega) ?_
      refine ky_sub [3, 4, 5, 6, 0] (lv' := [(0, ky_r G 15), (1, ky_r G 0), (2, ky_r G 7), (3, ky_r G 16), (4, .int v290)]) rfl ?_
      exact hrec23 v290 s285 _ _ hf
    · have hf := ky_pos c289 hf
      refine ky_aload_n (n := 1112) dL_law_1111 rfl rfl 5 rfl ?_
      refine ky_iconst (v := (0 : Int32)) (n := 1113) dL_law_1112 rfl rfl ?_
      refine ky_lald (n := 1114) dL_law_1113 rfl ?_
      refine ky_iload (n := 1116) dL_law_1114 rfl 0 rfl ?_
      refine ky_i2l (n := 1117) dL_law_1116 rfl ?_
      refine ky_lcmp (n := 1118) dL_law_1117 rfl ?_
      refine ky_if_eq (n := 1121) (tgt := 1123) dL_law_1118 rfl rfl (fun c291 => ?_) (fun c291 => ?_)
      · have hf := ky_pos c291 hf
        refine ky_goto (tgt := 1714) dL_law_1123 rfl ?_
        refine ky_iincB (c := (4 : Int32)) (n := 1717) dL_law_1714 rfl 6 rfl rfl (Nat.le_of_ble_eq_true rfl) (fun v292 ev292 => ?_)
        have hf := ky_bn_e hf v292 ev292
        refine ky_lv (lv' := [(4, .int v292), (6, .int v284), (5, .int v281), (0, ky_r G 15), (1, ky_r G 0), (2, ky_r G 7), (3, ky_r G 16)]) rfl ?_
        refine ky_goto (tgt := 23) dL_law_1717 rfl ?_
        refine ky_bud (kc2 := kq) (ks2 := sq) (by omega) (by omega) ?_
        refine ky_sub [3, 4, 5, 6, 0] (lv' := [(0, ky_r G 15), (1, ky_r G 0), (2, ky_r G 7), (3, ky_r G 16), (4, .int v292)]) rfl ?_
        exact hrec23 v292 s285 _ _ hf
      · have hf := ky_neg c291 hf
        refine ky_iconst (v := (0 : Int32)) (n := 1122) dL_law_1121 rfl rfl ?_
        cases hf
        exact ky_zreturn dL_law_1122 rfl (Or.inl rfl)
  · have hf := ky_neg c288 hf
    refine ky_iconst (v := (0 : Int32)) (n := 1105) dL_law_1104 rfl rfl ?_
    cases hf
    exact ky_zreturn dL_law_1105 rfl (Or.inl rfl)
def fL_law_L1126 (L : Nat) (rec23 : Int32 → ky_St → Option (Int32 × ky_St)) (x4 : Int32) (σ : ky_St) : Option (Int32 × ky_St) :=
  ky_g (¬ ((x4 + (1 : Int32)) < 0 ∨ L ≤ (x4 + (1 : Int32)).toNatClampNeg)) (
  ky_g (¬ ((x4 + (2 : Int32)) < 0 ∨ L ≤ (x4 + (2 : Int32)).toNatClampNeg)) (
  ky_bd (fL_bundle (σ.1 15 (x4 + (1 : Int32)).toNatClampNeg) (σ.1 15 (x4 + (2 : Int32)).toNatClampNeg) σ) fun v298 s296 =>
  ky_g (¬ ((x4 + (1 : Int32)) < 0 ∨ L ≤ (x4 + (1 : Int32)).toNatClampNeg)) (
  ky_g (¬ ((x4 + (2 : Int32)) < 0 ∨ L ≤ (x4 + (2 : Int32)).toNatClampNeg)) (
  ky_bd (fX4_bundle (s296.1 15 (x4 + (1 : Int32)).toNatClampNeg) (s296.1 15 (x4 + (2 : Int32)).toNatClampNeg) s296) fun v303 s301 =>
  ky_bd (fX4_thrown s301) fun v306 s304 =>
  if v306 = v298 then (
  if v298 = 0 then (
  if (lg_cmp (s304.2 16) v303.toInt64) = 0 then (
  ky_bn (x4 + (4 : Int32)) fun v311 =>
  rec23 v311 s304) else (
  some ((0 : Int32), s304))) else (
  ky_bn (x4 + (4 : Int32)) fun v309 =>
  rec23 v309 s304)) else (
  some ((0 : Int32), s304))))))
set_option maxHeartbeats 4000000 in
set_option maxRecDepth 100000 in
theorem tL_law_L1126 {G : ky_G} {L : Nat} (hL : ky_len G.2.2.2.1 15 = some L) {rec23 : Int32 → ky_St → Option (Int32 × ky_St)} {kq sq : Nat} (d : Nat) (hrec23 : ∀ (x4 : Int32) (σ : ky_St) (r : Int32) (σ' : ky_St), rec23 x4 σ = some (r, σ') → ky_T G mL_law (d + 9) kq sq 23 [(0, ky_r G 15), (1, ky_r G 0), (2, ky_r G 7), (3, ky_r G 16), (4, .int x4)] [] σ (.inr (some (.int r))) σ') : ∀ (x4 : Int32) (σ : ky_St) (r : Int32) (σ' : ky_St), fL_law_L1126 L rec23 x4 σ = some (r, σ') → ky_T G mL_law (d + 9) (kq + 5) (sq + 30) 1126 [(0, ky_r G 15), (1, ky_r G 0), (2, ky_r G 7), (3, ky_r G 16), (4, .int x4)] [] σ (.inr (some (.int r))) σ' := by
  intro x4 σ r σ' hf
  unfold fL_law_L1126 at hf
  refine ky_aload_n (n := 1127) dL_law_1126 rfl rfl 1 rfl ?_
  refine ky_aload_n (n := 1128) dL_law_1127 rfl rfl 0 rfl ?_
  refine ky_iload (n := 1130) dL_law_1128 rfl 4 rfl ?_
  refine ky_iconst (v := (1 : Int32)) (n := 1131) dL_law_1130 rfl rfl ?_
  refine ky_iadd (n := 1132) dL_law_1131 rfl ?_
  obtain ⟨g294, hf⟩ := ky_ge hf
  refine ky_iald (n := 1133) dL_law_1132 rfl hL g294 ?_
  refine ky_aload_n (n := 1134) dL_law_1133 rfl rfl 0 rfl ?_
  refine ky_iload (n := 1136) dL_law_1134 rfl 4 rfl ?_
  refine ky_iconst (v := (2 : Int32)) (n := 1137) dL_law_1136 rfl rfl ?_
  refine ky_iadd (n := 1138) dL_law_1137 rfl ?_
  obtain ⟨g295, hf⟩ := ky_ge hf
  refine ky_iald (n := 1139) dL_law_1138 rfl hL g295 ?_
  refine ky_aload_n (n := 1140) dL_law_1139 rfl rfl 3 rfl ?_
  obtain ⟨v298, s296, h297, hf⟩ := ky_bd_e hf
  refine ky_bud (kc2 := kq + 2) (ks2 := sq + 12) (by omega) (by omega) ?_
  refine ky_callSW (kc := kq) (ks := sq) (kc2 := 2) (ks2 := 12) (as := [ky_r G 0, .int (σ.1 15 (x4 + (1 : Int32)).toNatClampNeg), .int (σ.1 15 (x4 + (2 : Int32)).toNatClampNeg), ky_r G 16]) (st := []) (KL_bundle d (σ.1 15 (x4 + (1 : Int32)).toNatClampNeg) (σ.1 15 (x4 + (2 : Int32)).toNatClampNeg) σ _ _ h297) (by intro z; cases z) wcw_L_bundle w_ini_L wst_L_bundle ⟨by decide +kernel, by decide +kernel⟩ (na := 4) (by decide +kernel) (Nat.le_of_ble_eq_true rfl) wl_L_154 rfl rfl (Nat.le_of_ble_eq_true rfl) dL_law_1140 rfl ?_
  refine ky_istore (lv' := [(5, .int v298), (0, ky_r G 15), (1, ky_r G 0), (2, ky_r G 7), (3, ky_r G 16), (4, .int x4)]) (n := 1145) dL_law_1143 rfl (Nat.le_of_ble_eq_true rfl) rfl ?_
  refine ky_aload_n (n := 1146) dL_law_1145 rfl rfl 3 rfl ?_
  refine ky_aload_n (n := 1147) dL_law_1146 rfl rfl 1 rfl ?_
  refine ky_iload (n := 1149) dL_law_1147 rfl 5 rfl ?_
  refine ky_iconst (v := (1 : Int32)) (n := 1150) dL_law_1149 rfl rfl ?_
  refine ky_iadd (n := 1151) dL_law_1150 rfl ?_
  obtain ⟨g299, hf⟩ := ky_ge hf
  refine ky_iald (n := 1152) dL_law_1151 rfl hL g299 ?_
  refine ky_aload_n (n := 1153) dL_law_1152 rfl rfl 1 rfl ?_
  refine ky_iload (n := 1155) dL_law_1153 rfl 5 rfl ?_
  refine ky_iconst (v := (2 : Int32)) (n := 1156) dL_law_1155 rfl rfl ?_
  refine ky_iadd (n := 1157) dL_law_1156 rfl ?_
  obtain ⟨g300, hf⟩ := ky_ge hf
  refine ky_iald (n := 1158) dL_law_1157 rfl hL g300 ?_
  obtain ⟨v303, s301, h302, hf⟩ := ky_bd_e hf
  refine ky_bud (kc2 := kq + 0) (ks2 := sq + 0) (by omega) (by omega) ?_
  refine ky_callV (kc := kq) (ks := sq) (kc2 := 0) (ks2 := 0) (k0 := 7) (as := [.int (s296.1 15 (x4 + (1 : Int32)).toNatClampNeg), .int (s296.1 15 (x4 + (2 : Int32)).toNatClampNeg)]) (st := []) (KX4_bundle (d + 4) (s296.1 15 (x4 + (1 : Int32)).toNatClampNeg) (s296.1 15 (x4 + (2 : Int32)).toNatClampNeg) s296 _ _ h302) okX4_bundle wl_L_156 kc_7 (q := (RX4, TX4, 12)) rfl rfl rfl rfl (Nat.le_of_ble_eq_true rfl) dL_law_1158 rfl ?_
  refine ky_istore (lv' := [(6, .int v303), (5, .int v298), (0, ky_r G 15), (1, ky_r G 0), (2, ky_r G 7), (3, ky_r G 16), (4, .int x4)]) (n := 1163) dL_law_1161 rfl (Nat.le_of_ble_eq_true rfl) rfl ?_
  refine ky_aload_n (n := 1164) dL_law_1163 rfl rfl 4 rfl ?_
  obtain ⟨v306, s304, h305, hf⟩ := ky_bd_e hf
  refine ky_bud (kc2 := kq + 0) (ks2 := sq + 0) (by omega) (by omega) ?_
  refine ky_callV (kc := kq) (ks := sq) (kc2 := 0) (ks2 := 0) (k0 := 7) (as := []) (st := []) (KX4_thrown (d + 8) s301 _ _ h305) okX4_thrown wl_L_98 kc_7 (q := (RX4, TX4, 12)) rfl rfl rfl rfl (Nat.le_of_ble_eq_true rfl) dL_law_1164 rfl ?_
  refine ky_iload (n := 1169) dL_law_1167 rfl 1 rfl ?_
  refine ky_icmp_eq (n := 1172) (tgt := 1174) dL_law_1169 rfl rfl (fun c307 => ?_) (fun c307 => ?_)
  · have hf := ky_pos c307 hf
    refine ky_iload (n := 1176) dL_law_1174 rfl 1 rfl ?_
    refine ky_if_ne (n := 1179) (tgt := 1191) dL_law_1176 rfl rfl (fun c308 => ?_) (fun c308 => ?_)
    · have hf := ky_neg c308 hf
      refine ky_goto (tgt := 1714) dL_law_1191 rfl ?_
      refine ky_iincB (c := (4 : Int32)) (n := 1717) dL_law_1714 rfl 6 rfl rfl (Nat.le_of_ble_eq_true rfl) (fun v309 ev309 => ?_)
      have hf := ky_bn_e hf v309 ev309
      refine ky_lv (lv' := [(4, .int v309), (6, .int v303), (5, .int v298), (0, ky_r G 15), (1, ky_r G 0), (2, ky_r G 7), (3, ky_r G 16)]) rfl ?_
      refine ky_goto (tgt := 23) dL_law_1717 rfl ?_
      refine ky_bud (kc2 := kq) (ks2 := sq) (by omega) (by omega) ?_
      refine ky_sub [3, 4, 5, 6, 0] (lv' := [(0, ky_r G 15), (1, ky_r G 0), (2, ky_r G 7), (3, ky_r G 16), (4, .int v309)]) rfl ?_
      exact hrec23 v309 s304 _ _ hf
    · have hf := ky_pos c308 hf
      refine ky_aload_n (n := 1180) dL_law_1179 rfl rfl 5 rfl ?_
      refine ky_iconst (v := (0 : Int32)) (n := 1181) dL_law_1180 rfl rfl ?_
      refine ky_lald (n := 1182) dL_law_1181 rfl ?_
      refine ky_iload (n := 1184) dL_law_1182 rfl 0 rfl ?_
      refine ky_i2l (n := 1185) dL_law_1184 rfl ?_
      refine ky_lcmp (n := 1186) dL_law_1185 rfl ?_
      refine ky_if_eq (n := 1189) (tgt := 1191) dL_law_1186 rfl rfl (fun c310 => ?_) (fun c310 => ?_)
      · have hf := ky_pos c310 hf
        refine ky_goto (tgt := 1714) dL_law_1191 rfl ?_
        refine ky_iincB (c := (4 : Int32)) (n := 1717) dL_law_1714 rfl 6 rfl rfl (Nat.le_of_ble_eq_true rfl) (fun v311 ev311 => ?_)
        have hf := ky_bn_e hf v311 ev311
        refine ky_lv (lv' := [(4, .int v311), (6, .int v303), (5, .int v298), (0, ky_r G 15), (1, ky_r G 0), (2, ky_r G 7), (3, ky_r G 16)]) rfl ?_
        refine ky_goto (tgt := 23) dL_law_1717 rfl ?_
        refine ky_bud (kc2 := kq) (ks2 := sq) (by omega) (by omega) ?_
        refine ky_sub [3, 4, 5, 6, 0] (lv' := [(0, ky_r G 15), (1, ky_r G 0), (2, ky_r G 7), (3, ky_r G 16), (4, .int v311)]) rfl ?_
        exact hrec23 v311 s304 _ _ hf
      · have hf := ky_neg c310 hf
        refine ky_iconst (v := (0 : Int32)) (n := 1190) dL_law_1189 rfl rfl ?_
        cases hf
        exact ky_zreturn dL_law_1190 rfl (Or.inl rfl)
  · have hf := ky_neg c307 hf
    refine ky_iconst (v := (0 : Int32)) (n := 1173) dL_law_1172 rfl rfl ?_
    cases hf
    exact ky_zreturn dL_law_1173 rfl (Or.inl rfl)
def fL_law_L1194 (L : Nat) (rec23 : Int32 → ky_St → Option (Int32 × ky_St)) (x4 : Int32) (σ : ky_St) : Option (Int32 × ky_St) :=
  ky_g (¬ ((x4 + (1 : Int32)) < 0 ∨ L ≤ (x4 + (1 : Int32)).toNatClampNeg)) (
  ky_g (¬ ((x4 + (2 : Int32)) < 0 ∨ L ≤ (x4 + (2 : Int32)).toNatClampNeg)) (
  ky_bd (fL_site (σ.1 15 (x4 + (1 : Int32)).toNatClampNeg) (σ.1 15 (x4 + (2 : Int32)).toNatClampNeg) σ) fun v317 s315 =>
  ky_g (¬ ((x4 + (1 : Int32)) < 0 ∨ L ≤ (x4 + (1 : Int32)).toNatClampNeg)) (
  ky_g (¬ ((x4 + (2 : Int32)) < 0 ∨ L ≤ (x4 + (2 : Int32)).toNatClampNeg)) (
  ky_bd (fX4_site (s315.1 15 (x4 + (1 : Int32)).toNatClampNeg) (s315.1 15 (x4 + (2 : Int32)).toNatClampNeg) s315) fun v322 s320 =>
  ky_bd (fX4_thrown s320) fun v325 s323 =>
  if v325 = v317 then (
  if v317 = 0 then (
  if (lg_cmp (s323.2 16) v322.toInt64) = 0 then (
  ky_bn (x4 + (4 : Int32)) fun v330 =>
  rec23 v330 s323) else (
  some ((0 : Int32), s323))) else (
  ky_bn (x4 + (4 : Int32)) fun v328 =>
  rec23 v328 s323)) else (
  some ((0 : Int32), s323))))))
set_option maxHeartbeats 4000000 in
set_option maxRecDepth 100000 in
theorem tL_law_L1194 {G : ky_G} {L : Nat} (hL : ky_len G.2.2.2.1 15 = some L) {rec23 : Int32 → ky_St → Option (Int32 × ky_St)} {kq sq : Nat} (d : Nat) (hrec23 : ∀ (x4 : Int32) (σ : ky_St) (r : Int32) (σ' : ky_St), rec23 x4 σ = some (r, σ') → ky_T G mL_law (d + 9) kq sq 23 [(0, ky_r G 15), (1, ky_r G 0), (2, ky_r G 7), (3, ky_r G 16), (4, .int x4)] [] σ (.inr (some (.int r))) σ') : ∀ (x4 : Int32) (σ : ky_St) (r : Int32) (σ' : ky_St), fL_law_L1194 L rec23 x4 σ = some (r, σ') → ky_T G mL_law (d + 9) (kq + 5) (sq + 30) 1194 [(0, ky_r G 15), (1, ky_r G 0), (2, ky_r G 7), (3, ky_r G 16), (4, .int x4)] [] σ (.inr (some (.int r))) σ' := by
  intro x4 σ r σ' hf
  unfold fL_law_L1194 at hf
  refine ky_aload_n (n := 1195) dL_law_1194 rfl rfl 1 rfl ?_
  refine ky_aload_n (n := 1196) dL_law_1195 rfl rfl 0 rfl ?_
  refine ky_iload (n := 1198) dL_law_1196 rfl 4 rfl ?_
  refine ky_iconst (v := (1 : Int32)) (n := 1199) dL_law_1198 rfl rfl ?_
  refine ky_iadd (n := 1200) dL_law_1199 rfl ?_
  obtain ⟨g313, hf⟩ := ky_ge hf
  refine ky_iald (n := 1201) dL_law_1200 rfl hL g313 ?_
  refine ky_aload_n (n := 1202) dL_law_1201 rfl rfl 0 rfl ?_
  refine ky_iload (n := 1204) dL_law_1202 rfl 4 rfl ?_
  refine ky_iconst (v := (2 : Int32)) (n := 1205) dL_law_1204 rfl rfl ?_
  refine ky_iadd (n := 1206) dL_law_1205 rfl ?_
  obtain ⟨g314, hf⟩ := ky_ge hf
  refine ky_iald (n := 1207) dL_law_1206 rfl hL g314 ?_
  refine ky_aload_n (n := 1208) dL_law_1207 rfl rfl 3 rfl ?_
  obtain ⟨v317, s315, h316, hf⟩ := ky_bd_e hf
  refine ky_bud (kc2 := kq + 2) (ks2 := sq + 12) (by omega) (by omega) ?_
  refine ky_callSW (kc := kq) (ks := sq) (kc2 := 2) (ks2 := 12) (as := [ky_r G 0, .int (σ.1 15 (x4 + (1 : Int32)).toNatClampNeg), .int (σ.1 15 (x4 + (2 : Int32)).toNatClampNeg), ky_r G 16]) (st := []) (KL_site d (σ.1 15 (x4 + (1 : Int32)).toNatClampNeg) (σ.1 15 (x4 + (2 : Int32)).toNatClampNeg) σ _ _ h316) (by intro z; cases z) wcw_L_site w_ini_L wst_L_site ⟨by decide +kernel, by decide +kernel⟩ (na := 4) (by decide +kernel) (Nat.le_of_ble_eq_true rfl) wl_L_157 rfl rfl (Nat.le_of_ble_eq_true rfl) dL_law_1208 rfl ?_
  refine ky_istore (lv' := [(5, .int v317), (0, ky_r G 15), (1, ky_r G 0), (2, ky_r G 7), (3, ky_r G 16), (4, .int x4)]) (n := 1213) dL_law_1211 rfl (Nat.le_of_ble_eq_true rfl) rfl ?_
  refine ky_aload_n (n := 1214) dL_law_1213 rfl rfl 3 rfl ?_
  refine ky_aload_n (n := 1215) dL_law_1214 rfl rfl 1 rfl ?_
  refine ky_iload (n := 1217) dL_law_1215 rfl 5 rfl ?_
  refine ky_iconst (v := (1 : Int32)) (n := 1218) dL_law_1217 rfl rfl ?_
  refine ky_iadd (n := 1219) dL_law_1218 rfl ?_
  obtain ⟨g318, hf⟩ := ky_ge hf
  refine ky_iald (n := 1220) dL_law_1219 rfl hL g318 ?_
  refine ky_aload_n (n := 1221) dL_law_1220 rfl rfl 1 rfl ?_
  refine ky_iload (n := 1223) dL_law_1221 rfl 5 rfl ?_
  refine ky_iconst (v := (2 : Int32)) (n := 1224) dL_law_1223 rfl rfl ?_
  refine ky_iadd (n := 1225) dL_law_1224 rfl ?_
  obtain ⟨g319, hf⟩ := ky_ge hf
  refine ky_iald (n := 1226) dL_law_1225 rfl hL g319 ?_
  obtain ⟨v322, s320, h321, hf⟩ := ky_bd_e hf
  refine ky_bud (kc2 := kq + 0) (ks2 := sq + 0) (by omega) (by omega) ?_
  refine ky_callV (kc := kq) (ks := sq) (kc2 := 0) (ks2 := 0) (k0 := 7) (as := [.int (s315.1 15 (x4 + (1 : Int32)).toNatClampNeg), .int (s315.1 15 (x4 + (2 : Int32)).toNatClampNeg)]) (st := []) (KX4_site (d + 3) (s315.1 15 (x4 + (1 : Int32)).toNatClampNeg) (s315.1 15 (x4 + (2 : Int32)).toNatClampNeg) s315 _ _ h321) okX4_site wl_L_159 kc_7 (q := (RX4, TX4, 12)) rfl rfl rfl rfl (Nat.le_of_ble_eq_true rfl) dL_law_1226 rfl ?_
  refine ky_istore (lv' := [(6, .int v322), (5, .int v317), (0, ky_r G 15), (1, ky_r G 0), (2, ky_r G 7), (3, ky_r G 16), (4, .int x4)]) (n := 1231) dL_law_1229 rfl (Nat.le_of_ble_eq_true rfl) rfl ?_
  refine ky_aload_n (n := 1232) dL_law_1231 rfl rfl 4 rfl ?_
  obtain ⟨v325, s323, h324, hf⟩ := ky_bd_e hf
  refine ky_bud (kc2 := kq + 0) (ks2 := sq + 0) (by omega) (by omega) ?_
  refine ky_callV (kc := kq) (ks := sq) (kc2 := 0) (ks2 := 0) (k0 := 7) (as := []) (st := []) (KX4_thrown (d + 8) s320 _ _ h324) okX4_thrown wl_L_98 kc_7 (q := (RX4, TX4, 12)) rfl rfl rfl rfl (Nat.le_of_ble_eq_true rfl) dL_law_1232 rfl ?_
  refine ky_iload (n := 1237) dL_law_1235 rfl 1 rfl ?_
  refine ky_icmp_eq (n := 1240) (tgt := 1242) dL_law_1237 rfl rfl (fun c326 => ?_) (fun c326 => ?_)
  · have hf := ky_pos c326 hf
    refine ky_iload (n := 1244) dL_law_1242 rfl 1 rfl ?_
    refine ky_if_ne (n := 1247) (tgt := 1259) dL_law_1244 rfl rfl (fun c327 => ?_) (fun c327 => ?_)
    · have hf := ky_neg c327 hf
      refine ky_goto (tgt := 1714) dL_law_1259 rfl ?_
      refine ky_iincB (c := (4 : Int32)) (n := 1717) dL_law_1714 rfl 6 rfl rfl (Nat.le_of_ble_eq_true rfl) (fun v328 ev328 => ?_)
      have hf := ky_bn_e hf v328 ev328
      refine ky_lv (lv' := [(4, .int v328), (6, .int v322), (5, .int v317), (0, ky_r G 15), (1, ky_r G 0), (2, ky_r G 7), (3, ky_r G 16)]) rfl ?_
      refine ky_goto (tgt := 23) dL_law_1717 rfl ?_
      refine ky_bud (kc2 := kq) (ks2 := sq) (by omega) (by omega) ?_
      refine ky_sub [3, 4, 5, 6, 0] (lv' := [(0, ky_r G 15), (1, ky_r G 0), (2, ky_r G 7), (3, ky_r G 16), (4, .int v328)]) rfl ?_
      exact hrec23 v328 s323 _ _ hf
    · have hf := ky_pos c327 hf
      refine ky_aload_n (n := 1248) dL_law_1247 rfl rfl 5 rfl ?_
      refine ky_iconst (v := (0 : Int32)) (n := 1249) dL_law_1248 rfl rfl ?_
      refine ky_lald (n := 1250) dL_law_1249 rfl ?_
      refine ky_iload (n := 1252) dL_law_1250 rfl 0 rfl ?_
      refine ky_i2l (n := 1253) dL_law_1252 rfl ?_
      refine ky_lcmp (n := 1254) dL_law_1253 rfl ?_
      refine ky_if_eq (n := 1257) (tgt := 1259) dL_law_1254 rfl rfl (fun c329 => ?_) (fun c329 => ?_)
      · have hf := ky_pos c329 hf
        refine ky_goto (tgt := 1714) dL_law_1259 rfl ?_
        refine ky_iincB (c := (4 : Int32)) (n := 1717) dL_law_1714 rfl 6 rfl rfl (Nat.le_of_ble_eq_true rfl) (fun v330 ev330 => ?_)
        have hf := ky_bn_e hf v330 ev330
        refine ky_lv (lv' := [(4, .int v330), (6, .int v322), (5, .int v317), (0, ky_r G 15), (1, ky_r G 0), (2, ky_r G 7), (3, ky_r G 16)]) rfl ?_
        refine ky_goto (tgt := 23) dL_law_1717 rfl ?_
        refine ky_bud (kc2 := kq) (ks2 := sq) (by omega) (by omega) ?_
        refine ky_sub [3, 4, 5, 6, 0] (lv' := [(0, ky_r G 15), (1, ky_r G 0), (2, ky_r G 7), (3, ky_r G 16), (4, .int v330)]) rfl ?_
        exact hrec23 v330 s323 _ _ hf
      · have hf := ky_neg c329 hf
        refine ky_iconst (v := (0 : Int32)) (n := 1258) dL_law_1257 rfl rfl ?_
        cases hf
        exact ky_zreturn dL_law_1258 rfl (Or.inl rfl)
  · have hf := ky_neg c326 hf
    refine ky_iconst (v := (0 : Int32)) (n := 1241) dL_law_1240 rfl rfl ?_
    cases hf
    exact ky_zreturn dL_law_1241 rfl (Or.inl rfl)
def fL_law_L1262 (L : Nat) (rec23 : Int32 → ky_St → Option (Int32 × ky_St)) (x4 : Int32) (σ : ky_St) : Option (Int32 × ky_St) :=
  ky_g (¬ ((x4 + (1 : Int32)) < 0 ∨ L ≤ (x4 + (1 : Int32)).toNatClampNeg)) (
  ky_g (¬ ((x4 + (2 : Int32)) < 0 ∨ L ≤ (x4 + (2 : Int32)).toNatClampNeg)) (
  ky_bd (fL_parts (σ.1 15 (x4 + (1 : Int32)).toNatClampNeg) (σ.1 15 (x4 + (2 : Int32)).toNatClampNeg) σ) fun v336 s334 =>
  ky_g (¬ ((x4 + (1 : Int32)) < 0 ∨ L ≤ (x4 + (1 : Int32)).toNatClampNeg)) (
  ky_g (¬ ((x4 + (2 : Int32)) < 0 ∨ L ≤ (x4 + (2 : Int32)).toNatClampNeg)) (
  ky_bd (fX4_parts (s334.1 15 (x4 + (1 : Int32)).toNatClampNeg) (s334.1 15 (x4 + (2 : Int32)).toNatClampNeg) s334) fun v341 s339 =>
  ky_bd (fX4_thrown s339) fun v344 s342 =>
  if v344 = v336 then (
  if v336 = 0 then (
  if (lg_cmp (s342.2 16) v341.toInt64) = 0 then (
  ky_bn (x4 + (4 : Int32)) fun v349 =>
  rec23 v349 s342) else (
  some ((0 : Int32), s342))) else (
  ky_bn (x4 + (4 : Int32)) fun v347 =>
  rec23 v347 s342)) else (
  some ((0 : Int32), s342))))))
set_option maxHeartbeats 4000000 in
set_option maxRecDepth 100000 in
theorem tL_law_L1262 {G : ky_G} {L : Nat} (hL : ky_len G.2.2.2.1 15 = some L) {rec23 : Int32 → ky_St → Option (Int32 × ky_St)} {kq sq : Nat} (d : Nat) (hrec23 : ∀ (x4 : Int32) (σ : ky_St) (r : Int32) (σ' : ky_St), rec23 x4 σ = some (r, σ') → ky_T G mL_law (d + 9) kq sq 23 [(0, ky_r G 15), (1, ky_r G 0), (2, ky_r G 7), (3, ky_r G 16), (4, .int x4)] [] σ (.inr (some (.int r))) σ') : ∀ (x4 : Int32) (σ : ky_St) (r : Int32) (σ' : ky_St), fL_law_L1262 L rec23 x4 σ = some (r, σ') → ky_T G mL_law (d + 9) (kq + 5) (sq + 30) 1262 [(0, ky_r G 15), (1, ky_r G 0), (2, ky_r G 7), (3, ky_r G 16), (4, .int x4)] [] σ (.inr (some (.int r))) σ' := by
  intro x4 σ r σ' hf
  unfold fL_law_L1262 at hf
  refine ky_aload_n (n := 1263) dL_law_1262 rfl rfl 1 rfl ?_
  refine ky_aload_n (n := 1264) dL_law_1263 rfl rfl 0 rfl ?_
  refine ky_iload (n := 1266) dL_law_1264 rfl 4 rfl ?_
  refine ky_iconst (v := (1 : Int32)) (n := 1267) dL_law_1266 rfl rfl ?_
  refine ky_iadd (n := 1268) dL_law_1267 rfl ?_
  obtain ⟨g332, hf⟩ := ky_ge hf
  refine ky_iald (n := 1269) dL_law_1268 rfl hL g332 ?_
  refine ky_aload_n (n := 1270) dL_law_1269 rfl rfl 0 rfl ?_
  refine ky_iload (n := 1272) dL_law_1270 rfl 4 rfl ?_
  refine ky_iconst (v := (2 : Int32)) (n := 1273) dL_law_1272 rfl rfl ?_
  refine ky_iadd (n := 1274) dL_law_1273 rfl ?_
  obtain ⟨g333, hf⟩ := ky_ge hf
  refine ky_iald (n := 1275) dL_law_1274 rfl hL g333 ?_
  refine ky_aload_n (n := 1276) dL_law_1275 rfl rfl 3 rfl ?_
  obtain ⟨v336, s334, h335, hf⟩ := ky_bd_e hf
  refine ky_bud (kc2 := kq + 2) (ks2 := sq + 12) (by omega) (by omega) ?_
  refine ky_callSW (kc := kq) (ks := sq) (kc2 := 2) (ks2 := 12) (as := [ky_r G 0, .int (σ.1 15 (x4 + (1 : Int32)).toNatClampNeg), .int (σ.1 15 (x4 + (2 : Int32)).toNatClampNeg), ky_r G 16]) (st := []) (KL_parts d (σ.1 15 (x4 + (1 : Int32)).toNatClampNeg) (σ.1 15 (x4 + (2 : Int32)).toNatClampNeg) σ _ _ h335) (by intro z; cases z) wcw_L_parts w_ini_L wst_L_parts ⟨by decide +kernel, by decide +kernel⟩ (na := 4) (by decide +kernel) (Nat.le_of_ble_eq_true rfl) wl_L_160 rfl rfl (Nat.le_of_ble_eq_true rfl) dL_law_1276 rfl ?_
  refine ky_istore (lv' := [(5, .int v336), (0, ky_r G 15), (1, ky_r G 0), (2, ky_r G 7), (3, ky_r G 16), (4, .int x4)]) (n := 1281) dL_law_1279 rfl (Nat.le_of_ble_eq_true rfl) rfl ?_
  refine ky_aload_n (n := 1282) dL_law_1281 rfl rfl 3 rfl ?_
  refine ky_aload_n (n := 1283) dL_law_1282 rfl rfl 1 rfl ?_
  refine ky_iload (n := 1285) dL_law_1283 rfl 5 rfl ?_
  refine ky_iconst (v := (1 : Int32)) (n := 1286) dL_law_1285 rfl rfl ?_
  refine ky_iadd (n := 1287) dL_law_1286 rfl ?_
  obtain ⟨g337, hf⟩ := ky_ge hf
  refine ky_iald (n := 1288) dL_law_1287 rfl hL g337 ?_
  refine ky_aload_n (n := 1289) dL_law_1288 rfl rfl 1 rfl ?_
  refine ky_iload (n := 1291) dL_law_1289 rfl 5 rfl ?_
  refine ky_iconst (v := (2 : Int32)) (n := 1292) dL_law_1291 rfl rfl ?_
  refine ky_iadd (n := 1293) dL_law_1292 rfl ?_
  obtain ⟨g338, hf⟩ := ky_ge hf
  refine ky_iald (n := 1294) dL_law_1293 rfl hL g338 ?_
  obtain ⟨v341, s339, h340, hf⟩ := ky_bd_e hf
  refine ky_bud (kc2 := kq + 0) (ks2 := sq + 0) (by omega) (by omega) ?_
  refine ky_callV (kc := kq) (ks := sq) (kc2 := 0) (ks2 := 0) (k0 := 7) (as := [.int (s334.1 15 (x4 + (1 : Int32)).toNatClampNeg), .int (s334.1 15 (x4 + (2 : Int32)).toNatClampNeg)]) (st := []) (KX4_parts (d + 5) (s334.1 15 (x4 + (1 : Int32)).toNatClampNeg) (s334.1 15 (x4 + (2 : Int32)).toNatClampNeg) s334 _ _ h340) okX4_parts wl_L_162 kc_7 (q := (RX4, TX4, 12)) rfl rfl rfl rfl (Nat.le_of_ble_eq_true rfl) dL_law_1294 rfl ?_
  refine ky_istore (lv' := [(6, .int v341), (5, .int v336), (0, ky_r G 15), (1, ky_r G 0), (2, ky_r G 7), (3, ky_r G 16), (4, .int x4)]) (n := 1299) dL_law_1297 rfl (Nat.le_of_ble_eq_true rfl) rfl ?_
  refine ky_aload_n (n := 1300) dL_law_1299 rfl rfl 4 rfl ?_
  obtain ⟨v344, s342, h343, hf⟩ := ky_bd_e hf
  refine ky_bud (kc2 := kq + 0) (ks2 := sq + 0) (by omega) (by omega) ?_
  refine ky_callV (kc := kq) (ks := sq) (kc2 := 0) (ks2 := 0) (k0 := 7) (as := []) (st := []) (KX4_thrown (d + 8) s339 _ _ h343) okX4_thrown wl_L_98 kc_7 (q := (RX4, TX4, 12)) rfl rfl rfl rfl (Nat.le_of_ble_eq_true rfl) dL_law_1300 rfl ?_
  refine ky_iload (n := 1305) dL_law_1303 rfl 1 rfl ?_
  refine ky_icmp_eq (n := 1308) (tgt := 1310) dL_law_1305 rfl rfl (fun c345 => ?_) (fun c345 => ?_)
  · have hf := ky_pos c345 hf
    refine ky_iload (n := 1312) dL_law_1310 rfl 1 rfl ?_
    refine ky_if_ne (n := 1315) (tgt := 1327) dL_law_1312 rfl rfl (fun c346 => ?_) (fun c346 => ?_)
    · have hf := ky_neg c346 hf
      refine ky_goto (tgt := 1714) dL_law_1327 rfl ?_
      refine ky_iincB (c := (4 : Int32)) (n := 1717) dL_law_1714 rfl 6 rfl rfl (Nat.le_of_ble_eq_true rfl) (fun v347 ev347 => ?_)
      have hf := ky_bn_e hf v347 ev347
      refine ky_lv (lv' := [(4, .int v347), (6, .int v341), (5, .int v336), (0, ky_r G 15), (1, ky_r G 0), (2, ky_r G 7), (3, ky_r G 16)]) rfl ?_
      refine ky_goto (tgt := 23) dL_law_1717 rfl ?_
      refine ky_bud (kc2 := kq) (ks2 := sq) (by omega) (by omega) ?_
      refine ky_sub [3, 4, 5, 6, 0] (lv' := [(0, ky_r G 15), (1, ky_r G 0), (2, ky_r G 7), (3, ky_r G 16), (4, .int v347)]) rfl ?_
      exact hrec23 v347 s342 _ _ hf
    · have hf := ky_pos c346 hf
      refine ky_aload_n (n := 1316) dL_law_1315 rfl rfl 5 rfl ?_
      refine ky_iconst (v := (0 : Int32)) (n := 1317) dL_law_1316 rfl rfl ?_
      refine ky_lald (n := 1318) dL_law_1317 rfl ?_
      refine ky_iload (n := 1320) dL_law_1318 rfl 0 rfl ?_
      refine ky_i2l (n := 1321) dL_law_1320 rfl ?_
      refine ky_lcmp (n := 1322) dL_law_1321 rfl ?_
      refine ky_if_eq (n := 1325) (tgt := 1327) dL_law_1322 rfl rfl (fun c348 => ?_) (fun c348 => ?_)
      · have hf := ky_pos c348 hf
        refine ky_goto (tgt := 1714) dL_law_1327 rfl ?_
        refine ky_iincB (c := (4 : Int32)) (n := 1717) dL_law_1714 rfl 6 rfl rfl (Nat.le_of_ble_eq_true rfl) (fun v349 ev349 => ?_)
        have hf := ky_bn_e hf v349 ev349
        refine ky_lv (lv' := [(4, .int v349), (6, .int v341), (5, .int v336), (0, ky_r G 15), (1, ky_r G 0), (2, ky_r G 7), (3, ky_r G 16)]) rfl ?_
        refine ky_goto (tgt := 23) dL_law_1717 rfl ?_
        refine ky_bud (kc2 := kq) (ks2 := sq) (by omega) (by omega) ?_
        refine ky_sub [3, 4, 5, 6, 0] (lv' := [(0, ky_r G 15), (1, ky_r G 0), (2, ky_r G 7), (3, ky_r G 16), (4, .int v349)]) rfl ?_
        exact hrec23 v349 s342 _ _ hf
      · have hf := ky_neg c348 hf
        refine ky_iconst (v := (0 : Int32)) (n := 1326) dL_law_1325 rfl rfl ?_
        cases hf
        exact ky_zreturn dL_law_1326 rfl (Or.inl rfl)
  · have hf := ky_neg c345 hf
    refine ky_iconst (v := (0 : Int32)) (n := 1309) dL_law_1308 rfl rfl ?_
    cases hf
    exact ky_zreturn dL_law_1309 rfl (Or.inl rfl)
def fL_law_L1330 (L : Nat) (rec23 : Int32 → ky_St → Option (Int32 × ky_St)) (x4 : Int32) (σ : ky_St) : Option (Int32 × ky_St) :=
  ky_g (¬ ((x4 + (1 : Int32)) < 0 ∨ L ≤ (x4 + (1 : Int32)).toNatClampNeg)) (
  ky_bd (fL_count (σ.1 15 (x4 + (1 : Int32)).toNatClampNeg) σ) fun v354 s352 =>
  ky_g (¬ ((x4 + (1 : Int32)) < 0 ∨ L ≤ (x4 + (1 : Int32)).toNatClampNeg)) (
  ky_bd (fX4_count (s352.1 15 (x4 + (1 : Int32)).toNatClampNeg) s352) fun v358 s356 =>
  ky_bd (fX4_thrown s356) fun v361 s359 =>
  if v361 = v354 then (
  if v354 = 0 then (
  if (lg_cmp (s359.2 16) v358.toInt64) = 0 then (
  ky_bn (x4 + (4 : Int32)) fun v366 =>
  rec23 v366 s359) else (
  some ((0 : Int32), s359))) else (
  ky_bn (x4 + (4 : Int32)) fun v364 =>
  rec23 v364 s359)) else (
  some ((0 : Int32), s359))))
set_option maxHeartbeats 4000000 in
set_option maxRecDepth 100000 in
theorem tL_law_L1330 {G : ky_G} {L : Nat} (hL : ky_len G.2.2.2.1 15 = some L) {rec23 : Int32 → ky_St → Option (Int32 × ky_St)} {kq sq : Nat} (d : Nat) (hrec23 : ∀ (x4 : Int32) (σ : ky_St) (r : Int32) (σ' : ky_St), rec23 x4 σ = some (r, σ') → ky_T G mL_law (d + 9) kq sq 23 [(0, ky_r G 15), (1, ky_r G 0), (2, ky_r G 7), (3, ky_r G 16), (4, .int x4)] [] σ (.inr (some (.int r))) σ') : ∀ (x4 : Int32) (σ : ky_St) (r : Int32) (σ' : ky_St), fL_law_L1330 L rec23 x4 σ = some (r, σ') → ky_T G mL_law (d + 9) (kq + 5) (sq + 30) 1330 [(0, ky_r G 15), (1, ky_r G 0), (2, ky_r G 7), (3, ky_r G 16), (4, .int x4)] [] σ (.inr (some (.int r))) σ' := by
  intro x4 σ r σ' hf
  unfold fL_law_L1330 at hf
  refine ky_aload_n (n := 1331) dL_law_1330 rfl rfl 1 rfl ?_
  refine ky_aload_n (n := 1332) dL_law_1331 rfl rfl 0 rfl ?_
  refine ky_iload (n := 1334) dL_law_1332 rfl 4 rfl ?_
  refine ky_iconst (v := (1 : Int32)) (n := 1335) dL_law_1334 rfl rfl ?_
  refine ky_iadd (n := 1336) dL_law_1335 rfl ?_
  obtain ⟨g351, hf⟩ := ky_ge hf
  refine ky_iald (n := 1337) dL_law_1336 rfl hL g351 ?_
  refine ky_aload_n (n := 1338) dL_law_1337 rfl rfl 3 rfl ?_
  obtain ⟨v354, s352, h353, hf⟩ := ky_bd_e hf
  refine ky_bud (kc2 := kq + 1) (ks2 := sq + 6) (by omega) (by omega) ?_
  refine ky_callSW (kc := kq) (ks := sq) (kc2 := 1) (ks2 := 6) (as := [ky_r G 0, .int (σ.1 15 (x4 + (1 : Int32)).toNatClampNeg), ky_r G 16]) (st := []) (KL_count (d + 1) (σ.1 15 (x4 + (1 : Int32)).toNatClampNeg) σ _ _ h353) (by intro z; cases z) wcw_L_count w_ini_L wst_L_count ⟨by decide +kernel, by decide +kernel⟩ (na := 3) (by decide +kernel) (Nat.le_of_ble_eq_true rfl) wl_L_163 rfl rfl (Nat.le_of_ble_eq_true rfl) dL_law_1338 rfl ?_
  refine ky_istore (lv' := [(5, .int v354), (0, ky_r G 15), (1, ky_r G 0), (2, ky_r G 7), (3, ky_r G 16), (4, .int x4)]) (n := 1343) dL_law_1341 rfl (Nat.le_of_ble_eq_true rfl) rfl ?_
  refine ky_aload_n (n := 1344) dL_law_1343 rfl rfl 3 rfl ?_
  refine ky_aload_n (n := 1345) dL_law_1344 rfl rfl 1 rfl ?_
  refine ky_iload (n := 1347) dL_law_1345 rfl 5 rfl ?_
  refine ky_iconst (v := (1 : Int32)) (n := 1348) dL_law_1347 rfl rfl ?_
  refine ky_iadd (n := 1349) dL_law_1348 rfl ?_
  obtain ⟨g355, hf⟩ := ky_ge hf
  refine ky_iald (n := 1350) dL_law_1349 rfl hL g355 ?_
  obtain ⟨v358, s356, h357, hf⟩ := ky_bd_e hf
  refine ky_bud (kc2 := kq + 0) (ks2 := sq + 0) (by omega) (by omega) ?_
  refine ky_callV (kc := kq) (ks := sq) (kc2 := 0) (ks2 := 0) (k0 := 7) (as := [.int (s352.1 15 (x4 + (1 : Int32)).toNatClampNeg)]) (st := []) (KX4_count (d + 4) (s352.1 15 (x4 + (1 : Int32)).toNatClampNeg) s352 _ _ h357) okX4_count wl_L_165 kc_7 (q := (RX4, TX4, 12)) rfl rfl rfl rfl (Nat.le_of_ble_eq_true rfl) dL_law_1350 rfl ?_
  refine ky_istore (lv' := [(6, .int v358), (5, .int v354), (0, ky_r G 15), (1, ky_r G 0), (2, ky_r G 7), (3, ky_r G 16), (4, .int x4)]) (n := 1355) dL_law_1353 rfl (Nat.le_of_ble_eq_true rfl) rfl ?_
  refine ky_aload_n (n := 1356) dL_law_1355 rfl rfl 4 rfl ?_
  obtain ⟨v361, s359, h360, hf⟩ := ky_bd_e hf
  refine ky_bud (kc2 := kq + 0) (ks2 := sq + 0) (by omega) (by omega) ?_
  refine ky_callV (kc := kq) (ks := sq) (kc2 := 0) (ks2 := 0) (k0 := 7) (as := []) (st := []) (KX4_thrown (d + 8) s356 _ _ h360) okX4_thrown wl_L_98 kc_7 (q := (RX4, TX4, 12)) rfl rfl rfl rfl (Nat.le_of_ble_eq_true rfl) dL_law_1356 rfl ?_
  refine ky_iload (n := 1361) dL_law_1359 rfl 1 rfl ?_
  refine ky_icmp_eq (n := 1364) (tgt := 1366) dL_law_1361 rfl rfl (fun c362 => ?_) (fun c362 => ?_)
  · have hf := ky_pos c362 hf
    refine ky_iload (n := 1368) dL_law_1366 rfl 1 rfl ?_
    refine ky_if_ne (n := 1371) (tgt := 1383) dL_law_1368 rfl rfl (fun c363 => ?_) (fun c363 => ?_)
    · have hf := ky_neg c363 hf
      refine ky_goto (tgt := 1714) dL_law_1383 rfl ?_
      refine ky_iincB (c := (4 : Int32)) (n := 1717) dL_law_1714 rfl 6 rfl rfl (Nat.le_of_ble_eq_true rfl) (fun v364 ev364 => ?_)
      have hf := ky_bn_e hf v364 ev364
      refine ky_lv (lv' := [(4, .int v364), (6, .int v358), (5, .int v354), (0, ky_r G 15), (1, ky_r G 0), (2, ky_r G 7), (3, ky_r G 16)]) rfl ?_
      refine ky_goto (tgt := 23) dL_law_1717 rfl ?_
      refine ky_bud (kc2 := kq) (ks2 := sq) (by omega) (by omega) ?_
      refine ky_sub [3, 4, 5, 6, 0] (lv' := [(0, ky_r G 15), (1, ky_r G 0), (2, ky_r G 7), (3, ky_r G 16), (4, .int v364)]) rfl ?_
      exact hrec23 v364 s359 _ _ hf
    · have hf := ky_pos c363 hf
      refine ky_aload_n (n := 1372) dL_law_1371 rfl rfl 5 rfl ?_
      refine ky_iconst (v := (0 : Int32)) (n := 1373) dL_law_1372 rfl rfl ?_
      refine ky_lald (n := 1374) dL_law_1373 rfl ?_
      refine ky_iload (n := 1376) dL_law_1374 rfl 0 rfl ?_
      refine ky_i2l (n := 1377) dL_law_1376 rfl ?_
      refine ky_lcmp (n := 1378) dL_law_1377 rfl ?_
      refine ky_if_eq (n := 1381) (tgt := 1383) dL_law_1378 rfl rfl (fun c365 => ?_) (fun c365 => ?_)
      · have hf := ky_pos c365 hf
        refine ky_goto (tgt := 1714) dL_law_1383 rfl ?_
        refine ky_iincB (c := (4 : Int32)) (n := 1717) dL_law_1714 rfl 6 rfl rfl (Nat.le_of_ble_eq_true rfl) (fun v366 ev366 => ?_)
        have hf := ky_bn_e hf v366 ev366
        refine ky_lv (lv' := [(4, .int v366), (6, .int v358), (5, .int v354), (0, ky_r G 15), (1, ky_r G 0), (2, ky_r G 7), (3, ky_r G 16)]) rfl ?_
        refine ky_goto (tgt := 23) dL_law_1717 rfl ?_
        refine ky_bud (kc2 := kq) (ks2 := sq) (by omega) (by omega) ?_
        refine ky_sub [3, 4, 5, 6, 0] (lv' := [(0, ky_r G 15), (1, ky_r G 0), (2, ky_r G 7), (3, ky_r G 16), (4, .int v366)]) rfl ?_
        exact hrec23 v366 s359 _ _ hf
      · have hf := ky_neg c365 hf
        refine ky_iconst (v := (0 : Int32)) (n := 1382) dL_law_1381 rfl rfl ?_
        cases hf
        exact ky_zreturn dL_law_1382 rfl (Or.inl rfl)
  · have hf := ky_neg c362 hf
    refine ky_iconst (v := (0 : Int32)) (n := 1365) dL_law_1364 rfl rfl ?_
    cases hf
    exact ky_zreturn dL_law_1365 rfl (Or.inl rfl)
def fL_law_L1386 (L : Nat) (rec23 : Int32 → ky_St → Option (Int32 × ky_St)) (x4 : Int32) (σ : ky_St) : Option (Int32 × ky_St) :=
  ky_g (¬ ((x4 + (1 : Int32)) < 0 ∨ L ≤ (x4 + (1 : Int32)).toNatClampNeg)) (
  ky_bd (fL_setting (σ.1 15 (x4 + (1 : Int32)).toNatClampNeg) σ) fun v371 s369 =>
  ky_g (¬ ((x4 + (1 : Int32)) < 0 ∨ L ≤ (x4 + (1 : Int32)).toNatClampNeg)) (
  ky_bd (fX4_setting (s369.1 15 (x4 + (1 : Int32)).toNatClampNeg) s369) fun v375 s373 =>
  ky_bd (fX4_thrown s373) fun v378 s376 =>
  if v378 = v371 then (
  if v371 = 0 then (
  if (lg_cmp (s376.2 16) v375.toInt64) = 0 then (
  ky_bn (x4 + (4 : Int32)) fun v383 =>
  rec23 v383 s376) else (
  some ((0 : Int32), s376))) else (
  ky_bn (x4 + (4 : Int32)) fun v381 =>
  rec23 v381 s376)) else (
  some ((0 : Int32), s376))))
set_option maxHeartbeats 4000000 in
set_option maxRecDepth 100000 in
theorem tL_law_L1386 {G : ky_G} {L : Nat} (hL : ky_len G.2.2.2.1 15 = some L) {rec23 : Int32 → ky_St → Option (Int32 × ky_St)} {kq sq : Nat} (d : Nat) (hrec23 : ∀ (x4 : Int32) (σ : ky_St) (r : Int32) (σ' : ky_St), rec23 x4 σ = some (r, σ') → ky_T G mL_law (d + 9) kq sq 23 [(0, ky_r G 15), (1, ky_r G 0), (2, ky_r G 7), (3, ky_r G 16), (4, .int x4)] [] σ (.inr (some (.int r))) σ') : ∀ (x4 : Int32) (σ : ky_St) (r : Int32) (σ' : ky_St), fL_law_L1386 L rec23 x4 σ = some (r, σ') → ky_T G mL_law (d + 9) (kq + 5) (sq + 30) 1386 [(0, ky_r G 15), (1, ky_r G 0), (2, ky_r G 7), (3, ky_r G 16), (4, .int x4)] [] σ (.inr (some (.int r))) σ' := by
  intro x4 σ r σ' hf
  unfold fL_law_L1386 at hf
  refine ky_aload_n (n := 1387) dL_law_1386 rfl rfl 1 rfl ?_
  refine ky_aload_n (n := 1388) dL_law_1387 rfl rfl 0 rfl ?_
  refine ky_iload (n := 1390) dL_law_1388 rfl 4 rfl ?_
  refine ky_iconst (v := (1 : Int32)) (n := 1391) dL_law_1390 rfl rfl ?_
  refine ky_iadd (n := 1392) dL_law_1391 rfl ?_
  obtain ⟨g368, hf⟩ := ky_ge hf
  refine ky_iald (n := 1393) dL_law_1392 rfl hL g368 ?_
  refine ky_aload_n (n := 1394) dL_law_1393 rfl rfl 3 rfl ?_
  obtain ⟨v371, s369, h370, hf⟩ := ky_bd_e hf
  refine ky_bud (kc2 := kq + 1) (ks2 := sq + 6) (by omega) (by omega) ?_
  refine ky_callSW (kc := kq) (ks := sq) (kc2 := 1) (ks2 := 6) (as := [ky_r G 0, .int (σ.1 15 (x4 + (1 : Int32)).toNatClampNeg), ky_r G 16]) (st := []) (KL_setting d (σ.1 15 (x4 + (1 : Int32)).toNatClampNeg) σ _ _ h370) (by intro z; cases z) wcw_L_setting w_ini_L wst_L_setting ⟨by decide +kernel, by decide +kernel⟩ (na := 3) (by decide +kernel) (Nat.le_of_ble_eq_true rfl) wl_L_166 rfl rfl (Nat.le_of_ble_eq_true rfl) dL_law_1394 rfl ?_
  refine ky_istore (lv' := [(5, .int v371), (0, ky_r G 15), (1, ky_r G 0), (2, ky_r G 7), (3, ky_r G 16), (4, .int x4)]) (n := 1399) dL_law_1397 rfl (Nat.le_of_ble_eq_true rfl) rfl ?_
  refine ky_aload_n (n := 1400) dL_law_1399 rfl rfl 3 rfl ?_
  refine ky_aload_n (n := 1401) dL_law_1400 rfl rfl 1 rfl ?_
  refine ky_iload (n := 1403) dL_law_1401 rfl 5 rfl ?_
  refine ky_iconst (v := (1 : Int32)) (n := 1404) dL_law_1403 rfl rfl ?_
  refine ky_iadd (n := 1405) dL_law_1404 rfl ?_
  obtain ⟨g372, hf⟩ := ky_ge hf
  refine ky_iald (n := 1406) dL_law_1405 rfl hL g372 ?_
  obtain ⟨v375, s373, h374, hf⟩ := ky_bd_e hf
  refine ky_bud (kc2 := kq + 0) (ks2 := sq + 0) (by omega) (by omega) ?_
  refine ky_callV (kc := kq) (ks := sq) (kc2 := 0) (ks2 := 0) (k0 := 7) (as := [.int (s369.1 15 (x4 + (1 : Int32)).toNatClampNeg)]) (st := []) (KX4_setting (d + 6) (s369.1 15 (x4 + (1 : Int32)).toNatClampNeg) s369 _ _ h374) okX4_setting wl_L_168 kc_7 (q := (RX4, TX4, 12)) rfl rfl rfl rfl (Nat.le_of_ble_eq_true rfl) dL_law_1406 rfl ?_
  refine ky_istore (lv' := [(6, .int v375), (5, .int v371), (0, ky_r G 15), (1, ky_r G 0), (2, ky_r G 7), (3, ky_r G 16), (4, .int x4)]) (n := 1411) dL_law_1409 rfl (Nat.le_of_ble_eq_true rfl) rfl ?_
  refine ky_aload_n (n := 1412) dL_law_1411 rfl rfl 4 rfl ?_
  obtain ⟨v378, s376, h377, hf⟩ := ky_bd_e hf
  refine ky_bud (kc2 := kq + 0) (ks2 := sq + 0) (by omega) (by omega) ?_
  refine ky_callV (kc := kq) (ks := sq) (kc2 := 0) (ks2 := 0) (k0 := 7) (as := []) (st := []) (KX4_thrown (d + 8) s373 _ _ h377) okX4_thrown wl_L_98 kc_7 (q := (RX4, TX4, 12)) rfl rfl rfl rfl (Nat.le_of_ble_eq_true rfl) dL_law_1412 rfl ?_
  refine ky_iload (n := 1417) dL_law_1415 rfl 1 rfl ?_
  refine ky_icmp_eq (n := 1420) (tgt := 1422) dL_law_1417 rfl rfl (fun c379 => ?_) (fun c379 => ?_)
  · have hf := ky_pos c379 hf
    refine ky_iload (n := 1424) dL_law_1422 rfl 1 rfl ?_
    refine ky_if_ne (n := 1427) (tgt := 1439) dL_law_1424 rfl rfl (fun c380 => ?_) (fun c380 => ?_)
    · have hf := ky_neg c380 hf
      refine ky_goto (tgt := 1714) dL_law_1439 rfl ?_
      refine ky_iincB (c := (4 : Int32)) (n := 1717) dL_law_1714 rfl 6 rfl rfl (Nat.le_of_ble_eq_true rfl) (fun v381 ev381 => ?_)
      have hf := ky_bn_e hf v381 ev381
      refine ky_lv (lv' := [(4, .int v381), (6, .int v375), (5, .int v371), (0, ky_r G 15), (1, ky_r G 0), (2, ky_r G 7), (3, ky_r G 16)]) rfl ?_
      refine ky_goto (tgt := 23) dL_law_1717 rfl ?_
      refine ky_bud (kc2 := kq) (ks2 := sq) (by omega) (by omega) ?_
      refine ky_sub [3, 4, 5, 6, 0] (lv' := [(0, ky_r G 15), (1, ky_r G 0), (2, ky_r G 7), (3, ky_r G 16), (4, .int v381)]) rfl ?_
      exact hrec23 v381 s376 _ _ hf
    · have hf := ky_pos c380 hf
      refine ky_aload_n (n := 1428) dL_law_1427 rfl rfl 5 rfl ?_
      refine ky_iconst (v := (0 : Int32)) (n := 1429) dL_law_1428 rfl rfl ?_
      refine ky_lald (n := 1430) dL_law_1429 rfl ?_
      refine ky_iload (n := 1432) dL_law_1430 rfl 0 rfl ?_
      refine ky_i2l (n := 1433) dL_law_1432 rfl ?_
      refine ky_lcmp (n := 1434) dL_law_1433 rfl ?_
      refine ky_if_eq (n := 1437) (tgt := 1439) dL_law_1434 rfl rfl (fun c382 => ?_) (fun c382 => ?_)
      · have hf := ky_pos c382 hf
        refine ky_goto (tgt := 1714) dL_law_1439 rfl ?_
        refine ky_iincB (c := (4 : Int32)) (n := 1717) dL_law_1714 rfl 6 rfl rfl (Nat.le_of_ble_eq_true rfl) (fun v383 ev383 => ?_)
        have hf := ky_bn_e hf v383 ev383
        refine ky_lv (lv' := [(4, .int v383), (6, .int v375), (5, .int v371), (0, ky_r G 15), (1, ky_r G 0), (2, ky_r G 7), (3, ky_r G 16)]) rfl ?_
        refine ky_goto (tgt := 23) dL_law_1717 rfl ?_
        refine ky_bud (kc2 := kq) (ks2 := sq) (by omega) (by omega) ?_
        refine ky_sub [3, 4, 5, 6, 0] (lv' := [(0, ky_r G 15), (1, ky_r G 0), (2, ky_r G 7), (3, ky_r G 16), (4, .int v383)]) rfl ?_
        exact hrec23 v383 s376 _ _ hf
      · have hf := ky_neg c382 hf
        refine ky_iconst (v := (0 : Int32)) (n := 1438) dL_law_1437 rfl rfl ?_
        cases hf
        exact ky_zreturn dL_law_1438 rfl (Or.inl rfl)
  · have hf := ky_neg c379 hf
    refine ky_iconst (v := (0 : Int32)) (n := 1421) dL_law_1420 rfl rfl ?_
    cases hf
    exact ky_zreturn dL_law_1421 rfl (Or.inl rfl)
def fL_law_L1442 (L : Nat) (rec23 : Int32 → ky_St → Option (Int32 × ky_St)) (x4 : Int32) (σ : ky_St) : Option (Int32 × ky_St) :=
  ky_g (¬ ((x4 + (1 : Int32)) < 0 ∨ L ≤ (x4 + (1 : Int32)).toNatClampNeg)) (
  ky_g (¬ ((x4 + (2 : Int32)) < 0 ∨ L ≤ (x4 + (2 : Int32)).toNatClampNeg)) (
  ky_bd (fL_billIn (σ.1 15 (x4 + (1 : Int32)).toNatClampNeg) (σ.1 15 (x4 + (2 : Int32)).toNatClampNeg) σ) fun v389 s387 =>
  ky_g (¬ ((x4 + (1 : Int32)) < 0 ∨ L ≤ (x4 + (1 : Int32)).toNatClampNeg)) (
  ky_g (¬ ((x4 + (2 : Int32)) < 0 ∨ L ≤ (x4 + (2 : Int32)).toNatClampNeg)) (
  ky_bd (fX4_billIn (s387.1 15 (x4 + (1 : Int32)).toNatClampNeg) (s387.1 15 (x4 + (2 : Int32)).toNatClampNeg) s387) fun v394 s392 =>
  ky_bd (fX4_thrown s392) fun v397 s395 =>
  if v397 = v389 then (
  if v389 = 0 then (
  if (lg_cmp (s395.2 16) v394.toInt64) = 0 then (
  ky_bn (x4 + (4 : Int32)) fun v402 =>
  rec23 v402 s395) else (
  some ((0 : Int32), s395))) else (
  ky_bn (x4 + (4 : Int32)) fun v400 =>
  rec23 v400 s395)) else (
  some ((0 : Int32), s395))))))
set_option maxHeartbeats 4000000 in
set_option maxRecDepth 100000 in
theorem tL_law_L1442 {G : ky_G} {L : Nat} (hL : ky_len G.2.2.2.1 15 = some L) {rec23 : Int32 → ky_St → Option (Int32 × ky_St)} {kq sq : Nat} (d : Nat) (hrec23 : ∀ (x4 : Int32) (σ : ky_St) (r : Int32) (σ' : ky_St), rec23 x4 σ = some (r, σ') → ky_T G mL_law (d + 9) kq sq 23 [(0, ky_r G 15), (1, ky_r G 0), (2, ky_r G 7), (3, ky_r G 16), (4, .int x4)] [] σ (.inr (some (.int r))) σ') : ∀ (x4 : Int32) (σ : ky_St) (r : Int32) (σ' : ky_St), fL_law_L1442 L rec23 x4 σ = some (r, σ') → ky_T G mL_law (d + 9) (kq + 5) (sq + 30) 1442 [(0, ky_r G 15), (1, ky_r G 0), (2, ky_r G 7), (3, ky_r G 16), (4, .int x4)] [] σ (.inr (some (.int r))) σ' := by
  intro x4 σ r σ' hf
  unfold fL_law_L1442 at hf
  refine ky_aload_n (n := 1443) dL_law_1442 rfl rfl 1 rfl ?_
  refine ky_aload_n (n := 1444) dL_law_1443 rfl rfl 0 rfl ?_
  refine ky_iload (n := 1446) dL_law_1444 rfl 4 rfl ?_
  refine ky_iconst (v := (1 : Int32)) (n := 1447) dL_law_1446 rfl rfl ?_
  refine ky_iadd (n := 1448) dL_law_1447 rfl ?_
  obtain ⟨g385, hf⟩ := ky_ge hf
  refine ky_iald (n := 1449) dL_law_1448 rfl hL g385 ?_
  refine ky_aload_n (n := 1450) dL_law_1449 rfl rfl 0 rfl ?_
  refine ky_iload (n := 1452) dL_law_1450 rfl 4 rfl ?_
  refine ky_iconst (v := (2 : Int32)) (n := 1453) dL_law_1452 rfl rfl ?_
  refine ky_iadd (n := 1454) dL_law_1453 rfl ?_
  obtain ⟨g386, hf⟩ := ky_ge hf
  refine ky_iald (n := 1455) dL_law_1454 rfl hL g386 ?_
  refine ky_aload_n (n := 1456) dL_law_1455 rfl rfl 3 rfl ?_
  obtain ⟨v389, s387, h388, hf⟩ := ky_bd_e hf
  refine ky_bud (kc2 := kq + 2) (ks2 := sq + 12) (by omega) (by omega) ?_
  refine ky_callSW (kc := kq) (ks := sq) (kc2 := 2) (ks2 := 12) (as := [ky_r G 0, .int (σ.1 15 (x4 + (1 : Int32)).toNatClampNeg), .int (σ.1 15 (x4 + (2 : Int32)).toNatClampNeg), ky_r G 16]) (st := []) (KL_billIn d (σ.1 15 (x4 + (1 : Int32)).toNatClampNeg) (σ.1 15 (x4 + (2 : Int32)).toNatClampNeg) σ _ _ h388) (by intro z; cases z) wcw_L_billIn w_ini_L wst_L_billIn ⟨by decide +kernel, by decide +kernel⟩ (na := 4) (by decide +kernel) (Nat.le_of_ble_eq_true rfl) wl_L_169 rfl rfl (Nat.le_of_ble_eq_true rfl) dL_law_1456 rfl ?_
  refine ky_istore (lv' := [(5, .int v389), (0, ky_r G 15), (1, ky_r G 0), (2, ky_r G 7), (3, ky_r G 16), (4, .int x4)]) (n := 1461) dL_law_1459 rfl (Nat.le_of_ble_eq_true rfl) rfl ?_
  refine ky_aload_n (n := 1462) dL_law_1461 rfl rfl 3 rfl ?_
  refine ky_aload_n (n := 1463) dL_law_1462 rfl rfl 1 rfl ?_
  refine ky_iload (n := 1465) dL_law_1463 rfl 5 rfl ?_
  refine ky_iconst (v := (1 : Int32)) (n := 1466) dL_law_1465 rfl rfl ?_
  refine ky_iadd (n := 1467) dL_law_1466 rfl ?_
  obtain ⟨g390, hf⟩ := ky_ge hf
  refine ky_iald (n := 1468) dL_law_1467 rfl hL g390 ?_
  refine ky_aload_n (n := 1469) dL_law_1468 rfl rfl 1 rfl ?_
  refine ky_iload (n := 1471) dL_law_1469 rfl 5 rfl ?_
  refine ky_iconst (v := (2 : Int32)) (n := 1472) dL_law_1471 rfl rfl ?_
  refine ky_iadd (n := 1473) dL_law_1472 rfl ?_
  obtain ⟨g391, hf⟩ := ky_ge hf
  refine ky_iald (n := 1474) dL_law_1473 rfl hL g391 ?_
  obtain ⟨v394, s392, h393, hf⟩ := ky_bd_e hf
  refine ky_bud (kc2 := kq + 0) (ks2 := sq + 0) (by omega) (by omega) ?_
  refine ky_callV (kc := kq) (ks := sq) (kc2 := 0) (ks2 := 0) (k0 := 7) (as := [.int (s387.1 15 (x4 + (1 : Int32)).toNatClampNeg), .int (s387.1 15 (x4 + (2 : Int32)).toNatClampNeg)]) (st := []) (KX4_billIn (d + 5) (s387.1 15 (x4 + (1 : Int32)).toNatClampNeg) (s387.1 15 (x4 + (2 : Int32)).toNatClampNeg) s387 _ _ h393) okX4_billIn wl_L_171 kc_7 (q := (RX4, TX4, 12)) rfl rfl rfl rfl (Nat.le_of_ble_eq_true rfl) dL_law_1474 rfl ?_
  refine ky_istore (lv' := [(6, .int v394), (5, .int v389), (0, ky_r G 15), (1, ky_r G 0), (2, ky_r G 7), (3, ky_r G 16), (4, .int x4)]) (n := 1479) dL_law_1477 rfl (Nat.le_of_ble_eq_true rfl) rfl ?_
  refine ky_aload_n (n := 1480) dL_law_1479 rfl rfl 4 rfl ?_
  obtain ⟨v397, s395, h396, hf⟩ := ky_bd_e hf
  refine ky_bud (kc2 := kq + 0) (ks2 := sq + 0) (by omega) (by omega) ?_
  refine ky_callV (kc := kq) (ks := sq) (kc2 := 0) (ks2 := 0) (k0 := 7) (as := []) (st := []) (KX4_thrown (d + 8) s392 _ _ h396) okX4_thrown wl_L_98 kc_7 (q := (RX4, TX4, 12)) rfl rfl rfl rfl (Nat.le_of_ble_eq_true rfl) dL_law_1480 rfl ?_
  refine ky_iload (n := 1485) dL_law_1483 rfl 1 rfl ?_
  refine ky_icmp_eq (n := 1488) (tgt := 1490) dL_law_1485 rfl rfl (fun c398 => ?_) (fun c398 => ?_)
  · have hf := ky_pos c398 hf
    refine ky_iload (n := 1492) dL_law_1490 rfl 1 rfl ?_
    refine ky_if_ne (n := 1495) (tgt := 1507) dL_law_1492 rfl rfl (fun c399 => ?_) (fun c399 => ?_)
    · have hf := ky_neg c399 hf
      refine ky_goto (tgt := 1714) dL_law_1507 rfl ?_
      refine ky_iincB (c := (4 : Int32)) (n := 1717) dL_law_1714 rfl 6 rfl rfl (Nat.le_of_ble_eq_true rfl) (fun v400 ev400 => ?_)
      have hf := ky_bn_e hf v400 ev400
      refine ky_lv (lv' := [(4, .int v400), (6, .int v394), (5, .int v389), (0, ky_r G 15), (1, ky_r G 0), (2, ky_r G 7), (3, ky_r G 16)]) rfl ?_
      refine ky_goto (tgt := 23) dL_law_1717 rfl ?_
      refine ky_bud (kc2 := kq) (ks2 := sq) (by omega) (by omega) ?_
      refine ky_sub [3, 4, 5, 6, 0] (lv' := [(0, ky_r G 15), (1, ky_r G 0), (2, ky_r G 7), (3, ky_r G 16), (4, .int v400)]) rfl ?_
      exact hrec23 v400 s395 _ _ hf
    · have hf := ky_pos c399 hf
      refine ky_aload_n (n := 1496) dL_law_1495 rfl rfl 5 rfl ?_
      refine ky_iconst (v := (0 : Int32)) (n := 1497) dL_law_1496 rfl rfl ?_
      refine ky_lald (n := 1498) dL_law_1497 rfl ?_
      refine ky_iload (n := 1500) dL_law_1498 rfl 0 rfl ?_
      refine ky_i2l (n := 1501) dL_law_1500 rfl ?_
      refine ky_lcmp (n := 1502) dL_law_1501 rfl ?_
      refine ky_if_eq (n := 1505) (tgt := 1507) dL_law_1502 rfl rfl (fun c401 => ?_) (fun c401 => ?_)
      · have hf := ky_pos c401 hf
        refine ky_goto (tgt := 1714) dL_law_1507 rfl ?_
        refine ky_iincB (c := (4 : Int32)) (n := 1717) dL_law_1714 rfl 6 rfl rfl (Nat.le_of_ble_eq_true rfl) (fun v402 ev402 => ?_)
        have hf := ky_bn_e hf v402 ev402
        refine ky_lv (lv' := [(4, .int v402), (6, .int v394), (5, .int v389), (0, ky_r G 15), (1, ky_r G 0), (2, ky_r G 7), (3, ky_r G 16)]) rfl ?_
        refine ky_goto (tgt := 23) dL_law_1717 rfl ?_
        refine ky_bud (kc2 := kq) (ks2 := sq) (by omega) (by omega) ?_
        refine ky_sub [3, 4, 5, 6, 0] (lv' := [(0, ky_r G 15), (1, ky_r G 0), (2, ky_r G 7), (3, ky_r G 16), (4, .int v402)]) rfl ?_
        exact hrec23 v402 s395 _ _ hf
      · have hf := ky_neg c401 hf
        refine ky_iconst (v := (0 : Int32)) (n := 1506) dL_law_1505 rfl rfl ?_
        cases hf
        exact ky_zreturn dL_law_1506 rfl (Or.inl rfl)
  · have hf := ky_neg c398 hf
    refine ky_iconst (v := (0 : Int32)) (n := 1489) dL_law_1488 rfl rfl ?_
    cases hf
    exact ky_zreturn dL_law_1489 rfl (Or.inl rfl)
def fL_law_L1510 (L : Nat) (rec23 : Int32 → ky_St → Option (Int32 × ky_St)) (x4 : Int32) (σ : ky_St) : Option (Int32 × ky_St) :=
  ky_g (¬ ((x4 + (1 : Int32)) < 0 ∨ L ≤ (x4 + (1 : Int32)).toNatClampNeg)) (
  ky_g (¬ ((x4 + (2 : Int32)) < 0 ∨ L ≤ (x4 + (2 : Int32)).toNatClampNeg)) (
  ky_g (¬ ((x4 + (3 : Int32)) < 0 ∨ L ≤ (x4 + (3 : Int32)).toNatClampNeg)) (
  ky_bd (fL_splitOn (σ.1 15 (x4 + (1 : Int32)).toNatClampNeg) (σ.1 15 (x4 + (2 : Int32)).toNatClampNeg) (σ.1 15 (x4 + (3 : Int32)).toNatClampNeg) σ) fun v409 s407 =>
  ky_g (¬ ((x4 + (1 : Int32)) < 0 ∨ L ≤ (x4 + (1 : Int32)).toNatClampNeg)) (
  ky_g (¬ ((x4 + (2 : Int32)) < 0 ∨ L ≤ (x4 + (2 : Int32)).toNatClampNeg)) (
  ky_g (¬ ((x4 + (3 : Int32)) < 0 ∨ L ≤ (x4 + (3 : Int32)).toNatClampNeg)) (
  ky_bd (fX4_splitOn (s407.1 15 (x4 + (1 : Int32)).toNatClampNeg) (s407.1 15 (x4 + (2 : Int32)).toNatClampNeg) (s407.1 15 (x4 + (3 : Int32)).toNatClampNeg) s407) fun v415 s413 =>
  ky_bd (fX4_thrown s413) fun v418 s416 =>
  if v418 = v409 then (
  if v409 = 0 then (
  if (lg_cmp (s416.2 16) v415.toInt64) = 0 then (
  ky_bn (x4 + (4 : Int32)) fun v423 =>
  rec23 v423 s416) else (
  some ((0 : Int32), s416))) else (
  ky_bn (x4 + (4 : Int32)) fun v421 =>
  rec23 v421 s416)) else (
  some ((0 : Int32), s416))))))))
set_option maxHeartbeats 4000000 in
set_option maxRecDepth 100000 in
theorem tL_law_L1510 {G : ky_G} {L : Nat} (hL : ky_len G.2.2.2.1 15 = some L) {rec23 : Int32 → ky_St → Option (Int32 × ky_St)} {kq sq : Nat} (d : Nat) (hrec23 : ∀ (x4 : Int32) (σ : ky_St) (r : Int32) (σ' : ky_St), rec23 x4 σ = some (r, σ') → ky_T G mL_law (d + 9) kq sq 23 [(0, ky_r G 15), (1, ky_r G 0), (2, ky_r G 7), (3, ky_r G 16), (4, .int x4)] [] σ (.inr (some (.int r))) σ') : ∀ (x4 : Int32) (σ : ky_St) (r : Int32) (σ' : ky_St), fL_law_L1510 L rec23 x4 σ = some (r, σ') → ky_T G mL_law (d + 9) (kq + 5) (sq + 30) 1510 [(0, ky_r G 15), (1, ky_r G 0), (2, ky_r G 7), (3, ky_r G 16), (4, .int x4)] [] σ (.inr (some (.int r))) σ' := by
  intro x4 σ r σ' hf
  unfold fL_law_L1510 at hf
  refine ky_aload_n (n := 1511) dL_law_1510 rfl rfl 1 rfl ?_
  refine ky_aload_n (n := 1512) dL_law_1511 rfl rfl 0 rfl ?_
  refine ky_iload (n := 1514) dL_law_1512 rfl 4 rfl ?_
  refine ky_iconst (v := (1 : Int32)) (n := 1515) dL_law_1514 rfl rfl ?_
  refine ky_iadd (n := 1516) dL_law_1515 rfl ?_
  obtain ⟨g404, hf⟩ := ky_ge hf
  refine ky_iald (n := 1517) dL_law_1516 rfl hL g404 ?_
  refine ky_aload_n (n := 1518) dL_law_1517 rfl rfl 0 rfl ?_
  refine ky_iload (n := 1520) dL_law_1518 rfl 4 rfl ?_
  refine ky_iconst (v := (2 : Int32)) (n := 1521) dL_law_1520 rfl rfl ?_
  refine ky_iadd (n := 1522) dL_law_1521 rfl ?_
  obtain ⟨g405, hf⟩ := ky_ge hf
  refine ky_iald (n := 1523) dL_law_1522 rfl hL g405 ?_
  refine ky_aload_n (n := 1524) dL_law_1523 rfl rfl 0 rfl ?_
  refine ky_iload (n := 1526) dL_law_1524 rfl 4 rfl ?_
  refine ky_iconst (v := (3 : Int32)) (n := 1527) dL_law_1526 rfl rfl ?_
  refine ky_iadd (n := 1528) dL_law_1527 rfl ?_
  obtain ⟨g406, hf⟩ := ky_ge hf
  refine ky_iald (n := 1529) dL_law_1528 rfl hL g406 ?_
  refine ky_aload_n (n := 1530) dL_law_1529 rfl rfl 3 rfl ?_
  obtain ⟨v409, s407, h408, hf⟩ := ky_bd_e hf
  refine ky_bud (kc2 := kq + 3) (ks2 := sq + 18) (by omega) (by omega) ?_
  refine ky_callSW (kc := kq) (ks := sq) (kc2 := 3) (ks2 := 18) (as := [ky_r G 0, .int (σ.1 15 (x4 + (1 : Int32)).toNatClampNeg), .int (σ.1 15 (x4 + (2 : Int32)).toNatClampNeg), .int (σ.1 15 (x4 + (3 : Int32)).toNatClampNeg), ky_r G 16]) (st := []) (KL_splitOn d (σ.1 15 (x4 + (1 : Int32)).toNatClampNeg) (σ.1 15 (x4 + (2 : Int32)).toNatClampNeg) (σ.1 15 (x4 + (3 : Int32)).toNatClampNeg) σ _ _ h408) (by intro z; cases z) wcw_L_splitOn w_ini_L wst_L_splitOn ⟨by decide +kernel, by decide +kernel⟩ (na := 5) (by decide +kernel) (Nat.le_of_ble_eq_true rfl) wl_L_172 rfl rfl (Nat.le_of_ble_eq_true rfl) dL_law_1530 rfl ?_
  refine ky_istore (lv' := [(5, .int v409), (0, ky_r G 15), (1, ky_r G 0), (2, ky_r G 7), (3, ky_r G 16), (4, .int x4)]) (n := 1535) dL_law_1533 rfl (Nat.le_of_ble_eq_true rfl) rfl ?_
  refine ky_aload_n (n := 1536) dL_law_1535 rfl rfl 3 rfl ?_
  refine ky_aload_n (n := 1537) dL_law_1536 rfl rfl 1 rfl ?_
  refine ky_iload (n := 1539) dL_law_1537 rfl 5 rfl ?_
  refine ky_iconst (v := (1 : Int32)) (n := 1540) dL_law_1539 rfl rfl ?_
  refine ky_iadd (n := 1541) dL_law_1540 rfl ?_
  obtain ⟨g410, hf⟩ := ky_ge hf
  refine ky_iald (n := 1542) dL_law_1541 rfl hL g410 ?_
  refine ky_aload_n (n := 1543) dL_law_1542 rfl rfl 1 rfl ?_
  refine ky_iload (n := 1545) dL_law_1543 rfl 5 rfl ?_
  refine ky_iconst (v := (2 : Int32)) (n := 1546) dL_law_1545 rfl rfl ?_
  refine ky_iadd (n := 1547) dL_law_1546 rfl ?_
  obtain ⟨g411, hf⟩ := ky_ge hf
  refine ky_iald (n := 1548) dL_law_1547 rfl hL g411 ?_
  refine ky_aload_n (n := 1549) dL_law_1548 rfl rfl 1 rfl ?_
  refine ky_iload (n := 1551) dL_law_1549 rfl 5 rfl ?_
  refine ky_iconst (v := (3 : Int32)) (n := 1552) dL_law_1551 rfl rfl ?_
  refine ky_iadd (n := 1553) dL_law_1552 rfl ?_
  obtain ⟨g412, hf⟩ := ky_ge hf
  refine ky_iald (n := 1554) dL_law_1553 rfl hL g412 ?_
  obtain ⟨v415, s413, h414, hf⟩ := ky_bd_e hf
  refine ky_bud (kc2 := kq + 0) (ks2 := sq + 0) (by omega) (by omega) ?_
  refine ky_callV (kc := kq) (ks := sq) (kc2 := 0) (ks2 := 0) (k0 := 7) (as := [.int (s407.1 15 (x4 + (1 : Int32)).toNatClampNeg), .int (s407.1 15 (x4 + (2 : Int32)).toNatClampNeg), .int (s407.1 15 (x4 + (3 : Int32)).toNatClampNeg)]) (st := []) (KX4_splitOn (d + 4) (s407.1 15 (x4 + (1 : Int32)).toNatClampNeg) (s407.1 15 (x4 + (2 : Int32)).toNatClampNeg) (s407.1 15 (x4 + (3 : Int32)).toNatClampNeg) s407 _ _ h414) okX4_splitOn wl_L_174 kc_7 (q := (RX4, TX4, 12)) rfl rfl rfl rfl (Nat.le_of_ble_eq_true rfl) dL_law_1554 rfl ?_
  refine ky_istore (lv' := [(6, .int v415), (5, .int v409), (0, ky_r G 15), (1, ky_r G 0), (2, ky_r G 7), (3, ky_r G 16), (4, .int x4)]) (n := 1559) dL_law_1557 rfl (Nat.le_of_ble_eq_true rfl) rfl ?_
  refine ky_aload_n (n := 1560) dL_law_1559 rfl rfl 4 rfl ?_
  obtain ⟨v418, s416, h417, hf⟩ := ky_bd_e hf
  refine ky_bud (kc2 := kq + 0) (ks2 := sq + 0) (by omega) (by omega) ?_
  refine ky_callV (kc := kq) (ks := sq) (kc2 := 0) (ks2 := 0) (k0 := 7) (as := []) (st := []) (KX4_thrown (d + 8) s413 _ _ h417) okX4_thrown wl_L_98 kc_7 (q := (RX4, TX4, 12)) rfl rfl rfl rfl (Nat.le_of_ble_eq_true rfl) dL_law_1560 rfl ?_
  refine ky_iload (n := 1565) dL_law_1563 rfl 1 rfl ?_
  refine ky_icmp_eq (n := 1568) (tgt := 1570) dL_law_1565 rfl rfl (fun c419 => ?_) (fun c419 => ?_)
  · have hf := ky_pos c419 hf
    refine ky_iload (n := 1572) dL_law_1570 rfl 1 rfl ?_
    refine ky_if_ne (n := 1575) (tgt := 1587) dL_law_1572 rfl rfl (fun c420 => ?_) (fun c420 => ?_)
    · have hf := ky_neg c420 hf
      refine ky_goto (tgt := 1714) dL_law_1587 rfl ?_
      refine ky_iincB (c := (4 : Int32)) (n := 1717) dL_law_1714 rfl 6 rfl rfl (Nat.le_of_ble_eq_true rfl) (fun v421 ev421 => ?_)
      have hf := ky_bn_e hf v421 ev421
      refine ky_lv (lv' := [(4, .int v421), (6, .int v415), (5, .int v409), (0, ky_r G 15), (1, ky_r G 0), (2, ky_r G 7), (3, ky_r G 16)]) rfl ?_
      refine ky_goto (tgt := 23) dL_law_1717 rfl ?_
      refine ky_bud (kc2 := kq) (ks2 := sq) (by omega) (by omega) ?_
      refine ky_sub [3, 4, 5, 6, 0] (lv' := [(0, ky_r G 15), (1, ky_r G 0), (2, ky_r G 7), (3, ky_r G 16), (4, .int v421)]) rfl ?_
      exact hrec23 v421 s416 _ _ hf
    · have hf := ky_pos c420 hf
      refine ky_aload_n (n := 1576) dL_law_1575 rfl rfl 5 rfl ?_
      refine ky_iconst (v := (0 : Int32)) (n := 1577) dL_law_1576 rfl rfl ?_
      refine ky_lald (n := 1578) dL_law_1577 rfl ?_
      refine ky_iload (n := 1580) dL_law_1578 rfl 0 rfl ?_
      refine ky_i2l (n := 1581) dL_law_1580 rfl ?_
      refine ky_lcmp (n := 1582) dL_law_1581 rfl ?_
      refine ky_if_eq (n := 1585) (tgt := 1587) dL_law_1582 rfl rfl (fun c422 => ?_) (fun c422 => ?_)
      · have hf := ky_pos c422 hf
        refine ky_goto (tgt := 1714) dL_law_1587 rfl ?_
        refine ky_iincB (c := (4 : Int32)) (n := 1717) dL_law_1714 rfl 6 rfl rfl (Nat.le_of_ble_eq_true rfl) (fun v423 ev423 => ?_)
        have hf := ky_bn_e hf v423 ev423
        refine ky_lv (lv' := [(4, .int v423), (6, .int v415), (5, .int v409), (0, ky_r G 15), (1, ky_r G 0), (2, ky_r G 7), (3, ky_r G 16)]) rfl ?_
        refine ky_goto (tgt := 23) dL_law_1717 rfl ?_
        refine ky_bud (kc2 := kq) (ks2 := sq) (by omega) (by omega) ?_
        refine ky_sub [3, 4, 5, 6, 0] (lv' := [(0, ky_r G 15), (1, ky_r G 0), (2, ky_r G 7), (3, ky_r G 16), (4, .int v423)]) rfl ?_
        exact hrec23 v423 s416 _ _ hf
      · have hf := ky_neg c422 hf
        refine ky_iconst (v := (0 : Int32)) (n := 1586) dL_law_1585 rfl rfl ?_
        cases hf
        exact ky_zreturn dL_law_1586 rfl (Or.inl rfl)
  · have hf := ky_neg c419 hf
    refine ky_iconst (v := (0 : Int32)) (n := 1569) dL_law_1568 rfl rfl ?_
    cases hf
    exact ky_zreturn dL_law_1569 rfl (Or.inl rfl)
def fL_law_L1590 (L : Nat) (rec23 : Int32 → ky_St → Option (Int32 × ky_St)) (x4 : Int32) (σ : ky_St) : Option (Int32 × ky_St) :=
  ky_g (¬ ((x4 + (1 : Int32)) < 0 ∨ L ≤ (x4 + (1 : Int32)).toNatClampNeg)) (
  ky_bd (fL_oldest (σ.1 15 (x4 + (1 : Int32)).toNatClampNeg) σ) fun v428 s426 =>
  ky_g (¬ ((x4 + (1 : Int32)) < 0 ∨ L ≤ (x4 + (1 : Int32)).toNatClampNeg)) (
  ky_bd (fX4_oldest (s426.1 15 (x4 + (1 : Int32)).toNatClampNeg) s426) fun v432 s430 =>
  ky_bd (fX4_thrown s430) fun v435 s433 =>
  if v435 = v428 then (
  if v428 = 0 then (
  if (lg_cmp (s433.2 16) v432.toInt64) = 0 then (
  ky_bn (x4 + (4 : Int32)) fun v440 =>
  rec23 v440 s433) else (
  some ((0 : Int32), s433))) else (
  ky_bn (x4 + (4 : Int32)) fun v438 =>
  rec23 v438 s433)) else (
  some ((0 : Int32), s433))))
set_option maxHeartbeats 4000000 in
set_option maxRecDepth 100000 in
theorem tL_law_L1590 {G : ky_G} {L : Nat} (hL : ky_len G.2.2.2.1 15 = some L) {rec23 : Int32 → ky_St → Option (Int32 × ky_St)} {kq sq : Nat} (d : Nat) (hrec23 : ∀ (x4 : Int32) (σ : ky_St) (r : Int32) (σ' : ky_St), rec23 x4 σ = some (r, σ') → ky_T G mL_law (d + 9) kq sq 23 [(0, ky_r G 15), (1, ky_r G 0), (2, ky_r G 7), (3, ky_r G 16), (4, .int x4)] [] σ (.inr (some (.int r))) σ') : ∀ (x4 : Int32) (σ : ky_St) (r : Int32) (σ' : ky_St), fL_law_L1590 L rec23 x4 σ = some (r, σ') → ky_T G mL_law (d + 9) (kq + 5) (sq + 30) 1590 [(0, ky_r G 15), (1, ky_r G 0), (2, ky_r G 7), (3, ky_r G 16), (4, .int x4)] [] σ (.inr (some (.int r))) σ' := by
  intro x4 σ r σ' hf
  unfold fL_law_L1590 at hf
  refine ky_aload_n (n := 1591) dL_law_1590 rfl rfl 1 rfl ?_
  refine ky_aload_n (n := 1592) dL_law_1591 rfl rfl 0 rfl ?_
  refine ky_iload (n := 1594) dL_law_1592 rfl 4 rfl ?_
  refine ky_iconst (v := (1 : Int32)) (n := 1595) dL_law_1594 rfl rfl ?_
  refine ky_iadd (n := 1596) dL_law_1595 rfl ?_
  obtain ⟨g425, hf⟩ := ky_ge hf
  refine ky_iald (n := 1597) dL_law_1596 rfl hL g425 ?_
  refine ky_aload_n (n := 1598) dL_law_1597 rfl rfl 3 rfl ?_
  obtain ⟨v428, s426, h427, hf⟩ := ky_bd_e hf
  refine ky_bud (kc2 := kq + 1) (ks2 := sq + 6) (by omega) (by omega) ?_
  refine ky_callSW (kc := kq) (ks := sq) (kc2 := 1) (ks2 := 6) (as := [ky_r G 0, .int (σ.1 15 (x4 + (1 : Int32)).toNatClampNeg), ky_r G 16]) (st := []) (KL_oldest d (σ.1 15 (x4 + (1 : Int32)).toNatClampNeg) σ _ _ h427) (by intro z; cases z) wcw_L_oldest w_ini_L wst_L_oldest ⟨by decide +kernel, by decide +kernel⟩ (na := 3) (by decide +kernel) (Nat.le_of_ble_eq_true rfl) wl_L_175 rfl rfl (Nat.le_of_ble_eq_true rfl) dL_law_1598 rfl ?_
  refine ky_istore (lv' := [(5, .int v428), (0, ky_r G 15), (1, ky_r G 0), (2, ky_r G 7), (3, ky_r G 16), (4, .int x4)]) (n := 1603) dL_law_1601 rfl (Nat.le_of_ble_eq_true rfl) rfl ?_
  refine ky_aload_n (n := 1604) dL_law_1603 rfl rfl 3 rfl ?_
  refine ky_aload_n (n := 1605) dL_law_1604 rfl rfl 1 rfl ?_
  refine ky_iload (n := 1607) dL_law_1605 rfl 5 rfl ?_
  refine ky_iconst (v := (1 : Int32)) (n := 1608) dL_law_1607 rfl rfl ?_
  refine ky_iadd (n := 1609) dL_law_1608 rfl ?_
  obtain ⟨g429, hf⟩ := ky_ge hf
  refine ky_iald (n := 1610) dL_law_1609 rfl hL g429 ?_
  obtain ⟨v432, s430, h431, hf⟩ := ky_bd_e hf
  refine ky_bud (kc2 := kq + 0) (ks2 := sq + 0) (by omega) (by omega) ?_
  refine ky_callV (kc := kq) (ks := sq) (kc2 := 0) (ks2 := 0) (k0 := 7) (as := [.int (s426.1 15 (x4 + (1 : Int32)).toNatClampNeg)]) (st := []) (KX4_oldest (d + 6) (s426.1 15 (x4 + (1 : Int32)).toNatClampNeg) s426 _ _ h431) okX4_oldest wl_L_177 kc_7 (q := (RX4, TX4, 12)) rfl rfl rfl rfl (Nat.le_of_ble_eq_true rfl) dL_law_1610 rfl ?_
  refine ky_istore (lv' := [(6, .int v432), (5, .int v428), (0, ky_r G 15), (1, ky_r G 0), (2, ky_r G 7), (3, ky_r G 16), (4, .int x4)]) (n := 1615) dL_law_1613 rfl (Nat.le_of_ble_eq_true rfl) rfl ?_
  refine ky_aload_n (n := 1616) dL_law_1615 rfl rfl 4 rfl ?_
  obtain ⟨v435, s433, h434, hf⟩ := ky_bd_e hf
  refine ky_bud (kc2 := kq + 0) (ks2 := sq + 0) (by omega) (by omega) ?_
  refine ky_callV (kc := kq) (ks := sq) (kc2 := 0) (ks2 := 0) (k0 := 7) (as := []) (st := []) (KX4_thrown (d + 8) s430 _ _ h434) okX4_thrown wl_L_98 kc_7 (q := (RX4, TX4, 12)) rfl rfl rfl rfl (Nat.le_of_ble_eq_true rfl) dL_law_1616 rfl ?_
  refine ky_iload (n := 1621) dL_law_1619 rfl 1 rfl ?_
  refine ky_icmp_eq (n := 1624) (tgt := 1626) dL_law_1621 rfl rfl (fun c436 => ?_) (fun c436 => ?_)
  · have hf := ky_pos c436 hf
    refine ky_iload (n := 1628) dL_law_1626 rfl 1 rfl ?_
    refine ky_if_ne (n := 1631) (tgt := 1643) dL_law_1628 rfl rfl (fun c437 => ?_) (fun c437 => ?_)
    · have hf := ky_neg c437 hf
      refine ky_goto (tgt := 1714) dL_law_1643 rfl ?_
      refine ky_iincB (c := (4 : Int32)) (n := 1717) dL_law_1714 rfl 6 rfl rfl (Nat.le_of_ble_eq_true rfl) (fun v438 ev438 => ?_)
      have hf := ky_bn_e hf v438 ev438
      refine ky_lv (lv' := [(4, .int v438), (6, .int v432), (5, .int v428), (0, ky_r G 15), (1, ky_r G 0), (2, ky_r G 7), (3, ky_r G 16)]) rfl ?_
      refine ky_goto (tgt := 23) dL_law_1717 rfl ?_
      refine ky_bud (kc2 := kq) (ks2 := sq) (by omega) (by omega) ?_
      refine ky_sub [3, 4, 5, 6, 0] (lv' := [(0, ky_r G 15), (1, ky_r G 0), (2, ky_r G 7), (3, ky_r G 16), (4, .int v438)]) rfl ?_
      exact hrec23 v438 s433 _ _ hf
    · have hf := ky_pos c437 hf
      refine ky_aload_n (n := 1632) dL_law_1631 rfl rfl 5 rfl ?_
      refine ky_iconst (v := (0 : Int32)) (n := 1633) dL_law_1632 rfl rfl ?_
      refine ky_lald (n := 1634) dL_law_1633 rfl ?_
      refine ky_iload (n := 1636) dL_law_1634 rfl 0 rfl ?_
      refine ky_i2l (n := 1637) dL_law_1636 rfl ?_
      refine ky_lcmp (n := 1638) dL_law_1637 rfl ?_
      refine ky_if_eq (n := 1641) (tgt := 1643) dL_law_1638 rfl rfl (fun c439 => ?_) (fun c439 => ?_)
      · have hf := ky_pos c439 hf
        refine ky_goto (tgt := 1714) dL_law_1643 rfl ?_
        refine ky_iincB (c := (4 : Int32)) (n := 1717) dL_law_1714 rfl 6 rfl rfl (Nat.le_of_ble_eq_true rfl) (fun v440 ev440 => ?_)
        have hf := ky_bn_e hf v440 ev440
        refine ky_lv (lv' := [(4, .int v440), (6, .int v432), (5, .int v428), (0, ky_r G 15), (1, ky_r G 0), (2, ky_r G 7), (3, ky_r G 16)]) rfl ?_
        refine ky_goto (tgt := 23) dL_law_1717 rfl ?_
        refine ky_bud (kc2 := kq) (ks2 := sq) (by omega) (by omega) ?_
        refine ky_sub [3, 4, 5, 6, 0] (lv' := [(0, ky_r G 15), (1, ky_r G 0), (2, ky_r G 7), (3, ky_r G 16), (4, .int v440)]) rfl ?_
        exact hrec23 v440 s433 _ _ hf
      · have hf := ky_neg c439 hf
        refine ky_iconst (v := (0 : Int32)) (n := 1642) dL_law_1641 rfl rfl ?_
        cases hf
        exact ky_zreturn dL_law_1642 rfl (Or.inl rfl)
  · have hf := ky_neg c436 hf
    refine ky_iconst (v := (0 : Int32)) (n := 1625) dL_law_1624 rfl rfl ?_
    cases hf
    exact ky_zreturn dL_law_1625 rfl (Or.inl rfl)
def fL_law_L1646 (L : Nat) (rec23 : Int32 → ky_St → Option (Int32 × ky_St)) (x4 : Int32) (σ : ky_St) : Option (Int32 × ky_St) :=
  ky_bd (fX3_ifRepaired σ) fun v444 s442 =>
  ky_bd (fX4_ifRepaired s442) fun v447 s445 =>
  if v444 = v447 then (
  ky_bn (x4 + (4 : Int32)) fun v449 =>
  rec23 v449 s445) else (
  some ((0 : Int32), s445))
set_option maxHeartbeats 4000000 in
set_option maxRecDepth 100000 in
theorem tL_law_L1646 {G : ky_G} {L : Nat} (hL : ky_len G.2.2.2.1 15 = some L) {rec23 : Int32 → ky_St → Option (Int32 × ky_St)} {kq sq : Nat} (d : Nat) (hrec23 : ∀ (x4 : Int32) (σ : ky_St) (r : Int32) (σ' : ky_St), rec23 x4 σ = some (r, σ') → ky_T G mL_law (d + 9) kq sq 23 [(0, ky_r G 15), (1, ky_r G 0), (2, ky_r G 7), (3, ky_r G 16), (4, .int x4)] [] σ (.inr (some (.int r))) σ') : ∀ (x4 : Int32) (σ : ky_St) (r : Int32) (σ' : ky_St), fL_law_L1646 L rec23 x4 σ = some (r, σ') → ky_T G mL_law (d + 9) (kq + 5) (sq + 30) 1646 [(0, ky_r G 15), (1, ky_r G 0), (2, ky_r G 7), (3, ky_r G 16), (4, .int x4)] [] σ (.inr (some (.int r))) σ' := by
  intro x4 σ r σ' hf
  unfold fL_law_L1646 at hf
  refine ky_aload_n (n := 1647) dL_law_1646 rfl rfl 1 rfl ?_
  obtain ⟨v444, s442, h443, hf⟩ := ky_bd_e hf
  refine ky_bud (kc2 := kq + 0) (ks2 := sq + 0) (by omega) (by omega) ?_
  refine ky_callV (kc := kq) (ks := sq) (kc2 := 0) (ks2 := 0) (k0 := 0) (as := []) (st := []) (KX3_ifRepaired (d + 5) σ _ _ h443) okX3_ifRepaired wl_L_178 kc_0 (q := (RX3, TX3, 4)) rfl rfl rfl rfl (Nat.le_of_ble_eq_true rfl) dL_law_1647 rfl ?_
  refine ky_aload_n (n := 1651) dL_law_1650 rfl rfl 2 rfl ?_
  obtain ⟨v447, s445, h446, hf⟩ := ky_bd_e hf
  refine ky_bud (kc2 := kq + 0) (ks2 := sq + 0) (by omega) (by omega) ?_
  refine ky_callV (kc := kq) (ks := sq) (kc2 := 0) (ks2 := 0) (k0 := 7) (as := []) (st := [.int v444]) (KX4_ifRepaired (d + 5) s442 _ _ h446) okX4_ifRepaired wl_L_181 kc_7 (q := (RX4, TX4, 12)) rfl rfl rfl rfl (Nat.le_of_ble_eq_true rfl) dL_law_1651 rfl ?_
  refine ky_icmp_eq (n := 1657) (tgt := 1714) dL_law_1654 rfl rfl (fun c448 => ?_) (fun c448 => ?_)
  · have hf := ky_pos c448 hf
    refine ky_iincB (c := (4 : Int32)) (n := 1717) dL_law_1714 rfl 4 rfl rfl (Nat.le_of_ble_eq_true rfl) (fun v449 ev449 => ?_)
    have hf := ky_bn_e hf v449 ev449
    refine ky_lv (lv' := [(4, .int v449), (0, ky_r G 15), (1, ky_r G 0), (2, ky_r G 7), (3, ky_r G 16)]) rfl ?_
    refine ky_goto (tgt := 23) dL_law_1717 rfl ?_
    refine ky_bud (kc2 := kq) (ks2 := sq) (by omega) (by omega) ?_
    refine ky_sub [1, 2, 3, 4, 0] (lv' := [(0, ky_r G 15), (1, ky_r G 0), (2, ky_r G 7), (3, ky_r G 16), (4, .int v449)]) rfl ?_
    exact hrec23 v449 s445 _ _ hf
  · have hf := ky_neg c448 hf
    refine ky_iconst (v := (0 : Int32)) (n := 1658) dL_law_1657 rfl rfl ?_
    cases hf
    exact ky_zreturn dL_law_1658 rfl (Or.inl rfl)
def fL_law_L1659 (L : Nat) (rec23 : Int32 → ky_St → Option (Int32 × ky_St)) (x4 : Int32) (σ : ky_St) : Option (Int32 × ky_St) :=
  ky_bd (fX3_hiredShare σ) fun v453 s451 =>
  ky_bd (fX4_hiredShare s451) fun v456 s454 =>
  if (Op.cmpValue (FP.dcmp v453 v456) .l) = 0 then (
  ky_bn (x4 + (4 : Int32)) fun v458 =>
  rec23 v458 s454) else (
  if (Op.cmpValue (FP.dcmp v453 v453) .l) = 0 then (
  some ((0 : Int32), s454)) else (
  if (Op.cmpValue (FP.dcmp v456 v456) .l) = 0 then (
  some ((0 : Int32), s454)) else (
  ky_bn (x4 + (4 : Int32)) fun v461 =>
  rec23 v461 s454)))
set_option maxHeartbeats 4000000 in
set_option maxRecDepth 100000 in
theorem tL_law_L1659 {G : ky_G} {L : Nat} (hL : ky_len G.2.2.2.1 15 = some L) {rec23 : Int32 → ky_St → Option (Int32 × ky_St)} {kq sq : Nat} (d : Nat) (hrec23 : ∀ (x4 : Int32) (σ : ky_St) (r : Int32) (σ' : ky_St), rec23 x4 σ = some (r, σ') → ky_T G mL_law (d + 9) kq sq 23 [(0, ky_r G 15), (1, ky_r G 0), (2, ky_r G 7), (3, ky_r G 16), (4, .int x4)] [] σ (.inr (some (.int r))) σ') : ∀ (x4 : Int32) (σ : ky_St) (r : Int32) (σ' : ky_St), fL_law_L1659 L rec23 x4 σ = some (r, σ') → ky_T G mL_law (d + 9) (kq + 5) (sq + 30) 1659 [(0, ky_r G 15), (1, ky_r G 0), (2, ky_r G 7), (3, ky_r G 16), (4, .int x4)] [] σ (.inr (some (.int r))) σ' := by
  intro x4 σ r σ' hf
  unfold fL_law_L1659 at hf
  refine ky_aload_n (n := 1660) dL_law_1659 rfl rfl 1 rfl ?_
  obtain ⟨v453, s451, h452, hf⟩ := ky_bd_e hf
  refine ky_bud (kc2 := kq + 0) (ks2 := sq + 0) (by omega) (by omega) ?_
  refine ky_callV (kc := kq) (ks := sq) (kc2 := 0) (ks2 := 0) (k0 := 0) (as := []) (st := []) (KX3_hiredShare (d + 5) σ _ _ h452) okX3_hiredShare wl_L_182 kc_0 (q := (RX3, TX3, 4)) rfl rfl rfl rfl (Nat.le_of_ble_eq_true rfl) dL_law_1660 rfl ?_
  refine ky_dstore (lv' := [(5, .double v453), (0, ky_r G 15), (1, ky_r G 0), (2, ky_r G 7), (3, ky_r G 16), (4, .int x4)]) (n := 1665) dL_law_1663 rfl (Nat.le_of_ble_eq_true rfl) rfl ?_
  refine ky_aload_n (n := 1666) dL_law_1665 rfl rfl 3 rfl ?_
  obtain ⟨v456, s454, h455, hf⟩ := ky_bd_e hf
  refine ky_bud (kc2 := kq + 0) (ks2 := sq + 0) (by omega) (by omega) ?_
  refine ky_callV (kc := kq) (ks := sq) (kc2 := 0) (ks2 := 0) (k0 := 7) (as := []) (st := []) (KX4_hiredShare (d + 4) s451 _ _ h455) okX4_hiredShare wl_L_186 kc_7 (q := (RX4, TX4, 12)) rfl rfl rfl rfl (Nat.le_of_ble_eq_true rfl) dL_law_1666 rfl ?_
  refine ky_dstore (lv' := [(7, .double v456), (5, .double v453), (0, ky_r G 15), (1, ky_r G 0), (2, ky_r G 7), (3, ky_r G 16), (4, .int x4)]) (n := 1671) dL_law_1669 rfl (Nat.le_of_ble_eq_true rfl) rfl ?_
  refine ky_dload (n := 1673) dL_law_1671 rfl 1 rfl ?_
  refine ky_dload (n := 1675) dL_law_1673 rfl 0 rfl ?_
  refine ky_dcmp (n := 1676) dL_law_1675 rfl ?_
  refine ky_if_eq (n := 1679) (tgt := 1697) dL_law_1676 rfl rfl (fun c457 => ?_) (fun c457 => ?_)
  · have hf := ky_pos c457 hf
    refine ky_goto (tgt := 1714) dL_law_1697 rfl ?_
    refine ky_iincB (c := (4 : Int32)) (n := 1717) dL_law_1714 rfl 6 rfl rfl (Nat.le_of_ble_eq_true rfl) (fun v458 ev458 => ?_)
    have hf := ky_bn_e hf v458 ev458
    refine ky_lv (lv' := [(4, .int v458), (7, .double v456), (5, .double v453), (0, ky_r G 15), (1, ky_r G 0), (2, ky_r G 7), (3, ky_r G 16)]) rfl ?_
    refine ky_goto (tgt := 23) dL_law_1717 rfl ?_
    refine ky_bud (kc2 := kq) (ks2 := sq) (by omega) (by omega) ?_
    refine ky_sub [3, 4, 5, 6, 0] (lv' := [(0, ky_r G 15), (1, ky_r G 0), (2, ky_r G 7), (3, ky_r G 16), (4, .int v458)]) rfl ?_
    exact hrec23 v458 s454 _ _ hf
  · have hf := ky_neg c457 hf
    refine ky_dload (n := 1681) dL_law_1679 rfl 1 rfl ?_
    refine ky_dload (n := 1683) dL_law_1681 rfl 1 rfl ?_
    refine ky_dcmp (n := 1684) dL_law_1683 rfl ?_
    refine ky_if_eq (n := 1687) (tgt := 1695) dL_law_1684 rfl rfl (fun c459 => ?_) (fun c459 => ?_)
    · have hf := ky_pos c459 hf
      refine ky_iconst (v := (0 : Int32)) (n := 1696) dL_law_1695 rfl rfl ?_
      cases hf
      exact ky_zreturn dL_law_1696 rfl (Or.inl rfl)
    · have hf := ky_neg c459 hf
      refine ky_dload (n := 1689) dL_law_1687 rfl 0 rfl ?_
      refine ky_dload (n := 1691) dL_law_1689 rfl 0 rfl ?_
      refine ky_dcmp (n := 1692) dL_law_1691 rfl ?_
      refine ky_if_ne (n := 1695) (tgt := 1697) dL_law_1692 rfl rfl (fun c460 => ?_) (fun c460 => ?_)
      · have hf := ky_neg c460 hf
        refine ky_goto (tgt := 1714) dL_law_1697 rfl ?_
        refine ky_iincB (c := (4 : Int32)) (n := 1717) dL_law_1714 rfl 6 rfl rfl (Nat.le_of_ble_eq_true rfl) (fun v461 ev461 => ?_)
        have hf := ky_bn_e hf v461 ev461
        refine ky_lv (lv' := [(4, .int v461), (7, .double v456), (5, .double v453), (0, ky_r G 15), (1, ky_r G 0), (2, ky_r G 7), (3, ky_r G 16)]) rfl ?_
        refine ky_goto (tgt := 23) dL_law_1717 rfl ?_
        refine ky_bud (kc2 := kq) (ks2 := sq) (by omega) (by omega) ?_
        refine ky_sub [3, 4, 5, 6, 0] (lv' := [(0, ky_r G 15), (1, ky_r G 0), (2, ky_r G 7), (3, ky_r G 16), (4, .int v461)]) rfl ?_
        exact hrec23 v461 s454 _ _ hf
      · have hf := ky_pos c460 hf
        refine ky_iconst (v := (0 : Int32)) (n := 1696) dL_law_1695 rfl rfl ?_
        cases hf
        exact ky_zreturn dL_law_1696 rfl (Or.inl rfl)
def fL_law_L1700 (L : Nat) (rec23 : Int32 → ky_St → Option (Int32 × ky_St)) (x4 : Int32) (σ : ky_St) : Option (Int32 × ky_St) :=
  ky_bd (fX3_digest σ) fun v465 s463 =>
  ky_bd (fX4_digest s463) fun v468 s466 =>
  if (lg_cmp v465 v468) = 0 then (
  ky_bn (x4 + (4 : Int32)) fun v470 =>
  rec23 v470 s466) else (
  some ((0 : Int32), s466))
set_option maxHeartbeats 4000000 in
set_option maxRecDepth 100000 in
theorem tL_law_L1700 {G : ky_G} {L : Nat} (hL : ky_len G.2.2.2.1 15 = some L) {rec23 : Int32 → ky_St → Option (Int32 × ky_St)} {kq sq : Nat} (d : Nat) (hrec23 : ∀ (x4 : Int32) (σ : ky_St) (r : Int32) (σ' : ky_St), rec23 x4 σ = some (r, σ') → ky_T G mL_law (d + 9) kq sq 23 [(0, ky_r G 15), (1, ky_r G 0), (2, ky_r G 7), (3, ky_r G 16), (4, .int x4)] [] σ (.inr (some (.int r))) σ') : ∀ (x4 : Int32) (σ : ky_St) (r : Int32) (σ' : ky_St), fL_law_L1700 L rec23 x4 σ = some (r, σ') → ky_T G mL_law (d + 9) (kq + 5) (sq + 30) 1700 [(0, ky_r G 15), (1, ky_r G 0), (2, ky_r G 7), (3, ky_r G 16), (4, .int x4)] [] σ (.inr (some (.int r))) σ' := by
  intro x4 σ r σ' hf
  unfold fL_law_L1700 at hf
  refine ky_aload_n (n := 1701) dL_law_1700 rfl rfl 1 rfl ?_
  obtain ⟨v465, s463, h464, hf⟩ := ky_bd_e hf
  refine ky_bud (kc2 := kq + 0) (ks2 := sq + 0) (by omega) (by omega) ?_
  refine ky_callV (kc := kq) (ks := sq) (kc2 := 0) (ks2 := 0) (k0 := 0) (as := []) (st := []) (KX3_digest (d + 2) σ _ _ h464) okX3_digest wl_L_187 kc_0 (q := (RX3, TX3, 4)) rfl rfl rfl rfl (Nat.le_of_ble_eq_true rfl) dL_law_1701 rfl ?_
  refine ky_aload_n (n := 1705) dL_law_1704 rfl rfl 2 rfl ?_
  obtain ⟨v468, s466, h467, hf⟩ := ky_bd_e hf
  refine ky_bud (kc2 := kq + 0) (ks2 := sq + 0) (by omega) (by omega) ?_
  refine ky_callV (kc := kq) (ks := sq) (kc2 := 0) (ks2 := 0) (k0 := 7) (as := []) (st := [.long v465]) (KX4_digest (d + 3) s463 _ _ h467) okX4_digest wl_L_191 kc_7 (q := (RX4, TX4, 12)) rfl rfl rfl rfl (Nat.le_of_ble_eq_true rfl) dL_law_1705 rfl ?_
  refine ky_lcmp (n := 1709) dL_law_1708 rfl ?_
  refine ky_if_eq (n := 1712) (tgt := 1714) dL_law_1709 rfl rfl (fun c469 => ?_) (fun c469 => ?_)
  · have hf := ky_pos c469 hf
    refine ky_iincB (c := (4 : Int32)) (n := 1717) dL_law_1714 rfl 4 rfl rfl (Nat.le_of_ble_eq_true rfl) (fun v470 ev470 => ?_)
    have hf := ky_bn_e hf v470 ev470
    refine ky_lv (lv' := [(4, .int v470), (0, ky_r G 15), (1, ky_r G 0), (2, ky_r G 7), (3, ky_r G 16)]) rfl ?_
    refine ky_goto (tgt := 23) dL_law_1717 rfl ?_
    refine ky_bud (kc2 := kq) (ks2 := sq) (by omega) (by omega) ?_
    refine ky_sub [1, 2, 3, 4, 0] (lv' := [(0, ky_r G 15), (1, ky_r G 0), (2, ky_r G 7), (3, ky_r G 16), (4, .int v470)]) rfl ?_
    exact hrec23 v470 s466 _ _ hf
  · have hf := ky_neg c469 hf
    refine ky_iconst (v := (0 : Int32)) (n := 1713) dL_law_1712 rfl rfl ?_
    cases hf
    exact ky_zreturn dL_law_1713 rfl (Or.inl rfl)
def fL_law_L23 (L : Nat) : Nat → Int32 → ky_St → Option (Int32 × ky_St)
  | 0, _, _ => none
  | fu + 1, x4, σ =>
  if ((Int32.ofNat L) - (4 : Int32)) < x4 then (
  some ((1 : Int32), σ)) else (
  ky_g (¬ (x4 < 0 ∨ L ≤ x4.toNatClampNeg)) (
  ky_bn ((σ.1 15 x4.toNatClampNeg) &&& (31 : Int32)) fun v3 =>
  if v3 = (0 : Int32) then (
  fL_law_L164 L (fL_law_L23 L fu) x4 σ) else (
  if v3 = (1 : Int32) then (
  fL_law_L220 L (fL_law_L23 L fu) x4 σ) else (
  if v3 = (2 : Int32) then (
  fL_law_L288 L (fL_law_L23 L fu) x4 σ) else (
  if v3 = (3 : Int32) then (
  fL_law_L344 L (fL_law_L23 L fu) x4 σ) else (
  if v3 = (4 : Int32) then (
  fL_law_L424 L (fL_law_L23 L fu) x4 σ) else (
  if v3 = (5 : Int32) then (
  fL_law_L492 L (fL_law_L23 L fu) x4 σ) else (
  if v3 = (6 : Int32) then (
  fL_law_L560 L (fL_law_L23 L fu) x4 σ) else (
  if v3 = (7 : Int32) then (
  fL_law_L628 L (fL_law_L23 L fu) x4 σ) else (
  if v3 = (8 : Int32) then (
  fL_law_L684 L (fL_law_L23 L fu) x4 σ) else (
  if v3 = (9 : Int32) then (
  fL_law_L764 L (fL_law_L23 L fu) x4 σ) else (
  if v3 = (10 : Int32) then (
  fL_law_L832 L (fL_law_L23 L fu) x4 σ) else (
  if v3 = (11 : Int32) then (
  fL_law_L888 L (fL_law_L23 L fu) x4 σ) else (
  if v3 = (12 : Int32) then (
  fL_law_L956 L (fL_law_L23 L fu) x4 σ) else (
  if v3 = (13 : Int32) then (
  fL_law_L1012 L (fL_law_L23 L fu) x4 σ) else (
  if v3 = (14 : Int32) then (
  fL_law_L1025 L (fL_law_L23 L fu) x4 σ) else (
  if v3 = (15 : Int32) then (
  fL_law_L1038 L (fL_law_L23 L fu) x4 σ) else (
  if v3 = (16 : Int32) then (
  fL_law_L1082 L (fL_law_L23 L fu) x4 σ) else (
  if v3 = (17 : Int32) then (
  fL_law_L1126 L (fL_law_L23 L fu) x4 σ) else (
  if v3 = (18 : Int32) then (
  fL_law_L1194 L (fL_law_L23 L fu) x4 σ) else (
  if v3 = (19 : Int32) then (
  fL_law_L1262 L (fL_law_L23 L fu) x4 σ) else (
  if v3 = (20 : Int32) then (
  fL_law_L1330 L (fL_law_L23 L fu) x4 σ) else (
  if v3 = (21 : Int32) then (
  fL_law_L1386 L (fL_law_L23 L fu) x4 σ) else (
  if v3 = (22 : Int32) then (
  fL_law_L1442 L (fL_law_L23 L fu) x4 σ) else (
  if v3 = (23 : Int32) then (
  fL_law_L1510 L (fL_law_L23 L fu) x4 σ) else (
  if v3 = (24 : Int32) then (
  fL_law_L1590 L (fL_law_L23 L fu) x4 σ) else (
  if v3 = (25 : Int32) then (
  fL_law_L1646 L (fL_law_L23 L fu) x4 σ) else (
  if v3 = (26 : Int32) then (
  fL_law_L1659 L (fL_law_L23 L fu) x4 σ) else (
  if v3 = (27 : Int32) then (
  fL_law_L1700 L (fL_law_L23 L fu) x4 σ) else (
  ky_bn (x4 + (4 : Int32)) fun v471 =>
  fL_law_L23 L fu v471 σ))))))))))))))))))))))))))))))
set_option maxHeartbeats 4000000 in
set_option maxRecDepth 100000 in
theorem tL_law_L23 {G : ky_G} {L : Nat} (hL : ky_len G.2.2.2.1 15 = some L) (d : Nat) : ∀ (fu : Nat) (x4 : Int32) (σ : ky_St) (r : Int32) (σ' : ky_St), fL_law_L23 L fu x4 σ = some (r, σ') → ky_T G mL_law (d + 9) (5 * fu) (30 * fu) 23 [(0, ky_r G 15), (1, ky_r G 0), (2, ky_r G 7), (3, ky_r G 16), (4, .int x4)] [] σ (.inr (some (.int r))) σ' := by
  intro fu
  induction fu with
  | zero =>
    intro x4 σ r σ' hf
    rw [fL_law_L23] at hf
    cases hf
  | succ fu ih =>
    intro x4 σ r σ' hf
    rw [fL_law_L23] at hf
    refine ky_iload (n := 25) dL_law_23 rfl 4 rfl ?_
    refine ky_aload_n (n := 26) dL_law_25 rfl rfl 0 rfl ?_
    refine ky_alen (n := 27) dL_law_26 rfl hL ?_
    refine ky_iconst (v := (4 : Int32)) (n := 28) dL_law_27 rfl rfl ?_
    refine ky_isub (n := 29) dL_law_28 rfl ?_
    refine ky_icmp_gt (n := 32) (tgt := 1720) dL_law_29 rfl rfl (fun c1 => ?_) (fun c1 => ?_)
    · have hf := ky_pos c1 hf
      refine ky_iconst (v := (1 : Int32)) (n := 1721) dL_law_1720 rfl rfl ?_
      cases hf
      exact ky_zreturn dL_law_1721 rfl (Or.inr rfl)
    · have hf := ky_neg c1 hf
      refine ky_aload_n (n := 33) dL_law_32 rfl rfl 0 rfl ?_
      refine ky_iload (n := 35) dL_law_33 rfl 4 rfl ?_
      obtain ⟨g2, hf⟩ := ky_ge hf
      refine ky_iald (n := 36) dL_law_35 rfl hL g2 ?_
      refine ky_bipush (v := (31 : Int32)) (n := 38) dL_law_36 rfl rfl ?_
      refine ky_iand (n := 39) dL_law_38 rfl ?_
      refine ky_topi (fun v3 ev3 => ?_)
      have hf := ky_bn_e hf v3 ev3
      by_cases c4 : v3 = (0 : Int32)
      · have hf := ky_pos c4 hf
        refine ky_tsIn (off := 125) (tgt := 164) dL_law_39 (by rw [c4]; decide) (by rw [c4]; decide) (by rw [c4]; rfl) rfl ?_
        refine ky_bud (kc2 := 5 * fu + 5) (ks2 := 30 * fu + 30) (by omega) (by omega) ?_
        refine ky_sub [0, 1, 2, 3, 4] (lv' := [(0, ky_r G 15), (1, ky_r G 0), (2, ky_r G 7), (3, ky_r G 16), (4, .int x4)]) rfl ?_
        exact tL_law_L164 (kq := 5 * fu) (sq := 30 * fu) hL d ih x4 σ _ _ hf
      have hf := ky_neg c4 hf
      by_cases c21 : v3 = (1 : Int32)
      · have hf := ky_pos c21 hf
        refine ky_tsIn (off := 181) (tgt := 220) dL_law_39 (by rw [c21]; decide) (by rw [c21]; decide) (by rw [c21]; rfl) rfl ?_
        refine ky_bud (kc2 := 5 * fu + 5) (ks2 := 30 * fu + 30) (by omega) (by omega) ?_
        refine ky_sub [0, 1, 2, 3, 4] (lv' := [(0, ky_r G 15), (1, ky_r G 0), (2, ky_r G 7), (3, ky_r G 16), (4, .int x4)]) rfl ?_
        exact tL_law_L220 (kq := 5 * fu) (sq := 30 * fu) hL d ih x4 σ _ _ hf
      have hf := ky_neg c21 hf
      by_cases c40 : v3 = (2 : Int32)
      · have hf := ky_pos c40 hf
        refine ky_tsIn (off := 249) (tgt := 288) dL_law_39 (by rw [c40]; decide) (by rw [c40]; decide) (by rw [c40]; rfl) rfl ?_
        refine ky_bud (kc2 := 5 * fu + 5) (ks2 := 30 * fu + 30) (by omega) (by omega) ?_
        refine ky_sub [0, 1, 2, 3, 4] (lv' := [(0, ky_r G 15), (1, ky_r G 0), (2, ky_r G 7), (3, ky_r G 16), (4, .int x4)]) rfl ?_
        exact tL_law_L288 (kq := 5 * fu) (sq := 30 * fu) hL d ih x4 σ _ _ hf
      have hf := ky_neg c40 hf
      by_cases c57 : v3 = (3 : Int32)
      · have hf := ky_pos c57 hf
        refine ky_tsIn (off := 305) (tgt := 344) dL_law_39 (by rw [c57]; decide) (by rw [c57]; decide) (by rw [c57]; rfl) rfl ?_
        refine ky_bud (kc2 := 5 * fu + 5) (ks2 := 30 * fu + 30) (by omega) (by omega) ?_
        refine ky_sub [0, 1, 2, 3, 4] (lv' := [(0, ky_r G 15), (1, ky_r G 0), (2, ky_r G 7), (3, ky_r G 16), (4, .int x4)]) rfl ?_
        exact tL_law_L344 (kq := 5 * fu) (sq := 30 * fu) hL d ih x4 σ _ _ hf
      have hf := ky_neg c57 hf
      by_cases c78 : v3 = (4 : Int32)
      · have hf := ky_pos c78 hf
        refine ky_tsIn (off := 385) (tgt := 424) dL_law_39 (by rw [c78]; decide) (by rw [c78]; decide) (by rw [c78]; rfl) rfl ?_
        refine ky_bud (kc2 := 5 * fu + 5) (ks2 := 30 * fu + 30) (by omega) (by omega) ?_
        refine ky_sub [0, 1, 2, 3, 4] (lv' := [(0, ky_r G 15), (1, ky_r G 0), (2, ky_r G 7), (3, ky_r G 16), (4, .int x4)]) rfl ?_
        exact tL_law_L424 (kq := 5 * fu) (sq := 30 * fu) hL d ih x4 σ _ _ hf
      have hf := ky_neg c78 hf
      by_cases c97 : v3 = (5 : Int32)
      · have hf := ky_pos c97 hf
        refine ky_tsIn (off := 453) (tgt := 492) dL_law_39 (by rw [c97]; decide) (by rw [c97]; decide) (by rw [c97]; rfl) rfl ?_
        refine ky_bud (kc2 := 5 * fu + 5) (ks2 := 30 * fu + 30) (by omega) (by omega) ?_
        refine ky_sub [0, 1, 2, 3, 4] (lv' := [(0, ky_r G 15), (1, ky_r G 0), (2, ky_r G 7), (3, ky_r G 16), (4, .int x4)]) rfl ?_
        exact tL_law_L492 (kq := 5 * fu) (sq := 30 * fu) hL d ih x4 σ _ _ hf
      have hf := ky_neg c97 hf
      by_cases c116 : v3 = (6 : Int32)
      · have hf := ky_pos c116 hf
        refine ky_tsIn (off := 521) (tgt := 560) dL_law_39 (by rw [c116]; decide) (by rw [c116]; decide) (by rw [c116]; rfl) rfl ?_
        refine ky_bud (kc2 := 5 * fu + 5) (ks2 := 30 * fu + 30) (by omega) (by omega) ?_
        refine ky_sub [0, 1, 2, 3, 4] (lv' := [(0, ky_r G 15), (1, ky_r G 0), (2, ky_r G 7), (3, ky_r G 16), (4, .int x4)]) rfl ?_
        exact tL_law_L560 (kq := 5 * fu) (sq := 30 * fu) hL d ih x4 σ _ _ hf
      have hf := ky_neg c116 hf
      by_cases c135 : v3 = (7 : Int32)
      · have hf := ky_pos c135 hf
        refine ky_tsIn (off := 589) (tgt := 628) dL_law_39 (by rw [c135]; decide) (by rw [c135]; decide) (by rw [c135]; rfl) rfl ?_
        refine ky_bud (kc2 := 5 * fu + 5) (ks2 := 30 * fu + 30) (by omega) (by omega) ?_
        refine ky_sub [0, 1, 2, 3, 4] (lv' := [(0, ky_r G 15), (1, ky_r G 0), (2, ky_r G 7), (3, ky_r G 16), (4, .int x4)]) rfl ?_
        exact tL_law_L628 (kq := 5 * fu) (sq := 30 * fu) hL d ih x4 σ _ _ hf
      have hf := ky_neg c135 hf
      by_cases c152 : v3 = (8 : Int32)
      · have hf := ky_pos c152 hf
        refine ky_tsIn (off := 645) (tgt := 684) dL_law_39 (by rw [c152]; decide) (by rw [c152]; decide) (by rw [c152]; rfl) rfl ?_
        refine ky_bud (kc2 := 5 * fu + 5) (ks2 := 30 * fu + 30) (by omega) (by omega) ?_
        refine ky_sub [0, 1, 2, 3, 4] (lv' := [(0, ky_r G 15), (1, ky_r G 0), (2, ky_r G 7), (3, ky_r G 16), (4, .int x4)]) rfl ?_
        exact tL_law_L684 (kq := 5 * fu) (sq := 30 * fu) hL d ih x4 σ _ _ hf
      have hf := ky_neg c152 hf
      by_cases c173 : v3 = (9 : Int32)
      · have hf := ky_pos c173 hf
        refine ky_tsIn (off := 725) (tgt := 764) dL_law_39 (by rw [c173]; decide) (by rw [c173]; decide) (by rw [c173]; rfl) rfl ?_
        refine ky_bud (kc2 := 5 * fu + 5) (ks2 := 30 * fu + 30) (by omega) (by omega) ?_
        refine ky_sub [0, 1, 2, 3, 4] (lv' := [(0, ky_r G 15), (1, ky_r G 0), (2, ky_r G 7), (3, ky_r G 16), (4, .int x4)]) rfl ?_
        exact tL_law_L764 (kq := 5 * fu) (sq := 30 * fu) hL d ih x4 σ _ _ hf
      have hf := ky_neg c173 hf
      by_cases c192 : v3 = (10 : Int32)
      · have hf := ky_pos c192 hf
        refine ky_tsIn (off := 793) (tgt := 832) dL_law_39 (by rw [c192]; decide) (by rw [c192]; decide) (by rw [c192]; rfl) rfl ?_
        refine ky_bud (kc2 := 5 * fu + 5) (ks2 := 30 * fu + 30) (by omega) (by omega) ?_
        refine ky_sub [0, 1, 2, 3, 4] (lv' := [(0, ky_r G 15), (1, ky_r G 0), (2, ky_r G 7), (3, ky_r G 16), (4, .int x4)]) rfl ?_
        exact tL_law_L832 (kq := 5 * fu) (sq := 30 * fu) hL d ih x4 σ _ _ hf
      have hf := ky_neg c192 hf
      by_cases c209 : v3 = (11 : Int32)
      · have hf := ky_pos c209 hf
        refine ky_tsIn (off := 849) (tgt := 888) dL_law_39 (by rw [c209]; decide) (by rw [c209]; decide) (by rw [c209]; rfl) rfl ?_
        refine ky_bud (kc2 := 5 * fu + 5) (ks2 := 30 * fu + 30) (by omega) (by omega) ?_
        refine ky_sub [0, 1, 2, 3, 4] (lv' := [(0, ky_r G 15), (1, ky_r G 0), (2, ky_r G 7), (3, ky_r G 16), (4, .int x4)]) rfl ?_
        exact tL_law_L888 (kq := 5 * fu) (sq := 30 * fu) hL d ih x4 σ _ _ hf
      have hf := ky_neg c209 hf
      by_cases c228 : v3 = (12 : Int32)
      · have hf := ky_pos c228 hf
        refine ky_tsIn (off := 917) (tgt := 956) dL_law_39 (by rw [c228]; decide) (by rw [c228]; decide) (by rw [c228]; rfl) rfl ?_
        refine ky_bud (kc2 := 5 * fu + 5) (ks2 := 30 * fu + 30) (by omega) (by omega) ?_
        refine ky_sub [0, 1, 2, 3, 4] (lv' := [(0, ky_r G 15), (1, ky_r G 0), (2, ky_r G 7), (3, ky_r G 16), (4, .int x4)]) rfl ?_
        exact tL_law_L956 (kq := 5 * fu) (sq := 30 * fu) hL d ih x4 σ _ _ hf
      have hf := ky_neg c228 hf
      by_cases c245 : v3 = (13 : Int32)
      · have hf := ky_pos c245 hf
        refine ky_tsIn (off := 973) (tgt := 1012) dL_law_39 (by rw [c245]; decide) (by rw [c245]; decide) (by rw [c245]; rfl) rfl ?_
        refine ky_bud (kc2 := 5 * fu + 5) (ks2 := 30 * fu + 30) (by omega) (by omega) ?_
        refine ky_sub [0, 1, 2, 3, 4] (lv' := [(0, ky_r G 15), (1, ky_r G 0), (2, ky_r G 7), (3, ky_r G 16), (4, .int x4)]) rfl ?_
        exact tL_law_L1012 (kq := 5 * fu) (sq := 30 * fu) hL d ih x4 σ _ _ hf
      have hf := ky_neg c245 hf
      by_cases c254 : v3 = (14 : Int32)
      · have hf := ky_pos c254 hf
        refine ky_tsIn (off := 986) (tgt := 1025) dL_law_39 (by rw [c254]; decide) (by rw [c254]; decide) (by rw [c254]; rfl) rfl ?_
        refine ky_bud (kc2 := 5 * fu + 5) (ks2 := 30 * fu + 30) (by omega) (by omega) ?_
        refine ky_sub [0, 1, 2, 3, 4] (lv' := [(0, ky_r G 15), (1, ky_r G 0), (2, ky_r G 7), (3, ky_r G 16), (4, .int x4)]) rfl ?_
        exact tL_law_L1025 (kq := 5 * fu) (sq := 30 * fu) hL d ih x4 σ _ _ hf
      have hf := ky_neg c254 hf
      by_cases c263 : v3 = (15 : Int32)
      · have hf := ky_pos c263 hf
        refine ky_tsIn (off := 999) (tgt := 1038) dL_law_39 (by rw [c263]; decide) (by rw [c263]; decide) (by rw [c263]; rfl) rfl ?_
        refine ky_bud (kc2 := 5 * fu + 5) (ks2 := 30 * fu + 30) (by omega) (by omega) ?_
        refine ky_sub [0, 1, 2, 3, 4] (lv' := [(0, ky_r G 15), (1, ky_r G 0), (2, ky_r G 7), (3, ky_r G 16), (4, .int x4)]) rfl ?_
        exact tL_law_L1038 (kq := 5 * fu) (sq := 30 * fu) hL d ih x4 σ _ _ hf
      have hf := ky_neg c263 hf
      by_cases c278 : v3 = (16 : Int32)
      · have hf := ky_pos c278 hf
        refine ky_tsIn (off := 1043) (tgt := 1082) dL_law_39 (by rw [c278]; decide) (by rw [c278]; decide) (by rw [c278]; rfl) rfl ?_
        refine ky_bud (kc2 := 5 * fu + 5) (ks2 := 30 * fu + 30) (by omega) (by omega) ?_
        refine ky_sub [0, 1, 2, 3, 4] (lv' := [(0, ky_r G 15), (1, ky_r G 0), (2, ky_r G 7), (3, ky_r G 16), (4, .int x4)]) rfl ?_
        exact tL_law_L1082 (kq := 5 * fu) (sq := 30 * fu) hL d ih x4 σ _ _ hf
      have hf := ky_neg c278 hf
      by_cases c293 : v3 = (17 : Int32)
      · have hf := ky_pos c293 hf
        refine ky_tsIn (off := 1087) (tgt := 1126) dL_law_39 (by rw [c293]; decide) (by rw [c293]; decide) (by rw [c293]; rfl) rfl ?_
        refine ky_bud (kc2 := 5 * fu + 5) (ks2 := 30 * fu + 30) (by omega) (by omega) ?_
        refine ky_sub [0, 1, 2, 3, 4] (lv' := [(0, ky_r G 15), (1, ky_r G 0), (2, ky_r G 7), (3, ky_r G 16), (4, .int x4)]) rfl ?_
        exact tL_law_L1126 (kq := 5 * fu) (sq := 30 * fu) hL d ih x4 σ _ _ hf
      have hf := ky_neg c293 hf
      by_cases c312 : v3 = (18 : Int32)
      · have hf := ky_pos c312 hf
        refine ky_tsIn (off := 1155) (tgt := 1194) dL_law_39 (by rw [c312]; decide) (by rw [c312]; decide) (by rw [c312]; rfl) rfl ?_
        refine ky_bud (kc2 := 5 * fu + 5) (ks2 := 30 * fu + 30) (by omega) (by omega) ?_
        refine ky_sub [0, 1, 2, 3, 4] (lv' := [(0, ky_r G 15), (1, ky_r G 0), (2, ky_r G 7), (3, ky_r G 16), (4, .int x4)]) rfl ?_
        exact tL_law_L1194 (kq := 5 * fu) (sq := 30 * fu) hL d ih x4 σ _ _ hf
      have hf := ky_neg c312 hf
      by_cases c331 : v3 = (19 : Int32)
      · have hf := ky_pos c331 hf
        refine ky_tsIn (off := 1223) (tgt := 1262) dL_law_39 (by rw [c331]; decide) (by rw [c331]; decide) (by rw [c331]; rfl) rfl ?_
        refine ky_bud (kc2 := 5 * fu + 5) (ks2 := 30 * fu + 30) (by omega) (by omega) ?_
        refine ky_sub [0, 1, 2, 3, 4] (lv' := [(0, ky_r G 15), (1, ky_r G 0), (2, ky_r G 7), (3, ky_r G 16), (4, .int x4)]) rfl ?_
        exact tL_law_L1262 (kq := 5 * fu) (sq := 30 * fu) hL d ih x4 σ _ _ hf
      have hf := ky_neg c331 hf
      by_cases c350 : v3 = (20 : Int32)
      · have hf := ky_pos c350 hf
        refine ky_tsIn (off := 1291) (tgt := 1330) dL_law_39 (by rw [c350]; decide) (by rw [c350]; decide) (by rw [c350]; rfl) rfl ?_
        refine ky_bud (kc2 := 5 * fu + 5) (ks2 := 30 * fu + 30) (by omega) (by omega) ?_
        refine ky_sub [0, 1, 2, 3, 4] (lv' := [(0, ky_r G 15), (1, ky_r G 0), (2, ky_r G 7), (3, ky_r G 16), (4, .int x4)]) rfl ?_
        exact tL_law_L1330 (kq := 5 * fu) (sq := 30 * fu) hL d ih x4 σ _ _ hf
      have hf := ky_neg c350 hf
      by_cases c367 : v3 = (21 : Int32)
      · have hf := ky_pos c367 hf
        refine ky_tsIn (off := 1347) (tgt := 1386) dL_law_39 (by rw [c367]; decide) (by rw [c367]; decide) (by rw [c367]; rfl) rfl ?_
        refine ky_bud (kc2 := 5 * fu + 5) (ks2 := 30 * fu + 30) (by omega) (by omega) ?_
        refine ky_sub [0, 1, 2, 3, 4] (lv' := [(0, ky_r G 15), (1, ky_r G 0), (2, ky_r G 7), (3, ky_r G 16), (4, .int x4)]) rfl ?_
        exact tL_law_L1386 (kq := 5 * fu) (sq := 30 * fu) hL d ih x4 σ _ _ hf
      have hf := ky_neg c367 hf
      by_cases c384 : v3 = (22 : Int32)
      · have hf := ky_pos c384 hf
        refine ky_tsIn (off := 1403) (tgt := 1442) dL_law_39 (by rw [c384]; decide) (by rw [c384]; decide) (by rw [c384]; rfl) rfl ?_
        refine ky_bud (kc2 := 5 * fu + 5) (ks2 := 30 * fu + 30) (by omega) (by omega) ?_
        refine ky_sub [0, 1, 2, 3, 4] (lv' := [(0, ky_r G 15), (1, ky_r G 0), (2, ky_r G 7), (3, ky_r G 16), (4, .int x4)]) rfl ?_
        exact tL_law_L1442 (kq := 5 * fu) (sq := 30 * fu) hL d ih x4 σ _ _ hf
      have hf := ky_neg c384 hf
      by_cases c403 : v3 = (23 : Int32)
      · have hf := ky_pos c403 hf
        refine ky_tsIn (off := 1471) (tgt := 1510) dL_law_39 (by rw [c403]; decide) (by rw [c403]; decide) (by rw [c403]; rfl) rfl ?_
        refine ky_bud (kc2 := 5 * fu + 5) (ks2 := 30 * fu + 30) (by omega) (by omega) ?_
        refine ky_sub [0, 1, 2, 3, 4] (lv' := [(0, ky_r G 15), (1, ky_r G 0), (2, ky_r G 7), (3, ky_r G 16), (4, .int x4)]) rfl ?_
        exact tL_law_L1510 (kq := 5 * fu) (sq := 30 * fu) hL d ih x4 σ _ _ hf
      have hf := ky_neg c403 hf
      by_cases c424 : v3 = (24 : Int32)
      · have hf := ky_pos c424 hf
        refine ky_tsIn (off := 1551) (tgt := 1590) dL_law_39 (by rw [c424]; decide) (by rw [c424]; decide) (by rw [c424]; rfl) rfl ?_
        refine ky_bud (kc2 := 5 * fu + 5) (ks2 := 30 * fu + 30) (by omega) (by omega) ?_
        refine ky_sub [0, 1, 2, 3, 4] (lv' := [(0, ky_r G 15), (1, ky_r G 0), (2, ky_r G 7), (3, ky_r G 16), (4, .int x4)]) rfl ?_
        exact tL_law_L1590 (kq := 5 * fu) (sq := 30 * fu) hL d ih x4 σ _ _ hf
      have hf := ky_neg c424 hf
      by_cases c441 : v3 = (25 : Int32)
      · have hf := ky_pos c441 hf
        refine ky_tsIn (off := 1607) (tgt := 1646) dL_law_39 (by rw [c441]; decide) (by rw [c441]; decide) (by rw [c441]; rfl) rfl ?_
        refine ky_bud (kc2 := 5 * fu + 5) (ks2 := 30 * fu + 30) (by omega) (by omega) ?_
        refine ky_sub [0, 1, 2, 3, 4] (lv' := [(0, ky_r G 15), (1, ky_r G 0), (2, ky_r G 7), (3, ky_r G 16), (4, .int x4)]) rfl ?_
        exact tL_law_L1646 (kq := 5 * fu) (sq := 30 * fu) hL d ih x4 σ _ _ hf
      have hf := ky_neg c441 hf
      by_cases c450 : v3 = (26 : Int32)
      · have hf := ky_pos c450 hf
        refine ky_tsIn (off := 1620) (tgt := 1659) dL_law_39 (by rw [c450]; decide) (by rw [c450]; decide) (by rw [c450]; rfl) rfl ?_
        refine ky_bud (kc2 := 5 * fu + 5) (ks2 := 30 * fu + 30) (by omega) (by omega) ?_
        refine ky_sub [0, 1, 2, 3, 4] (lv' := [(0, ky_r G 15), (1, ky_r G 0), (2, ky_r G 7), (3, ky_r G 16), (4, .int x4)]) rfl ?_
        exact tL_law_L1659 (kq := 5 * fu) (sq := 30 * fu) hL d ih x4 σ _ _ hf
      have hf := ky_neg c450 hf
      by_cases c462 : v3 = (27 : Int32)
      · have hf := ky_pos c462 hf
        refine ky_tsIn (off := 1661) (tgt := 1700) dL_law_39 (by rw [c462]; decide) (by rw [c462]; decide) (by rw [c462]; rfl) rfl ?_
        refine ky_bud (kc2 := 5 * fu + 5) (ks2 := 30 * fu + 30) (by omega) (by omega) ?_
        refine ky_sub [0, 1, 2, 3, 4] (lv' := [(0, ky_r G 15), (1, ky_r G 0), (2, ky_r G 7), (3, ky_r G 16), (4, .int x4)]) rfl ?_
        exact tL_law_L1700 (kq := 5 * fu) (sq := 30 * fu) hL d ih x4 σ _ _ hf
      have hf := ky_neg c462 hf
      have zc4 : v3.toInt ≠ 0 := ky_swn c4
      have zc21 : v3.toInt ≠ 1 := ky_swn c21
      have zc40 : v3.toInt ≠ 2 := ky_swn c40
      have zc57 : v3.toInt ≠ 3 := ky_swn c57
      have zc78 : v3.toInt ≠ 4 := ky_swn c78
      have zc97 : v3.toInt ≠ 5 := ky_swn c97
      have zc116 : v3.toInt ≠ 6 := ky_swn c116
      have zc135 : v3.toInt ≠ 7 := ky_swn c135
      have zc152 : v3.toInt ≠ 8 := ky_swn c152
      have zc173 : v3.toInt ≠ 9 := ky_swn c173
      have zc192 : v3.toInt ≠ 10 := ky_swn c192
      have zc209 : v3.toInt ≠ 11 := ky_swn c209
      have zc228 : v3.toInt ≠ 12 := ky_swn c228
      have zc245 : v3.toInt ≠ 13 := ky_swn c245
      have zc254 : v3.toInt ≠ 14 := ky_swn c254
      have zc263 : v3.toInt ≠ 15 := ky_swn c263
      have zc278 : v3.toInt ≠ 16 := ky_swn c278
      have zc293 : v3.toInt ≠ 17 := ky_swn c293
      have zc312 : v3.toInt ≠ 18 := ky_swn c312
      have zc331 : v3.toInt ≠ 19 := ky_swn c331
      have zc350 : v3.toInt ≠ 20 := ky_swn c350
      have zc367 : v3.toInt ≠ 21 := ky_swn c367
      have zc384 : v3.toInt ≠ 22 := ky_swn c384
      have zc403 : v3.toInt ≠ 23 := ky_swn c403
      have zc424 : v3.toInt ≠ 24 := ky_swn c424
      have zc441 : v3.toInt ≠ 25 := ky_swn c441
      have zc450 : v3.toInt ≠ 26 := ky_swn c450
      have zc462 : v3.toInt ≠ 27 := ky_swn c462
      refine ky_tsOut (tgt := 1714) dL_law_39 (by omega) rfl ?_
      refine ky_iincB (c := (4 : Int32)) (n := 1717) dL_law_1714 rfl 4 rfl rfl (Nat.le_of_ble_eq_true rfl) (fun v471 ev471 => ?_)
      have hf := ky_bn_e hf v471 ev471
      refine ky_lv (lv' := [(4, .int v471), (0, ky_r G 15), (1, ky_r G 0), (2, ky_r G 7), (3, ky_r G 16)]) rfl ?_
      refine ky_goto (tgt := 23) dL_law_1717 rfl ?_
      refine ky_bud (kc2 := 5 * fu) (ks2 := 30 * fu) (by omega) (by omega) ?_
      refine ky_sub [1, 2, 3, 4, 0] (lv' := [(0, ky_r G 15), (1, ky_r G 0), (2, ky_r G 7), (3, ky_r G 16), (4, .int v471)]) rfl ?_
      exact ih v471 σ _ _ hf
