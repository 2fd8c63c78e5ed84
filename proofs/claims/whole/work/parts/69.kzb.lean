/-! ===== the constructors: Books ===== -/
section KZbooks
variable {G : kz_G} {w : kz_W} {z h0 : Nat}
/-- a book under way: k rows made -/
def bkS (G : kz_G) (w : kz_W) (h0 z k : Nat) (fs : List Value) (ar : Nat → Nat → Int32) : kz_W := fun b => if b = h0 then some (.inr (0, fs)) else if b < z then w b else if b < z + k then some (.inl (G.2.2.2.1, pLn (b - z + 1), .inl (ar (b - z + 1)))) else w b
theorem bkS_0 {fs : List Value} {ar : Nat → Nat → Int32} (h : w h0 = some (.inr (0, fs))) : w = bkS G w h0 z 0 fs ar := by
  funext b
  unfold bkS
  by_cases h1 : b = h0
  · rw [if_pos h1, h1, h]
  · rw [if_neg h1]
    by_cases h2 : b < z
    · rw [if_pos h2]
    · rw [if_neg h2, if_neg (by omega)]
theorem bkS_h {k : Nat} {fs : List Value} {ar : Nat → Nat → Int32} : bkS G w h0 z k fs ar h0 = some (.inr (0, fs)) := if_pos rfl
theorem bkS_r {k r : Nat} {fs : List Value} {ar : Nat → Nat → Int32} (hz : h0 < z) (hr : r < k) : bkS G w h0 z k fs ar (z + r) = some (.inl (G.2.2.2.1, pLn (r + 1), .inl (ar (r + 1)))) := by
  unfold bkS
  rw [if_neg (by omega), if_neg (by omega), if_pos (by omega), Nat.add_sub_cancel_left]
theorem bkS_s {k N : Nat} {fs fs' : List Value} {ar : Nat → Nat → Int32} {f : Nat → Int32} (hz : h0 < z) (hN : pLn (k + 1) = N) (hf : ar (k + 1) = f) : kz_u (kz_u (bkS G w h0 z k fs ar) (z + k) (.inl (G.2.2.2.1, N, .inl f))) h0 (.inr (0, fs')) = bkS G w h0 z (k + 1) fs' ar := by
  subst hN
  subst hf
  funext b
  unfold kz_u bkS
  by_cases h1 : b = h0
  · rw [if_pos h1, if_pos h1]
  · rw [if_neg h1, if_neg h1, if_neg h1]
    by_cases h2 : b = z + k
    · rw [if_pos h2, if_neg (show ¬ b < z by omega), if_pos (show b < z + (k + 1) by omega), h2, Nat.add_sub_cancel_left]
    · rw [if_neg h2]
      by_cases h3 : b < z
      · rw [if_pos h3, if_pos h3]
      · rw [if_neg h3, if_neg h3]
        by_cases h4 : b < z + k
        · rw [if_pos h4, if_pos (by omega)]
        · rw [if_neg h4, if_neg (by omega)]
theorem bkS_f {k r N : Nat} {fs : List Value} {ar : Nat → Nat → Int32} {x : Int32} {M : Nat} (hz : h0 < z) (hr : r < k) (hN : pLn (r + 1) = N) : fiW G (bkS G w h0 z k fs ar) (z + r) N (ar (r + 1)) x M = bkS G w h0 z k fs (fun a => if a = r + 1 then (fun j => if j < M then x else ar (r + 1) j) else ar a) := by
  subst hN
  funext b
  unfold fiW kz_u bkS
  dsimp only
  by_cases h2 : b = z + r
  · rw [if_pos h2, if_neg (show ¬ b = h0 by omega), if_neg (show ¬ b < z by omega), if_pos (show b < z + k by omega), h2, Nat.add_sub_cancel_left, if_pos rfl]
  · rw [if_neg h2]
    by_cases h1 : b = h0
    · rw [if_pos h1, if_pos h1]
    · rw [if_neg h1, if_neg h1]
      by_cases h3 : b < z
      · rw [if_pos h3, if_pos h3]
      · rw [if_neg h3, if_neg h3]
        by_cases h4 : b < z + k
        · rw [if_pos h4, if_pos h4, if_neg (show ¬ b - z + 1 = r + 1 by omega)]
        · rw [if_neg h4, if_neg h4]
theorem kz_uu {a : Nat} {e1 e2 : va_E} : kz_u (kz_u w a e1) a e2 = kz_u w a e2 := by
  funext b
  unfold kz_u
  by_cases h : b = a
  · rw [if_pos h, if_pos h]
  · rw [if_neg h, if_neg h, if_neg h]
/-- the rows of a new book -/
def bkA0 : Nat → Nat → Int32 := fun r => if r = 1 then upd (upd (fun _ => 0) 0 14) 1 3 else fun _ => 0
def bkA : Nat → Nat → Int32 := fun r => if r = 5 then (fun j => if j < 72 then -1 else bkA0 5 j) else if r = 2 then (fun j => if j < 24 then -1 else bkA0 2 j) else bkA0 r
def bkZ : List Value := [.int 0, .int 0, .int 0, .int 0, .int 0, .null, .null, .null, .null, .null, .null, .null, .null, .null, .null, .null, .null]
def bkF (z : Nat) : List Value := [.int 0, .int 0, .int 0, .int 0, .int 0, .ref (z + 0), .ref (z + 1), .ref (z + 2), .ref (z + 3), .ref (z + 4), .ref (z + 5), .ref (z + 6), .ref (z + 7), .ref (z + 8), .ref (z + 9), .ref (z + 10), .ref (z + 11)]
/-- the fields when k rows are made -/
def bkFk (z k : Nat) : List Value := (List.range 17).map (fun i => if i < 5 then .int 0 else if i < 5 + k then .ref (z + (i - 5)) else .null)
theorem kz_books (d : Nat) (hz : h0 < z) (hA : G.2.1 ≤ h0) (h : w h0 = some (.inr (0, bkZ))) : kz_K G mX0_init (d + 1) 12 274 [.ref h0] w z (bkS G w h0 z 12 (bkF z) bkA) (z + 12) := by
  refine kz_enter rfl (by decide +kernel) (Nat.le_of_ble_eq_true rfl) (lv := [(0, .ref h0)]) rfl ?_
  refine kz_aload_n (n := 1) dX0_init_0 rfl rfl 0 rfl ?_
  refine kz_obj (n := 4) dX0_init_1 rfl kz_o0 (by decide) ?_
  refine kz_w (bkS_0 (G := G) (z := z) (ar := bkA0) h) ?_
  refine kz_aload_n (n := 5) dX0_init_4 rfl rfl 0 rfl ?_
  refine kz_iconst (v := (2 : Int32)) (n := 6) dX0_init_5 rfl rfl ?_
  refine kz_newi (kc := 11) (ks := 272) (N := 2) (n := 8) dX0_init_6 rfl (by decide) (by decide) (by decide) ?_
  refine kz_dup (n := 9) dX0_init_8 rfl rfl ?_
  refine kz_iconst (v := (0 : Int32)) (n := 10) dX0_init_9 rfl rfl ?_
  refine kz_bipush (v := (14 : Int32)) (n := 12) dX0_init_10 rfl rfl ?_
  refine kz_iast (n := 13) dX0_init_12 rfl kz_u_s (by unfold vp_in; decide) (by omega) ?_
  refine kz_dup (n := 14) dX0_init_13 rfl rfl ?_
  refine kz_iconst (v := (1 : Int32)) (n := 15) dX0_init_14 rfl rfl ?_
  refine kz_iconst (v := (3 : Int32)) (n := 16) dX0_init_15 rfl rfl ?_
  refine kz_iast (n := 17) dX0_init_16 rfl kz_u_s (by unfold vp_in; decide) (by omega) ?_
  refine kz_w (kz_uu.trans kz_uu) ?_
  refine kz_putF (k := 5) (q := (RX0, TX0, 17)) (ty := .array .int) (n := 20) dX0_init_17 rfl ((kz_u_n (show h0 ≠ z + 0 by omega)).trans bkS_h) rfl (Nat.le_of_ble_eq_true rfl) wg_X0_9 rfl rfl rfl (by decide +kernel) rfl rfl (show 5 < 17 by decide) hA ?_
  refine kz_w (show _ = bkS G w h0 z 1 (bkFk z 1) bkA0 from bkS_s hz rfl rfl) ?_
  refine kz_aload_n (n := 21) dX0_init_20 rfl rfl 0 rfl ?_
  refine kz_bipush (v := (24 : Int32)) (n := 23) dX0_init_21 rfl rfl ?_
  refine kz_newi (kc := 10) (ks := 248) (N := 24) (n := 25) dX0_init_23 rfl (by decide) (by decide) (by decide) ?_
  refine kz_putF (k := 6) (q := (RX0, TX0, 17)) (ty := .array .int) (n := 28) dX0_init_25 rfl ((kz_u_n (show h0 ≠ z + 1 by omega)).trans bkS_h) rfl (Nat.le_of_ble_eq_true rfl) wg_X0_15 rfl rfl rfl (by decide +kernel) rfl rfl (show 6 < 17 by decide) hA ?_
  refine kz_w (show _ = bkS G w h0 z 2 (bkFk z 2) bkA0 from bkS_s hz rfl rfl) ?_
  refine kz_aload_n (n := 29) dX0_init_28 rfl rfl 0 rfl ?_
  refine kz_bipush (v := (24 : Int32)) (n := 31) dX0_init_29 rfl rfl ?_
  refine kz_newi (kc := 9) (ks := 224) (N := 24) (n := 33) dX0_init_31 rfl (by decide) (by decide) (by decide) ?_
  refine kz_putF (k := 7) (q := (RX0, TX0, 17)) (ty := .array .int) (n := 36) dX0_init_33 rfl ((kz_u_n (show h0 ≠ z + 2 by omega)).trans bkS_h) rfl (Nat.le_of_ble_eq_true rfl) wg_X0_18 rfl rfl rfl (by decide +kernel) rfl rfl (show 7 < 17 by decide) hA ?_
  refine kz_w (show _ = bkS G w h0 z 3 (bkFk z 3) bkA0 from bkS_s hz rfl rfl) ?_
  refine kz_aload_n (n := 37) dX0_init_36 rfl rfl 0 rfl ?_
  refine kz_bipush (v := (24 : Int32)) (n := 39) dX0_init_37 rfl rfl ?_
  refine kz_newi (kc := 8) (ks := 200) (N := 24) (n := 41) dX0_init_39 rfl (by decide) (by decide) (by decide) ?_
  refine kz_putF (k := 8) (q := (RX0, TX0, 17)) (ty := .array .int) (n := 44) dX0_init_41 rfl ((kz_u_n (show h0 ≠ z + 3 by omega)).trans bkS_h) rfl (Nat.le_of_ble_eq_true rfl) wg_X0_21 rfl rfl rfl (by decide +kernel) rfl rfl (show 8 < 17 by decide) hA ?_
  refine kz_w (show _ = bkS G w h0 z 4 (bkFk z 4) bkA0 from bkS_s hz rfl rfl) ?_
  refine kz_aload_n (n := 45) dX0_init_44 rfl rfl 0 rfl ?_
  refine kz_bipush (v := (72 : Int32)) (n := 47) dX0_init_45 rfl rfl ?_
  refine kz_newi (kc := 7) (ks := 128) (N := 72) (n := 49) dX0_init_47 rfl (by decide) (by decide) (by decide) ?_
  refine kz_putF (k := 9) (q := (RX0, TX0, 17)) (ty := .array .int) (n := 52) dX0_init_49 rfl ((kz_u_n (show h0 ≠ z + 4 by omega)).trans bkS_h) rfl (Nat.le_of_ble_eq_true rfl) wg_X0_24 rfl rfl rfl (by decide +kernel) rfl rfl (show 9 < 17 by decide) hA ?_
  refine kz_w (show _ = bkS G w h0 z 5 (bkFk z 5) bkA0 from bkS_s hz rfl rfl) ?_
  refine kz_aload_n (n := 53) dX0_init_52 rfl rfl 0 rfl ?_
  refine kz_bipush (v := (96 : Int32)) (n := 55) dX0_init_53 rfl rfl ?_
  refine kz_newi (kc := 6) (ks := 32) (N := 96) (n := 57) dX0_init_55 rfl (by decide) (by decide) (by decide) ?_
  refine kz_putF (k := 10) (q := (RX0, TX0, 17)) (ty := .array .int) (n := 60) dX0_init_57 rfl ((kz_u_n (show h0 ≠ z + 5 by omega)).trans bkS_h) rfl (Nat.le_of_ble_eq_true rfl) wg_X0_27 rfl rfl rfl (by decide +kernel) rfl rfl (show 10 < 17 by decide) hA ?_
  refine kz_w (show _ = bkS G w h0 z 6 (bkFk z 6) bkA0 from bkS_s hz rfl rfl) ?_
  refine kz_aload_n (n := 61) dX0_init_60 rfl rfl 0 rfl ?_
  refine kz_iconst (v := (4 : Int32)) (n := 62) dX0_init_61 rfl rfl ?_
  refine kz_newi (kc := 5) (ks := 28) (N := 4) (n := 64) dX0_init_62 rfl (by decide) (by decide) (by decide) ?_
  refine kz_putF (k := 11) (q := (RX0, TX0, 17)) (ty := .array .int) (n := 67) dX0_init_64 rfl ((kz_u_n (show h0 ≠ z + 6 by omega)).trans bkS_h) rfl (Nat.le_of_ble_eq_true rfl) wg_X0_30 rfl rfl rfl (by decide +kernel) rfl rfl (show 11 < 17 by decide) hA ?_
  refine kz_w (show _ = bkS G w h0 z 7 (bkFk z 7) bkA0 from bkS_s hz rfl rfl) ?_
  refine kz_aload_n (n := 68) dX0_init_67 rfl rfl 0 rfl ?_
  refine kz_iconst (v := (4 : Int32)) (n := 69) dX0_init_68 rfl rfl ?_
  refine kz_newi (kc := 4) (ks := 24) (N := 4) (n := 71) dX0_init_69 rfl (by decide) (by decide) (by decide) ?_
  refine kz_putF (k := 12) (q := (RX0, TX0, 17)) (ty := .array .int) (n := 74) dX0_init_71 rfl ((kz_u_n (show h0 ≠ z + 7 by omega)).trans bkS_h) rfl (Nat.le_of_ble_eq_true rfl) wg_X0_33 rfl rfl rfl (by decide +kernel) rfl rfl (show 12 < 17 by decide) hA ?_
  refine kz_w (show _ = bkS G w h0 z 8 (bkFk z 8) bkA0 from bkS_s hz rfl rfl) ?_
  refine kz_aload_n (n := 75) dX0_init_74 rfl rfl 0 rfl ?_
  refine kz_bipush (v := (6 : Int32)) (n := 77) dX0_init_75 rfl rfl ?_
  refine kz_newi (kc := 3) (ks := 18) (N := 6) (n := 79) dX0_init_77 rfl (by decide) (by decide) (by decide) ?_
  refine kz_putF (k := 13) (q := (RX0, TX0, 17)) (ty := .array .int) (n := 82) dX0_init_79 rfl ((kz_u_n (show h0 ≠ z + 8 by omega)).trans bkS_h) rfl (Nat.le_of_ble_eq_true rfl) wg_X0_36 rfl rfl rfl (by decide +kernel) rfl rfl (show 13 < 17 by decide) hA ?_
  refine kz_w (show _ = bkS G w h0 z 9 (bkFk z 9) bkA0 from bkS_s hz rfl rfl) ?_
  refine kz_aload_n (n := 83) dX0_init_82 rfl rfl 0 rfl ?_
  refine kz_bipush (v := (6 : Int32)) (n := 85) dX0_init_83 rfl rfl ?_
  refine kz_newi (kc := 2) (ks := 12) (N := 6) (n := 87) dX0_init_85 rfl (by decide) (by decide) (by decide) ?_
  refine kz_putF (k := 14) (q := (RX0, TX0, 17)) (ty := .array .int) (n := 90) dX0_init_87 rfl ((kz_u_n (show h0 ≠ z + 9 by omega)).trans bkS_h) rfl (Nat.le_of_ble_eq_true rfl) wg_X0_39 rfl rfl rfl (by decide +kernel) rfl rfl (show 14 < 17 by decide) hA ?_
  refine kz_w (show _ = bkS G w h0 z 10 (bkFk z 10) bkA0 from bkS_s hz rfl rfl) ?_
  refine kz_aload_n (n := 91) dX0_init_90 rfl rfl 0 rfl ?_
  refine kz_bipush (v := (6 : Int32)) (n := 93) dX0_init_91 rfl rfl ?_
  refine kz_newi (kc := 1) (ks := 6) (N := 6) (n := 95) dX0_init_93 rfl (by decide) (by decide) (by decide) ?_
  refine kz_putF (k := 15) (q := (RX0, TX0, 17)) (ty := .array .int) (n := 98) dX0_init_95 rfl ((kz_u_n (show h0 ≠ z + 10 by omega)).trans bkS_h) rfl (Nat.le_of_ble_eq_true rfl) wg_X0_42 rfl rfl rfl (by decide +kernel) rfl rfl (show 15 < 17 by decide) hA ?_
  refine kz_w (show _ = bkS G w h0 z 11 (bkFk z 11) bkA0 from bkS_s hz rfl rfl) ?_
  refine kz_aload_n (n := 99) dX0_init_98 rfl rfl 0 rfl ?_
  refine kz_bipush (v := (6 : Int32)) (n := 101) dX0_init_99 rfl rfl ?_
  refine kz_newi (kc := 0) (ks := 0) (N := 6) (n := 103) dX0_init_101 rfl (by decide) (by decide) (by decide) ?_
  refine kz_putF (k := 16) (q := (RX0, TX0, 17)) (ty := .array .int) (n := 106) dX0_init_103 rfl ((kz_u_n (show h0 ≠ z + 11 by omega)).trans bkS_h) rfl (Nat.le_of_ble_eq_true rfl) wg_X0_45 rfl rfl rfl (by decide +kernel) rfl rfl (show 16 < 17 by decide) hA ?_
  refine kz_w (show _ = bkS G w h0 z 12 (bkFk z 12) bkA0 from bkS_s hz rfl rfl) ?_
  refine kz_w (show bkS G w h0 z 12 (bkFk z 12) bkA0 = bkS G w h0 z 12 (bkF z) bkA0 from rfl) ?_
  refine kz_aload_n (n := 107) dX0_init_106 rfl rfl 0 rfl ?_
  refine kz_getf (k := 6) (q := (RX0, TX0, 17)) (v := .ref (z + 1)) (n := 110) dX0_init_107 rfl bkS_h rfl (Nat.le_of_ble_eq_true rfl) wg_X0_15 rfl ?_
  refine kz_iconst (v := (-1 : Int32)) (n := 111) dX0_init_110 rfl rfl ?_
  refine kz_callS (kc := 0) (ks := 0) (kc2 := 0) (ks2 := 0) (as := [.ref (z + 1), .int (-1)]) (st := []) (n := 114) (kz_fill (N := 24) d (by decide) (by omega) (bkS_r hz (by decide))) kz_okf kz_m0f rfl rfl (by decide) dX0_init_111 rfl (by omega) ?_
  refine kz_w (bkS_f (N := 24) (ar := bkA0) hz (by decide) rfl) ?_
  refine kz_aload_n (n := 115) dX0_init_114 rfl rfl 0 rfl ?_
  refine kz_getf (k := 9) (q := (RX0, TX0, 17)) (v := .ref (z + 4)) (n := 118) dX0_init_115 rfl bkS_h rfl (Nat.le_of_ble_eq_true rfl) wg_X0_24 rfl ?_
  refine kz_iconst (v := (-1 : Int32)) (n := 119) dX0_init_118 rfl rfl ?_
  refine kz_callS (kc := 0) (ks := 0) (kc2 := 0) (ks2 := 0) (as := [.ref (z + 4), .int (-1)]) (st := []) (n := 122) (kz_fill (N := 72) d (by decide) (by omega) (bkS_r hz (by decide))) kz_okf kz_m0f rfl rfl (by decide) dX0_init_119 rfl (by omega) ?_
  refine kz_w (bkS_f (N := 72) (ar := (fun a => if a = 1 + 1 then (fun j => if j < 24 then -1 else bkA0 (1 + 1) j) else bkA0 a)) hz (by decide) rfl) ?_
  refine kz_w (show _ = bkS G w h0 z 12 (bkF z) bkA from ?_) (kz_ret dX0_init_122 rfl)
  congr 1
end KZbooks
