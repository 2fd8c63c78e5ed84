/-! ===== the constructors: words, and Arrays.fill ===== -/
def mX0_init : ky_Md := (yX0_init, cX0_init, 1, none, [])
def mX1_init : ky_Md := (yX1_init, cX1_init, 2, none, [])
def mX2_init : ky_Md := (yX2_init, cX2_init, 1, none, [])
def mX3_init : ky_Md := (yX3_init, cX3_init, 1, none, [])
def mX4_init : ky_Md := (yX4_init, cX4_init, 1, none, [])
def mJ7_fill : ky_Md := (yJ7_fill_53178, cJ7_fill_53178, 4, none, [])
theorem kz_o0 : Cond.methodLink RX0 3 objectInit ∈ ky_ws := ky_in 92 (by decide +kernel) (by decide +kernel)
theorem kz_o1 : Cond.methodLink RX1 3 objectInit ∈ ky_ws := ky_in 159 (by decide +kernel) (by decide +kernel)
theorem kz_o2 : Cond.methodLink RX2 3 objectInit ∈ ky_ws := ky_in 179 (by decide +kernel) (by decide +kernel)
theorem kz_o3 : Cond.methodLink RX3 1 objectInit ∈ ky_ws := ky_in 84 (by decide +kernel) (by decide +kernel)
theorem kz_o4 : Cond.methodLink RX4 1 objectInit ∈ ky_ws := ky_in 901 (by decide +kernel) (by decide +kernel)
theorem kz_cl10 : Cond.classLink RX1 9 RX0 ∈ ky_ws := ky_in 160 (by decide +kernel) (by decide +kernel)
theorem kz_cl30 : Cond.classLink RX3 7 RX0 ∈ ky_ws := ky_in 87 (by decide +kernel) (by decide +kernel)
theorem kz_cl31 : Cond.classLink RX3 16 RX1 ∈ ky_ws := ky_in 154 (by decide +kernel) (by decide +kernel)
theorem kz_cl32 : Cond.classLink RX3 23 RX2 ∈ ky_ws := ky_in 174 (by decide +kernel) (by decide +kernel)
theorem kz_clL3 : Cond.classLink RL 8 RX3 ∈ ky_ws := ky_in 79 (by decide +kernel) (by decide +kernel)
theorem kz_clL4 : Cond.classLink RL 89 RX4 ∈ ky_ws := ky_in 896 (by decide +kernel) (by decide +kernel)
theorem kz_n0 : Cond.instantiable RX0 17 ∈ ky_ws := ky_in 88 (by decide +kernel) (by decide +kernel)
theorem kz_n1 : Cond.instantiable RX1 3 ∈ ky_ws := ky_in 155 (by decide +kernel) (by decide +kernel)
theorem kz_n2 : Cond.instantiable RX2 6 ∈ ky_ws := ky_in 175 (by decide +kernel) (by decide +kernel)
theorem kz_n3 : Cond.instantiable RX3 4 ∈ ky_ws := ky_in 80 (by decide +kernel) (by decide +kernel)
theorem kz_n4 : Cond.instantiable RX4 12 ∈ ky_ws := ky_in 897 (by decide +kernel) (by decide +kernel)
theorem kz_m10 : Cond.methodLink RX1 17 yX0_init ∈ ky_ws := ky_in 162 (by decide +kernel) (by decide +kernel)
theorem kz_m30 : Cond.methodLink RX3 9 yX0_init ∈ ky_ws := ky_in 89 (by decide +kernel) (by decide +kernel)
theorem kz_m31 : Cond.methodLink RX3 18 yX1_init ∈ ky_ws := ky_in 156 (by decide +kernel) (by decide +kernel)
theorem kz_mL3 : Cond.methodLink RL 88 yX3_init ∈ ky_ws := ky_in 81 (by decide +kernel) (by decide +kernel)
theorem kz_mL4 : Cond.methodLink RL 91 yX4_init ∈ ky_ws := ky_in 898 (by decide +kernel) (by decide +kernel)
theorem kz_m0f : Cond.methodLink RX0 48 yJ7_fill_53178 ∈ ky_ws := ky_in 93 (by decide +kernel) (by decide +kernel)
theorem kz_ok0 : kz_okI mX0_init := ⟨⟨⟨rfl, by decide +kernel, ky_in 91 (by decide +kernel) (by decide +kernel), ky_in 64 (by decide +kernel) (by decide +kernel)⟩, ⟨by decide +kernel, by decide +kernel⟩, by decide +kernel, by decide⟩, ky_in 90 (by decide +kernel) (by decide +kernel), rfl⟩
theorem kz_ok1 : kz_okI mX1_init := ⟨⟨⟨rfl, by decide +kernel, ky_in 158 (by decide +kernel) (by decide +kernel), ky_in 66 (by decide +kernel) (by decide +kernel)⟩, ⟨by decide +kernel, by decide +kernel⟩, by decide +kernel, by decide⟩, ky_in 157 (by decide +kernel) (by decide +kernel), rfl⟩
theorem kz_ok2 : kz_okI mX2_init := ⟨⟨⟨rfl, by decide +kernel, ky_in 178 (by decide +kernel) (by decide +kernel), ky_in 67 (by decide +kernel) (by decide +kernel)⟩, ⟨by decide +kernel, by decide +kernel⟩, by decide +kernel, by decide⟩, ky_in 177 (by decide +kernel) (by decide +kernel), rfl⟩
theorem kz_ok3 : kz_okI mX3_init := ⟨⟨⟨rfl, by decide +kernel, ky_in 83 (by decide +kernel) (by decide +kernel), ky_in 63 (by decide +kernel) (by decide +kernel)⟩, ⟨by decide +kernel, by decide +kernel⟩, by decide +kernel, by decide⟩, ky_in 82 (by decide +kernel) (by decide +kernel), rfl⟩
theorem kz_ok4 : kz_okI mX4_init := ⟨⟨⟨rfl, by decide +kernel, ky_in 900 (by decide +kernel) (by decide +kernel), ky_in 68 (by decide +kernel) (by decide +kernel)⟩, ⟨by decide +kernel, by decide +kernel⟩, by decide +kernel, by decide⟩, ky_in 899 (by decide +kernel) (by decide +kernel), rfl⟩
theorem kz_okf : ky_okS mJ7_fill 2 := ⟨⟨⟨rfl, by decide +kernel, ky_in 95 (by decide +kernel) (by decide +kernel), ky_in 65 (by decide +kernel) (by decide +kernel)⟩, ⟨by decide +kernel, by decide +kernel⟩, by decide +kernel, by decide⟩, ky_in 94 (by decide +kernel) (by decide +kernel)⟩
section KZfill
variable {G : kz_G} {w : kz_W} {z a N : Nat} {f : Nat → Int32} {x : Int32}
def fiW (G : kz_G) (w : kz_W) (a N : Nat) (f : Nat → Int32) (x : Int32) (i : Nat) : kz_W := kz_u w a (.inl (G.2.2.2.1, N, .inl (fun j => if j < i then x else f j)))
theorem fill_L (d : Nat) (hN : N < 2 ^ 31) (hA : G.2.1 ≤ a) : ∀ (m i : Nat), i + m = N → kz_T G mJ7_fill d 0 0 5 [(3, .int (nI N)), (2, .int (nI i)), (0, .ref a), (1, .int x)] [] (fiW G w a N f x i) z (kz_F G (fiW G w a N f x N) z) := by
  intro m
  induction m with
  | zero =>
    intro i hi
    have : i = N := by omega
    subst this
    refine kz_iload_n (n := 6) dJ7_fill_53178_5 rfl rfl 1 rfl ?_
    refine kz_iload_n (n := 7) dJ7_fill_53178_6 rfl rfl 0 rfl ?_
    refine kz_icmp_ge (n := 10) (tgt := 20) dJ7_fill_53178_7 rfl rfl (fun _ => kz_ret dJ7_fill_53178_20 rfl) (fun h => absurd (nI_le (Nat.le_refl _) hN) h)
  | succ m ih =>
    intro i hi
    refine kz_iload_n (n := 6) dJ7_fill_53178_5 rfl rfl 1 rfl ?_
    refine kz_iload_n (n := 7) dJ7_fill_53178_6 rfl rfl 0 rfl ?_
    refine kz_icmp_ge (n := 10) (tgt := 20) dJ7_fill_53178_7 rfl rfl (fun h => absurd h (nI_ge (by omega) hN)) (fun _ => ?_)
    refine kz_aload_n (n := 11) dJ7_fill_53178_10 rfl rfl 2 rfl ?_
    refine kz_iload_n (n := 12) dJ7_fill_53178_11 rfl rfl 1 rfl ?_
    refine kz_iload_n (n := 13) dJ7_fill_53178_12 rfl rfl 3 rfl ?_
    refine kz_iast (n := 14) dJ7_fill_53178_13 rfl (show fiW G w a N f x i a = _ from kz_u_s) (nI_in (show i < N by omega) hN) hA ?_
    refine kz_iinc (n := 17) (v := nI (i + 1)) (lv' := [(2, .int (nI (i + 1))), (3, .int (nI N)), (0, .ref a), (1, .int x)]) dJ7_fill_53178_14 rfl 1 rfl (nI_1 i) (by decide) rfl ?_
    refine kz_goto (tgt := 5) dJ7_fill_53178_17 rfl ?_
    refine kz_sub (lv' := [(3, .int (nI N)), (2, .int (nI (i + 1))), (0, .ref a), (1, .int x)]) [1, 0, 2, 3] rfl ?_
    refine kz_w ?_ (ih (i + 1) (by omega))
    funext b
    unfold fiW kz_u
    by_cases hb : b = a
    · rw [if_pos hb, if_pos hb, nI_clamp (by omega)]
      congr 4
      refine congrArg Sum.inl (funext fun j => ?_)
      show (if j = i then x else if j < i then x else f j) = if j < i + 1 then x else f j
      by_cases h1 : j = i
      · rw [if_pos h1, if_pos (by omega)]
      · rw [if_neg h1]
        by_cases h2 : j < i
        · rw [if_pos h2, if_pos (by omega)]
        · rw [if_neg h2, if_neg (by omega)]
    · rw [if_neg hb, if_neg hb, if_neg hb]
theorem kz_fill (d : Nat) (hN : N < 2 ^ 31) (hA : G.2.1 ≤ a) (ha : w a = some (.inl (G.2.2.2.1, N, .inl f))) : kz_K G mJ7_fill d 0 0 [.ref a, .int x] w z (fiW G w a N f x N) z := by
  refine kz_enter rfl (by decide +kernel) (Nat.le_of_ble_eq_true rfl) (lv := [(0, .ref a), (1, .int x)]) rfl ?_
  refine kz_iconst (v := 0) (n := 1) dJ7_fill_53178_0 rfl rfl ?_
  refine kz_istore_n (lv' := [(2, .int 0), (0, .ref a), (1, .int x)]) (n := 2) dJ7_fill_53178_1 rfl rfl (by decide) rfl ?_
  refine kz_aload_n (n := 3) dJ7_fill_53178_2 rfl rfl 1 rfl ?_
  refine kz_alen (n := 4) dJ7_fill_53178_3 rfl ha ?_
  refine kz_istore_n (lv' := [(3, .int (nI N)), (2, .int 0), (0, .ref a), (1, .int x)]) (n := 5) dJ7_fill_53178_4 rfl rfl (by decide) rfl ?_
  refine kz_w ?_ (fill_L d hN hA N 0 (by omega))
  funext b
  unfold fiW kz_u
  by_cases hb : b = a
  · rw [if_pos hb, hb, ha]
    rfl
  · rw [if_neg hb]
end KZfill
