/-! small laws for contracts: numbers in range, places of arrays -/
section PA
theorem w32_id {x : Int} (h : -2147483648 ≤ x ∧ x ≤ 2147483647) : w32 x = x := by
  unfold w32
  omega
theorem w64_id {x : Int} (h : -9223372036854775808 ≤ x ∧ x ≤ 9223372036854775807) : w64 x = x := by
  unfold w64
  omega
theorem w32_rng (x : Int) : -2147483648 ≤ w32 x ∧ w32 x ≤ 2147483647 := by
  unfold w32
  omega
theorem tdiv_nn {a b : Int} (h : 0 ≤ a) : Int.tdiv a b = a / b := Int.tdiv_eq_ediv_of_nonneg h
theorem tmod_nn {a b : Int} (h : 0 ≤ a) : Int.tmod a b = a % b := Int.tmod_eq_emod_of_nonneg h
theorem pk_n : pm_k1 none = none := rfl
theorem pk_i (x : Int) : pm_k1 (some (.inl x)) = some (.inl x) := rfl
theorem pk_r (x : Option Nat) : pm_k1 (some (.inr (.inr x))) = some (.inr (.inr x)) := rfl
theorem pk_l (x : Int) : pm_k1 (some (.inr (.inl x))) = none := rfl
theorem pm_ia_of {q n : Nat} {w : Bool} (h : pm_arr 0 q = some (.int, n, w)) (i : Int) : pm_ia q i = (0 ≤ i ∧ i < (n : Int)) := by
  unfold pm_ia
  rw [h]
  simp
theorem pm_iw_of {q n : Nat} (h : pm_arr 0 q = some (.int, n, true)) (i : Int) : pm_iw q i = (0 ≤ i ∧ i < (n : Int)) := by
  unfold pm_iw
  rw [h]
  simp
theorem pm_la_of {q n : Nat} {w : Bool} (h : pm_arr 0 q = some (.long, n, w)) (i : Int) : pm_la q i = (0 ≤ i ∧ i < (n : Int)) := by
  unfold pm_la
  rw [h]
  simp
theorem pm_lw_of {q n : Nat} (h : pm_arr 0 q = some (.long, n, true)) (i : Int) : pm_lw q i = (0 ≤ i ∧ i < (n : Int)) := by
  unfold pm_lw
  rw [h]
  simp
theorem pm_ba_of {q n : Nat} {ty : FieldType} {w : Bool} (h : pm_arr 0 q = some (ty, n, w)) (ht : ty = .byte ∨ ty = .boolean) (i : Int) : pm_ba q i = (0 ≤ i ∧ i < (n : Int)) := by
  unfold pm_ba
  rw [h]
  simp [ht]
theorem pm_bw_of {q n : Nat} {ty : FieldType} (h : pm_arr 0 q = some (ty, n, true)) (ht : ty = .byte ∨ ty = .boolean) (i : Int) : pm_bw q i = (0 ≤ i ∧ i < (n : Int)) := by
  unfold pm_bw
  rw [h]
  simp [ht]
theorem pm_bn_of {q n : Nat} {ty : FieldType} {w : Bool} (h : pm_arr 0 q = some (ty, n, w)) (v : Int) : pm_bn q v = pm_nar ty v := by
  unfold pm_bn
  rw [h]
theorem pz_2 : pm_arr 0 2 = some (.int, 5, true) := by decide +kernel
theorem pr_2 (i : Int) : pm_ia 2 i = (0 ≤ i ∧ i < 5) := pm_ia_of pz_2 i
theorem pw_2 (i : Int) : pm_iw 2 i = (0 ≤ i ∧ i < 5) := pm_iw_of pz_2 i
theorem pz_3 : pm_arr 0 3 = some (.int, 96, true) := by decide +kernel
theorem pr_3 (i : Int) : pm_ia 3 i = (0 ≤ i ∧ i < 96) := pm_ia_of pz_3 i
theorem pw_3 (i : Int) : pm_iw 3 i = (0 ≤ i ∧ i < 96) := pm_iw_of pz_3 i
theorem pz_4 : pm_arr 0 4 = some (.int, 192, true) := by decide +kernel
theorem pr_4 (i : Int) : pm_ia 4 i = (0 ≤ i ∧ i < 192) := pm_ia_of pz_4 i
theorem pw_4 (i : Int) : pm_iw 4 i = (0 ≤ i ∧ i < 192) := pm_iw_of pz_4 i
theorem pz_7 : pm_arr 0 7 = some (.int, 432, true) := by decide +kernel
theorem pr_7 (i : Int) : pm_ia 7 i = (0 ≤ i ∧ i < 432) := pm_ia_of pz_7 i
theorem pw_7 (i : Int) : pm_iw 7 i = (0 ≤ i ∧ i < 432) := pm_iw_of pz_7 i
theorem pz_8 : pm_arr 0 8 = some (.int, 48, true) := by decide +kernel
theorem pr_8 (i : Int) : pm_ia 8 i = (0 ≤ i ∧ i < 48) := pm_ia_of pz_8 i
theorem pw_8 (i : Int) : pm_iw 8 i = (0 ≤ i ∧ i < 48) := pm_iw_of pz_8 i
theorem pz_9 : pm_arr 0 9 = some (.int, 192, true) := by decide +kernel
theorem pr_9 (i : Int) : pm_ia 9 i = (0 ≤ i ∧ i < 192) := pm_ia_of pz_9 i
theorem pw_9 (i : Int) : pm_iw 9 i = (0 ≤ i ∧ i < 192) := pm_iw_of pz_9 i
theorem pz_10 : pm_arr 0 10 = some (.int, 576, true) := by decide +kernel
theorem pr_10 (i : Int) : pm_ia 10 i = (0 ≤ i ∧ i < 576) := pm_ia_of pz_10 i
theorem pw_10 (i : Int) : pm_iw 10 i = (0 ≤ i ∧ i < 576) := pm_iw_of pz_10 i
theorem pz_11 : pm_arr 0 11 = some (.int, 9, true) := by decide +kernel
theorem pr_11 (i : Int) : pm_ia 11 i = (0 ≤ i ∧ i < 9) := pm_ia_of pz_11 i
theorem pw_11 (i : Int) : pm_iw 11 i = (0 ≤ i ∧ i < 9) := pm_iw_of pz_11 i
theorem pz_12 : pm_arr 0 12 = some (.int, 9, true) := by decide +kernel
theorem pr_12 (i : Int) : pm_ia 12 i = (0 ≤ i ∧ i < 9) := pm_ia_of pz_12 i
theorem pw_12 (i : Int) : pm_iw 12 i = (0 ≤ i ∧ i < 9) := pm_iw_of pz_12 i
theorem pz_14 : pm_arr 0 14 = some (.int, 3, true) := by decide +kernel
theorem pr_14 (i : Int) : pm_ia 14 i = (0 ≤ i ∧ i < 3) := pm_ia_of pz_14 i
theorem pw_14 (i : Int) : pm_iw 14 i = (0 ≤ i ∧ i < 3) := pm_iw_of pz_14 i
theorem pz_15 : pm_arr 0 15 = some (.int, 3, true) := by decide +kernel
theorem pr_15 (i : Int) : pm_ia 15 i = (0 ≤ i ∧ i < 3) := pm_ia_of pz_15 i
theorem pw_15 (i : Int) : pm_iw 15 i = (0 ≤ i ∧ i < 3) := pm_iw_of pz_15 i
theorem pz_16 : pm_arr 0 16 = some (.int, 9, true) := by decide +kernel
theorem pr_16 (i : Int) : pm_ia 16 i = (0 ≤ i ∧ i < 9) := pm_ia_of pz_16 i
theorem pw_16 (i : Int) : pm_iw 16 i = (0 ≤ i ∧ i < 9) := pm_iw_of pz_16 i
theorem pz_17 : pm_arr 0 17 = some (.int, 9, true) := by decide +kernel
theorem pr_17 (i : Int) : pm_ia 17 i = (0 ≤ i ∧ i < 9) := pm_ia_of pz_17 i
theorem pw_17 (i : Int) : pm_iw 17 i = (0 ≤ i ∧ i < 9) := pm_iw_of pz_17 i
theorem pz_19 : pm_arr 0 19 = some (.int, 9, true) := by decide +kernel
theorem pr_19 (i : Int) : pm_ia 19 i = (0 ≤ i ∧ i < 9) := pm_ia_of pz_19 i
theorem pw_19 (i : Int) : pm_iw 19 i = (0 ≤ i ∧ i < 9) := pm_iw_of pz_19 i
theorem pz_20 : pm_arr 0 20 = some (.int, 9, true) := by decide +kernel
theorem pr_20 (i : Int) : pm_ia 20 i = (0 ≤ i ∧ i < 9) := pm_ia_of pz_20 i
theorem pw_20 (i : Int) : pm_iw 20 i = (0 ≤ i ∧ i < 9) := pm_iw_of pz_20 i
theorem pz_21 : pm_arr 0 21 = some (.int, 3, true) := by decide +kernel
theorem pr_21 (i : Int) : pm_ia 21 i = (0 ≤ i ∧ i < 3) := pm_ia_of pz_21 i
theorem pw_21 (i : Int) : pm_iw 21 i = (0 ≤ i ∧ i < 3) := pm_iw_of pz_21 i
theorem pz_23 : pm_arr 0 23 = some (.long, 6, true) := by decide +kernel
theorem pr_23 (i : Int) : pm_la 23 i = (0 ≤ i ∧ i < 6) := pm_la_of pz_23 i
theorem pw_23 (i : Int) : pm_lw 23 i = (0 ≤ i ∧ i < 6) := pm_lw_of pz_23 i
theorem pz_24 : pm_arr 0 24 = some (.int, 6, true) := by decide +kernel
theorem pr_24 (i : Int) : pm_ia 24 i = (0 ≤ i ∧ i < 6) := pm_ia_of pz_24 i
theorem pw_24 (i : Int) : pm_iw 24 i = (0 ≤ i ∧ i < 6) := pm_iw_of pz_24 i
theorem pz_25 : pm_arr 0 25 = some (.long, 9, true) := by decide +kernel
theorem pr_25 (i : Int) : pm_la 25 i = (0 ≤ i ∧ i < 9) := pm_la_of pz_25 i
theorem pw_25 (i : Int) : pm_lw 25 i = (0 ≤ i ∧ i < 9) := pm_lw_of pz_25 i
theorem pz_27 : pm_arr 0 27 = some (.long, 192, true) := by decide +kernel
theorem pr_27 (i : Int) : pm_la 27 i = (0 ≤ i ∧ i < 192) := pm_la_of pz_27 i
theorem pw_27 (i : Int) : pm_lw 27 i = (0 ≤ i ∧ i < 192) := pm_lw_of pz_27 i
theorem pz_28 : pm_arr 0 28 = some (.int, 192, true) := by decide +kernel
theorem pr_28 (i : Int) : pm_ia 28 i = (0 ≤ i ∧ i < 192) := pm_ia_of pz_28 i
theorem pw_28 (i : Int) : pm_iw 28 i = (0 ≤ i ∧ i < 192) := pm_iw_of pz_28 i
theorem pz_29 : pm_arr 0 29 = some (.int, 3, true) := by decide +kernel
theorem pr_29 (i : Int) : pm_ia 29 i = (0 ≤ i ∧ i < 3) := pm_ia_of pz_29 i
theorem pw_29 (i : Int) : pm_iw 29 i = (0 ≤ i ∧ i < 3) := pm_iw_of pz_29 i
theorem pz_30 : pm_arr 0 30 = some (.int, 400, true) := by decide +kernel
theorem pr_30 (i : Int) : pm_ia 30 i = (0 ≤ i ∧ i < 400) := pm_ia_of pz_30 i
theorem pw_30 (i : Int) : pm_iw 30 i = (0 ≤ i ∧ i < 400) := pm_iw_of pz_30 i
theorem pz_32 : pm_arr 0 32 = some (.int, 108, true) := by decide +kernel
theorem pr_32 (i : Int) : pm_ia 32 i = (0 ≤ i ∧ i < 108) := pm_ia_of pz_32 i
theorem pw_32 (i : Int) : pm_iw 32 i = (0 ≤ i ∧ i < 108) := pm_iw_of pz_32 i
theorem pz_33 : pm_arr 0 33 = some (.int, 12, true) := by decide +kernel
theorem pr_33 (i : Int) : pm_ia 33 i = (0 ≤ i ∧ i < 12) := pm_ia_of pz_33 i
theorem pw_33 (i : Int) : pm_iw 33 i = (0 ≤ i ∧ i < 12) := pm_iw_of pz_33 i
theorem pz_35 : pm_arr 0 35 = some (.int, 9, true) := by decide +kernel
theorem pr_35 (i : Int) : pm_ia 35 i = (0 ≤ i ∧ i < 9) := pm_ia_of pz_35 i
theorem pw_35 (i : Int) : pm_iw 35 i = (0 ≤ i ∧ i < 9) := pm_iw_of pz_35 i
theorem pz_36 : pm_arr 0 36 = some (.int, 3, true) := by decide +kernel
theorem pr_36 (i : Int) : pm_ia 36 i = (0 ≤ i ∧ i < 3) := pm_ia_of pz_36 i
theorem pw_36 (i : Int) : pm_iw 36 i = (0 ≤ i ∧ i < 3) := pm_iw_of pz_36 i
theorem pz_38 : pm_arr 0 38 = some (.int, 9, true) := by decide +kernel
theorem pr_38 (i : Int) : pm_ia 38 i = (0 ≤ i ∧ i < 9) := pm_ia_of pz_38 i
theorem pw_38 (i : Int) : pm_iw 38 i = (0 ≤ i ∧ i < 9) := pm_iw_of pz_38 i
theorem pz_39 : pm_arr 0 39 = some (.int, 3, true) := by decide +kernel
theorem pr_39 (i : Int) : pm_ia 39 i = (0 ≤ i ∧ i < 3) := pm_ia_of pz_39 i
theorem pw_39 (i : Int) : pm_iw 39 i = (0 ≤ i ∧ i < 3) := pm_iw_of pz_39 i
theorem pz_40 : pm_arr 0 40 = some (.int, 3, true) := by decide +kernel
theorem pr_40 (i : Int) : pm_ia 40 i = (0 ≤ i ∧ i < 3) := pm_ia_of pz_40 i
theorem pw_40 (i : Int) : pm_iw 40 i = (0 ≤ i ∧ i < 3) := pm_iw_of pz_40 i
theorem pz_42 : pm_arr 0 42 = some (.int, 432, true) := by decide +kernel
theorem pr_42 (i : Int) : pm_ia 42 i = (0 ≤ i ∧ i < 432) := pm_ia_of pz_42 i
theorem pw_42 (i : Int) : pm_iw 42 i = (0 ≤ i ∧ i < 432) := pm_iw_of pz_42 i
theorem pz_43 : pm_arr 0 43 = some (.int, 48, true) := by decide +kernel
theorem pr_43 (i : Int) : pm_ia 43 i = (0 ≤ i ∧ i < 48) := pm_ia_of pz_43 i
theorem pw_43 (i : Int) : pm_iw 43 i = (0 ≤ i ∧ i < 48) := pm_iw_of pz_43 i
theorem pz_44 : pm_arr 0 44 = some (.int, 192, true) := by decide +kernel
theorem pr_44 (i : Int) : pm_ia 44 i = (0 ≤ i ∧ i < 192) := pm_ia_of pz_44 i
theorem pw_44 (i : Int) : pm_iw 44 i = (0 ≤ i ∧ i < 192) := pm_iw_of pz_44 i
theorem pz_45 : pm_arr 0 45 = some (.int, 2304, true) := by decide +kernel
theorem pr_45 (i : Int) : pm_ia 45 i = (0 ≤ i ∧ i < 2304) := pm_ia_of pz_45 i
theorem pw_45 (i : Int) : pm_iw 45 i = (0 ≤ i ∧ i < 2304) := pm_iw_of pz_45 i
theorem pz_46 : pm_arr 0 46 = some (.int, 9, true) := by decide +kernel
theorem pr_46 (i : Int) : pm_ia 46 i = (0 ≤ i ∧ i < 9) := pm_ia_of pz_46 i
theorem pw_46 (i : Int) : pm_iw 46 i = (0 ≤ i ∧ i < 9) := pm_iw_of pz_46 i
theorem pz_48 : pm_arr 0 48 = some (.int, 432, true) := by decide +kernel
theorem pr_48 (i : Int) : pm_ia 48 i = (0 ≤ i ∧ i < 432) := pm_ia_of pz_48 i
theorem pw_48 (i : Int) : pm_iw 48 i = (0 ≤ i ∧ i < 432) := pm_iw_of pz_48 i
theorem pz_49 : pm_arr 0 49 = some (.int, 48, true) := by decide +kernel
theorem pr_49 (i : Int) : pm_ia 49 i = (0 ≤ i ∧ i < 48) := pm_ia_of pz_49 i
theorem pw_49 (i : Int) : pm_iw 49 i = (0 ≤ i ∧ i < 48) := pm_iw_of pz_49 i
theorem pz_50 : pm_arr 0 50 = some (.int, 192, true) := by decide +kernel
theorem pr_50 (i : Int) : pm_ia 50 i = (0 ≤ i ∧ i < 192) := pm_ia_of pz_50 i
theorem pw_50 (i : Int) : pm_iw 50 i = (0 ≤ i ∧ i < 192) := pm_iw_of pz_50 i
theorem pz_51 : pm_arr 0 51 = some (.int, 2304, true) := by decide +kernel
theorem pr_51 (i : Int) : pm_ia 51 i = (0 ≤ i ∧ i < 2304) := pm_ia_of pz_51 i
theorem pw_51 (i : Int) : pm_iw 51 i = (0 ≤ i ∧ i < 2304) := pm_iw_of pz_51 i
theorem pz_52 : pm_arr 0 52 = some (.int, 9, true) := by decide +kernel
theorem pr_52 (i : Int) : pm_ia 52 i = (0 ≤ i ∧ i < 9) := pm_ia_of pz_52 i
theorem pw_52 (i : Int) : pm_iw 52 i = (0 ≤ i ∧ i < 9) := pm_iw_of pz_52 i
theorem pz_54 : pm_arr 0 54 = some (.int, 432, true) := by decide +kernel
theorem pr_54 (i : Int) : pm_ia 54 i = (0 ≤ i ∧ i < 432) := pm_ia_of pz_54 i
theorem pw_54 (i : Int) : pm_iw 54 i = (0 ≤ i ∧ i < 432) := pm_iw_of pz_54 i
theorem pz_55 : pm_arr 0 55 = some (.int, 48, true) := by decide +kernel
theorem pr_55 (i : Int) : pm_ia 55 i = (0 ≤ i ∧ i < 48) := pm_ia_of pz_55 i
theorem pw_55 (i : Int) : pm_iw 55 i = (0 ≤ i ∧ i < 48) := pm_iw_of pz_55 i
theorem pz_56 : pm_arr 0 56 = some (.int, 192, true) := by decide +kernel
theorem pr_56 (i : Int) : pm_ia 56 i = (0 ≤ i ∧ i < 192) := pm_ia_of pz_56 i
theorem pw_56 (i : Int) : pm_iw 56 i = (0 ≤ i ∧ i < 192) := pm_iw_of pz_56 i
theorem pz_57 : pm_arr 0 57 = some (.int, 2304, true) := by decide +kernel
theorem pr_57 (i : Int) : pm_ia 57 i = (0 ≤ i ∧ i < 2304) := pm_ia_of pz_57 i
theorem pw_57 (i : Int) : pm_iw 57 i = (0 ≤ i ∧ i < 2304) := pm_iw_of pz_57 i
theorem pz_58 : pm_arr 0 58 = some (.int, 9, true) := by decide +kernel
theorem pr_58 (i : Int) : pm_ia 58 i = (0 ≤ i ∧ i < 9) := pm_ia_of pz_58 i
theorem pw_58 (i : Int) : pm_iw 58 i = (0 ≤ i ∧ i < 9) := pm_iw_of pz_58 i
theorem pz_60 : pm_arr 0 60 = some (.int, 432, true) := by decide +kernel
theorem pr_60 (i : Int) : pm_ia 60 i = (0 ≤ i ∧ i < 432) := pm_ia_of pz_60 i
theorem pw_60 (i : Int) : pm_iw 60 i = (0 ≤ i ∧ i < 432) := pm_iw_of pz_60 i
theorem pz_61 : pm_arr 0 61 = some (.int, 48, true) := by decide +kernel
theorem pr_61 (i : Int) : pm_ia 61 i = (0 ≤ i ∧ i < 48) := pm_ia_of pz_61 i
theorem pw_61 (i : Int) : pm_iw 61 i = (0 ≤ i ∧ i < 48) := pm_iw_of pz_61 i
theorem pz_62 : pm_arr 0 62 = some (.int, 192, true) := by decide +kernel
theorem pr_62 (i : Int) : pm_ia 62 i = (0 ≤ i ∧ i < 192) := pm_ia_of pz_62 i
theorem pw_62 (i : Int) : pm_iw 62 i = (0 ≤ i ∧ i < 192) := pm_iw_of pz_62 i
theorem pz_63 : pm_arr 0 63 = some (.int, 2304, true) := by decide +kernel
theorem pr_63 (i : Int) : pm_ia 63 i = (0 ≤ i ∧ i < 2304) := pm_ia_of pz_63 i
theorem pw_63 (i : Int) : pm_iw 63 i = (0 ≤ i ∧ i < 2304) := pm_iw_of pz_63 i
theorem pz_64 : pm_arr 0 64 = some (.int, 9, true) := by decide +kernel
theorem pr_64 (i : Int) : pm_ia 64 i = (0 ≤ i ∧ i < 9) := pm_ia_of pz_64 i
theorem pw_64 (i : Int) : pm_iw 64 i = (0 ≤ i ∧ i < 9) := pm_iw_of pz_64 i
theorem pz_66 : pm_arr 0 66 = some (.int, 432, true) := by decide +kernel
theorem pr_66 (i : Int) : pm_ia 66 i = (0 ≤ i ∧ i < 432) := pm_ia_of pz_66 i
theorem pw_66 (i : Int) : pm_iw 66 i = (0 ≤ i ∧ i < 432) := pm_iw_of pz_66 i
theorem pz_67 : pm_arr 0 67 = some (.int, 48, true) := by decide +kernel
theorem pr_67 (i : Int) : pm_ia 67 i = (0 ≤ i ∧ i < 48) := pm_ia_of pz_67 i
theorem pw_67 (i : Int) : pm_iw 67 i = (0 ≤ i ∧ i < 48) := pm_iw_of pz_67 i
theorem pz_68 : pm_arr 0 68 = some (.int, 192, true) := by decide +kernel
theorem pr_68 (i : Int) : pm_ia 68 i = (0 ≤ i ∧ i < 192) := pm_ia_of pz_68 i
theorem pw_68 (i : Int) : pm_iw 68 i = (0 ≤ i ∧ i < 192) := pm_iw_of pz_68 i
theorem pz_69 : pm_arr 0 69 = some (.int, 2304, true) := by decide +kernel
theorem pr_69 (i : Int) : pm_ia 69 i = (0 ≤ i ∧ i < 2304) := pm_ia_of pz_69 i
theorem pw_69 (i : Int) : pm_iw 69 i = (0 ≤ i ∧ i < 2304) := pm_iw_of pz_69 i
theorem pz_70 : pm_arr 0 70 = some (.int, 9, true) := by decide +kernel
theorem pr_70 (i : Int) : pm_ia 70 i = (0 ≤ i ∧ i < 9) := pm_ia_of pz_70 i
theorem pw_70 (i : Int) : pm_iw 70 i = (0 ≤ i ∧ i < 9) := pm_iw_of pz_70 i
theorem pz_72 : pm_arr 0 72 = some (.int, 432, true) := by decide +kernel
theorem pr_72 (i : Int) : pm_ia 72 i = (0 ≤ i ∧ i < 432) := pm_ia_of pz_72 i
theorem pw_72 (i : Int) : pm_iw 72 i = (0 ≤ i ∧ i < 432) := pm_iw_of pz_72 i
theorem pz_73 : pm_arr 0 73 = some (.int, 48, true) := by decide +kernel
theorem pr_73 (i : Int) : pm_ia 73 i = (0 ≤ i ∧ i < 48) := pm_ia_of pz_73 i
theorem pw_73 (i : Int) : pm_iw 73 i = (0 ≤ i ∧ i < 48) := pm_iw_of pz_73 i
theorem pz_74 : pm_arr 0 74 = some (.int, 192, true) := by decide +kernel
theorem pr_74 (i : Int) : pm_ia 74 i = (0 ≤ i ∧ i < 192) := pm_ia_of pz_74 i
theorem pw_74 (i : Int) : pm_iw 74 i = (0 ≤ i ∧ i < 192) := pm_iw_of pz_74 i
theorem pz_75 : pm_arr 0 75 = some (.int, 2304, true) := by decide +kernel
theorem pr_75 (i : Int) : pm_ia 75 i = (0 ≤ i ∧ i < 2304) := pm_ia_of pz_75 i
theorem pw_75 (i : Int) : pm_iw 75 i = (0 ≤ i ∧ i < 2304) := pm_iw_of pz_75 i
theorem pz_76 : pm_arr 0 76 = some (.int, 9, true) := by decide +kernel
theorem pr_76 (i : Int) : pm_ia 76 i = (0 ≤ i ∧ i < 9) := pm_ia_of pz_76 i
theorem pw_76 (i : Int) : pm_iw 76 i = (0 ≤ i ∧ i < 9) := pm_iw_of pz_76 i
theorem pz_78 : pm_arr 0 78 = some (.byte, 400, true) := by decide +kernel
theorem pr_78 (i : Int) : pm_ba 78 i = (0 ≤ i ∧ i < 400) := pm_ba_of pz_78 (by decide) i
theorem pw_78 (i : Int) : pm_bw 78 i = (0 ≤ i ∧ i < 400) := pm_bw_of pz_78 (by decide) i
theorem pn_78 (v : Int) : pm_bn 78 v = w8 v := pm_bn_of pz_78 v
theorem pz_79 : pm_arr 0 79 = some (.byte, 400, true) := by decide +kernel
theorem pr_79 (i : Int) : pm_ba 79 i = (0 ≤ i ∧ i < 400) := pm_ba_of pz_79 (by decide) i
theorem pw_79 (i : Int) : pm_bw 79 i = (0 ≤ i ∧ i < 400) := pm_bw_of pz_79 (by decide) i
theorem pn_79 (v : Int) : pm_bn 79 v = w8 v := pm_bn_of pz_79 v
theorem pz_80 : pm_arr 0 80 = some (.byte, 200, true) := by decide +kernel
theorem pr_80 (i : Int) : pm_ba 80 i = (0 ≤ i ∧ i < 200) := pm_ba_of pz_80 (by decide) i
theorem pw_80 (i : Int) : pm_bw 80 i = (0 ≤ i ∧ i < 200) := pm_bw_of pz_80 (by decide) i
theorem pn_80 (v : Int) : pm_bn 80 v = w8 v := pm_bn_of pz_80 v
theorem pz_81 : pm_arr 0 81 = some (.int, 240, true) := by decide +kernel
theorem pr_81 (i : Int) : pm_ia 81 i = (0 ≤ i ∧ i < 240) := pm_ia_of pz_81 i
theorem pw_81 (i : Int) : pm_iw 81 i = (0 ≤ i ∧ i < 240) := pm_iw_of pz_81 i
theorem pz_82 : pm_arr 0 82 = some (.int, 4644, true) := by decide +kernel
theorem pr_82 (i : Int) : pm_ia 82 i = (0 ≤ i ∧ i < 4644) := pm_ia_of pz_82 i
theorem pw_82 (i : Int) : pm_iw 82 i = (0 ≤ i ∧ i < 4644) := pm_iw_of pz_82 i
theorem pz_83 : pm_arr 0 83 = some (.int, 12, true) := by decide +kernel
theorem pr_83 (i : Int) : pm_ia 83 i = (0 ≤ i ∧ i < 12) := pm_ia_of pz_83 i
theorem pw_83 (i : Int) : pm_iw 83 i = (0 ≤ i ∧ i < 12) := pm_iw_of pz_83 i
theorem pz_84 : pm_arr 0 84 = some (.int, 12, true) := by decide +kernel
theorem pr_84 (i : Int) : pm_ia 84 i = (0 ≤ i ∧ i < 12) := pm_ia_of pz_84 i
theorem pw_84 (i : Int) : pm_iw 84 i = (0 ≤ i ∧ i < 12) := pm_iw_of pz_84 i
theorem pz_85 : pm_arr 0 85 = some (.int, 12, true) := by decide +kernel
theorem pr_85 (i : Int) : pm_ia 85 i = (0 ≤ i ∧ i < 12) := pm_ia_of pz_85 i
theorem pw_85 (i : Int) : pm_iw 85 i = (0 ≤ i ∧ i < 12) := pm_iw_of pz_85 i
theorem pz_86 : pm_arr 0 86 = some (.int, 27648, true) := by decide +kernel
theorem pr_86 (i : Int) : pm_ia 86 i = (0 ≤ i ∧ i < 27648) := pm_ia_of pz_86 i
theorem pw_86 (i : Int) : pm_iw 86 i = (0 ≤ i ∧ i < 27648) := pm_iw_of pz_86 i
theorem pz_87 : pm_arr 0 87 = some (.int, 6, true) := by decide +kernel
theorem pr_87 (i : Int) : pm_ia 87 i = (0 ≤ i ∧ i < 6) := pm_ia_of pz_87 i
theorem pw_87 (i : Int) : pm_iw 87 i = (0 ≤ i ∧ i < 6) := pm_iw_of pz_87 i
theorem pz_88 : pm_arr 0 88 = some (.boolean, 6, true) := by decide +kernel
theorem pr_88 (i : Int) : pm_ba 88 i = (0 ≤ i ∧ i < 6) := pm_ba_of pz_88 (by decide) i
theorem pw_88 (i : Int) : pm_bw 88 i = (0 ≤ i ∧ i < 6) := pm_bw_of pz_88 (by decide) i
theorem pn_88 (v : Int) : pm_bn 88 v = v % 2 := pm_bn_of pz_88 v
theorem pz_89 : pm_arr 0 89 = some (.int, 3, true) := by decide +kernel
theorem pr_89 (i : Int) : pm_ia 89 i = (0 ≤ i ∧ i < 3) := pm_ia_of pz_89 i
theorem pw_89 (i : Int) : pm_iw 89 i = (0 ≤ i ∧ i < 3) := pm_iw_of pz_89 i
theorem pz_90 : pm_arr 0 90 = some (.int, 3, true) := by decide +kernel
theorem pr_90 (i : Int) : pm_ia 90 i = (0 ≤ i ∧ i < 3) := pm_ia_of pz_90 i
theorem pw_90 (i : Int) : pm_iw 90 i = (0 ≤ i ∧ i < 3) := pm_iw_of pz_90 i
theorem pz_91 : pm_arr 0 91 = some (.int, 3, true) := by decide +kernel
theorem pr_91 (i : Int) : pm_ia 91 i = (0 ≤ i ∧ i < 3) := pm_ia_of pz_91 i
theorem pw_91 (i : Int) : pm_iw 91 i = (0 ≤ i ∧ i < 3) := pm_iw_of pz_91 i
theorem pz_92 : pm_arr 0 92 = some (.int, 10, true) := by decide +kernel
theorem pr_92 (i : Int) : pm_ia 92 i = (0 ≤ i ∧ i < 10) := pm_ia_of pz_92 i
theorem pw_92 (i : Int) : pm_iw 92 i = (0 ≤ i ∧ i < 10) := pm_iw_of pz_92 i
theorem pz_93 : pm_arr 0 93 = some (.long, 32, true) := by decide +kernel
theorem pr_93 (i : Int) : pm_la 93 i = (0 ≤ i ∧ i < 32) := pm_la_of pz_93 i
theorem pw_93 (i : Int) : pm_lw 93 i = (0 ≤ i ∧ i < 32) := pm_lw_of pz_93 i
theorem pz_94 : pm_arr 0 94 = some (.boolean, 384, true) := by decide +kernel
theorem pr_94 (i : Int) : pm_ba 94 i = (0 ≤ i ∧ i < 384) := pm_ba_of pz_94 (by decide) i
theorem pw_94 (i : Int) : pm_bw 94 i = (0 ≤ i ∧ i < 384) := pm_bw_of pz_94 (by decide) i
theorem pn_94 (v : Int) : pm_bn 94 v = v % 2 := pm_bn_of pz_94 v
theorem pz_95 : pm_arr 0 95 = some (.boolean, 384, true) := by decide +kernel
theorem pr_95 (i : Int) : pm_ba 95 i = (0 ≤ i ∧ i < 384) := pm_ba_of pz_95 (by decide) i
theorem pw_95 (i : Int) : pm_bw 95 i = (0 ≤ i ∧ i < 384) := pm_bw_of pz_95 (by decide) i
theorem pn_95 (v : Int) : pm_bn 95 v = v % 2 := pm_bn_of pz_95 v
theorem pz_96 : pm_arr 0 96 = some (.int, 384, true) := by decide +kernel
theorem pr_96 (i : Int) : pm_ia 96 i = (0 ≤ i ∧ i < 384) := pm_ia_of pz_96 i
theorem pw_96 (i : Int) : pm_iw 96 i = (0 ≤ i ∧ i < 384) := pm_iw_of pz_96 i
theorem pz_97 : pm_arr 0 97 = some (.int, 12, true) := by decide +kernel
theorem pr_97 (i : Int) : pm_ia 97 i = (0 ≤ i ∧ i < 12) := pm_ia_of pz_97 i
theorem pw_97 (i : Int) : pm_iw 97 i = (0 ≤ i ∧ i < 12) := pm_iw_of pz_97 i
theorem pz_98 : pm_arr 0 98 = some (.int, 12, true) := by decide +kernel
theorem pr_98 (i : Int) : pm_ia 98 i = (0 ≤ i ∧ i < 12) := pm_ia_of pz_98 i
theorem pw_98 (i : Int) : pm_iw 98 i = (0 ≤ i ∧ i < 12) := pm_iw_of pz_98 i
theorem pz_99 : pm_arr 0 99 = some (.long, 9, true) := by decide +kernel
theorem pr_99 (i : Int) : pm_la 99 i = (0 ≤ i ∧ i < 9) := pm_la_of pz_99 i
theorem pw_99 (i : Int) : pm_lw 99 i = (0 ≤ i ∧ i < 9) := pm_lw_of pz_99 i
theorem pz_100 : pm_arr 0 100 = some (.long, 9, true) := by decide +kernel
theorem pr_100 (i : Int) : pm_la 100 i = (0 ≤ i ∧ i < 9) := pm_la_of pz_100 i
theorem pw_100 (i : Int) : pm_lw 100 i = (0 ≤ i ∧ i < 9) := pm_lw_of pz_100 i
theorem pz_101 : pm_arr 0 101 = some (.long, 3, true) := by decide +kernel
theorem pr_101 (i : Int) : pm_la 101 i = (0 ≤ i ∧ i < 3) := pm_la_of pz_101 i
theorem pw_101 (i : Int) : pm_lw 101 i = (0 ≤ i ∧ i < 3) := pm_lw_of pz_101 i
theorem pz_102 : pm_arr 0 102 = some (.long, 6, true) := by decide +kernel
theorem pr_102 (i : Int) : pm_la 102 i = (0 ≤ i ∧ i < 6) := pm_la_of pz_102 i
theorem pw_102 (i : Int) : pm_lw 102 i = (0 ≤ i ∧ i < 6) := pm_lw_of pz_102 i
theorem pz_103 : pm_arr 0 103 = some (.long, 9, true) := by decide +kernel
theorem pr_103 (i : Int) : pm_la 103 i = (0 ≤ i ∧ i < 9) := pm_la_of pz_103 i
theorem pw_103 (i : Int) : pm_lw 103 i = (0 ≤ i ∧ i < 9) := pm_lw_of pz_103 i
theorem pz_104 : pm_arr 0 104 = some (.long, 9, true) := by decide +kernel
theorem pr_104 (i : Int) : pm_la 104 i = (0 ≤ i ∧ i < 9) := pm_la_of pz_104 i
theorem pw_104 (i : Int) : pm_lw 104 i = (0 ≤ i ∧ i < 9) := pm_lw_of pz_104 i
theorem pz_105 : pm_arr 0 105 = some (.int, 1152, true) := by decide +kernel
theorem pr_105 (i : Int) : pm_ia 105 i = (0 ≤ i ∧ i < 1152) := pm_ia_of pz_105 i
theorem pw_105 (i : Int) : pm_iw 105 i = (0 ≤ i ∧ i < 1152) := pm_iw_of pz_105 i
theorem pz_106 : pm_arr 0 106 = some (.int, 384, true) := by decide +kernel
theorem pr_106 (i : Int) : pm_ia 106 i = (0 ≤ i ∧ i < 384) := pm_ia_of pz_106 i
theorem pw_106 (i : Int) : pm_iw 106 i = (0 ≤ i ∧ i < 384) := pm_iw_of pz_106 i
theorem pz_107 : pm_arr 0 107 = some (.int, 3, true) := by decide +kernel
theorem pr_107 (i : Int) : pm_ia 107 i = (0 ≤ i ∧ i < 3) := pm_ia_of pz_107 i
theorem pw_107 (i : Int) : pm_iw 107 i = (0 ≤ i ∧ i < 3) := pm_iw_of pz_107 i
theorem pz_108 : pm_arr 0 108 = some (.int, 3, true) := by decide +kernel
theorem pr_108 (i : Int) : pm_ia 108 i = (0 ≤ i ∧ i < 3) := pm_ia_of pz_108 i
theorem pw_108 (i : Int) : pm_iw 108 i = (0 ≤ i ∧ i < 3) := pm_iw_of pz_108 i
theorem pz_109 : pm_arr 0 109 = some (.int, 1152, true) := by decide +kernel
theorem pr_109 (i : Int) : pm_ia 109 i = (0 ≤ i ∧ i < 1152) := pm_ia_of pz_109 i
theorem pw_109 (i : Int) : pm_iw 109 i = (0 ≤ i ∧ i < 1152) := pm_iw_of pz_109 i
theorem pz_110 : pm_arr 0 110 = some (.int, 2304, true) := by decide +kernel
theorem pr_110 (i : Int) : pm_ia 110 i = (0 ≤ i ∧ i < 2304) := pm_ia_of pz_110 i
theorem pw_110 (i : Int) : pm_iw 110 i = (0 ≤ i ∧ i < 2304) := pm_iw_of pz_110 i
theorem pz_111 : pm_arr 0 111 = some (.long, 1, true) := by decide +kernel
theorem pr_111 (i : Int) : pm_la 111 i = (0 ≤ i ∧ i < 1) := pm_la_of pz_111 i
theorem pw_111 (i : Int) : pm_lw 111 i = (0 ≤ i ∧ i < 1) := pm_lw_of pz_111 i
theorem pz_112 : pm_arr 0 112 = some (.int, 9, false) := by decide +kernel
theorem pr_112 (i : Int) : pm_ia 112 i = (0 ≤ i ∧ i < 9) := pm_ia_of pz_112 i
theorem pz_113 : pm_arr 0 113 = some (.int, 9, false) := by decide +kernel
theorem pr_113 (i : Int) : pm_ia 113 i = (0 ≤ i ∧ i < 9) := pm_ia_of pz_113 i
theorem pz_114 : pm_arr 0 114 = some (.int, 72, false) := by decide +kernel
theorem pr_114 (i : Int) : pm_ia 114 i = (0 ≤ i ∧ i < 72) := pm_ia_of pz_114 i
theorem pz_115 : pm_arr 0 115 = some (.long, 32, false) := by decide +kernel
theorem pr_115 (i : Int) : pm_la 115 i = (0 ≤ i ∧ i < 32) := pm_la_of pz_115 i
theorem pz_116 : pm_arr 0 116 = some (.int, 7, false) := by decide +kernel
theorem pr_116 (i : Int) : pm_ia 116 i = (0 ≤ i ∧ i < 7) := pm_ia_of pz_116 i
theorem pz_117 : pm_arr 0 117 = some (.int, 6, false) := by decide +kernel
theorem pr_117 (i : Int) : pm_ia 117 i = (0 ≤ i ∧ i < 6) := pm_ia_of pz_117 i
theorem pz_118 : pm_arr 0 118 = some (.int, 6, false) := by decide +kernel
theorem pr_118 (i : Int) : pm_ia 118 i = (0 ≤ i ∧ i < 6) := pm_ia_of pz_118 i
end PA
