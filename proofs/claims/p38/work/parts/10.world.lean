/-! the references of the made world, and the shapes, as rows for simp -/
def rfL : List (Nat × Nat × Nat) := [(0, 0, 1), (0, 1, 2), (0, 2, 14), (0, 3, 21), (0, 4, 28), (0, 5, 31), (0, 6, 51), (0, 7, 52), (0, 8, 53), (0, 10, 54), (1, 0, 2), (1, 1, 11), (1, 2, 12), (1, 3, 13), (2, 0, 3), (2, 1, 4), (2, 2, 5), (2, 3, 6), (2, 4, 7), (2, 5, 8), (2, 6, 9), (2, 9, 10), (14, 0, 15), (14, 1, 16), (14, 2, 17), (14, 3, 18), (14, 4, 19), (14, 5, 20), (21, 0, 22), (21, 1, 23), (21, 2, 24), (21, 3, 25), (21, 4, 26), (21, 5, 27), (28, 0, 29), (28, 1, 30), (31, 0, 32), (32, 0, 33), (32, 1, 36), (32, 2, 39), (32, 3, 42), (32, 4, 45), (32, 5, 48), (33, 0, 34), (33, 1, 35), (36, 0, 37), (36, 1, 38), (39, 0, 40), (39, 1, 41), (42, 0, 43), (42, 1, 44), (45, 0, 46), (45, 1, 47), (48, 0, 49), (48, 1, 50)]
def rf0 : Nat → Nat → Option Nat := fun k j => (rfL.find? fun q => q.1 == k && q.2.1 == j).map fun q => q.2.2
theorem rf_0_0 : rf0 0 0 = some 1 := by decide +kernel
theorem rf_0_1 : rf0 0 1 = some 2 := by decide +kernel
theorem rf_0_2 : rf0 0 2 = some 14 := by decide +kernel
theorem rf_0_3 : rf0 0 3 = some 21 := by decide +kernel
theorem rf_0_4 : rf0 0 4 = some 28 := by decide +kernel
theorem rf_0_5 : rf0 0 5 = some 31 := by decide +kernel
theorem rf_0_6 : rf0 0 6 = some 51 := by decide +kernel
theorem rf_0_7 : rf0 0 7 = some 52 := by decide +kernel
theorem rf_0_8 : rf0 0 8 = some 53 := by decide +kernel
theorem rf_0_10 : rf0 0 10 = some 54 := by decide +kernel
theorem rf_1_0 : rf0 1 0 = some 2 := by decide +kernel
theorem rf_1_1 : rf0 1 1 = some 11 := by decide +kernel
theorem rf_1_2 : rf0 1 2 = some 12 := by decide +kernel
theorem rf_1_3 : rf0 1 3 = some 13 := by decide +kernel
theorem rf_2_0 : rf0 2 0 = some 3 := by decide +kernel
theorem rf_2_1 : rf0 2 1 = some 4 := by decide +kernel
theorem rf_2_2 : rf0 2 2 = some 5 := by decide +kernel
theorem rf_2_3 : rf0 2 3 = some 6 := by decide +kernel
theorem rf_2_4 : rf0 2 4 = some 7 := by decide +kernel
theorem rf_2_5 : rf0 2 5 = some 8 := by decide +kernel
theorem rf_2_6 : rf0 2 6 = some 9 := by decide +kernel
theorem rf_2_9 : rf0 2 9 = some 10 := by decide +kernel
theorem rf_14_0 : rf0 14 0 = some 15 := by decide +kernel
theorem rf_14_1 : rf0 14 1 = some 16 := by decide +kernel
theorem rf_14_2 : rf0 14 2 = some 17 := by decide +kernel
theorem rf_14_3 : rf0 14 3 = some 18 := by decide +kernel
theorem rf_14_4 : rf0 14 4 = some 19 := by decide +kernel
theorem rf_14_5 : rf0 14 5 = some 20 := by decide +kernel
theorem rf_21_0 : rf0 21 0 = some 22 := by decide +kernel
theorem rf_21_1 : rf0 21 1 = some 23 := by decide +kernel
theorem rf_21_2 : rf0 21 2 = some 24 := by decide +kernel
theorem rf_21_3 : rf0 21 3 = some 25 := by decide +kernel
theorem rf_21_4 : rf0 21 4 = some 26 := by decide +kernel
theorem rf_21_5 : rf0 21 5 = some 27 := by decide +kernel
theorem rf_28_0 : rf0 28 0 = some 29 := by decide +kernel
theorem rf_28_1 : rf0 28 1 = some 30 := by decide +kernel
theorem rf_31_0 : rf0 31 0 = some 32 := by decide +kernel
theorem rf_32_0 : rf0 32 0 = some 33 := by decide +kernel
theorem rf_32_1 : rf0 32 1 = some 36 := by decide +kernel
theorem rf_32_2 : rf0 32 2 = some 39 := by decide +kernel
theorem rf_32_3 : rf0 32 3 = some 42 := by decide +kernel
theorem rf_32_4 : rf0 32 4 = some 45 := by decide +kernel
theorem rf_32_5 : rf0 32 5 = some 48 := by decide +kernel
theorem rf_33_0 : rf0 33 0 = some 34 := by decide +kernel
theorem rf_33_1 : rf0 33 1 = some 35 := by decide +kernel
theorem rf_36_0 : rf0 36 0 = some 37 := by decide +kernel
theorem rf_36_1 : rf0 36 1 = some 38 := by decide +kernel
theorem rf_39_0 : rf0 39 0 = some 40 := by decide +kernel
theorem rf_39_1 : rf0 39 1 = some 41 := by decide +kernel
theorem rf_42_0 : rf0 42 0 = some 43 := by decide +kernel
theorem rf_42_1 : rf0 42 1 = some 44 := by decide +kernel
theorem rf_45_0 : rf0 45 0 = some 46 := by decide +kernel
theorem rf_45_1 : rf0 45 1 = some 47 := by decide +kernel
theorem rf_48_0 : rf0 48 0 = some 49 := by decide +kernel
theorem rf_48_1 : rf0 48 1 = some 50 := by decide +kernel
theorem sh_0 : sh 0 = (5, 11) := by decide +kernel
theorem sh_1 : sh 1 = (4, 6) := by decide +kernel
theorem sh_2 : sh 2 = (1, 10) := by decide +kernel
theorem sh_3 : sh 3 = (100, 20000) := by decide +kernel
theorem sh_4 : sh 4 = (100, 20000) := by decide +kernel
theorem sh_5 : sh 5 = (100, 20000) := by decide +kernel
theorem sh_6 : sh 6 = (100, 20000) := by decide +kernel
theorem sh_7 : sh 7 = (101, 20000) := by decide +kernel
theorem sh_8 : sh 8 = (101, 20000) := by decide +kernel
theorem sh_9 : sh 9 = (102, 20000) := by decide +kernel
theorem sh_10 : sh 10 = (100, 400) := by decide +kernel
theorem sh_11 : sh 11 = (100, 400) := by decide +kernel
theorem sh_12 : sh 12 = (102, 400) := by decide +kernel
theorem sh_13 : sh 13 = (100, 400) := by decide +kernel
theorem sh_14 : sh 14 = (3, 8) := by decide +kernel
theorem sh_15 : sh 15 = (100, 400) := by decide +kernel
theorem sh_16 : sh 16 = (100, 400) := by decide +kernel
theorem sh_17 : sh 17 = (100, 400) := by decide +kernel
theorem sh_18 : sh 18 = (100, 400) := by decide +kernel
theorem sh_19 : sh 19 = (100, 400) := by decide +kernel
theorem sh_20 : sh 20 = (100, 400) := by decide +kernel
theorem sh_21 : sh 21 = (3, 8) := by decide +kernel
theorem sh_22 : sh 22 = (100, 400) := by decide +kernel
theorem sh_23 : sh 23 = (100, 400) := by decide +kernel
theorem sh_24 : sh 24 = (100, 400) := by decide +kernel
theorem sh_25 : sh 25 = (100, 400) := by decide +kernel
theorem sh_26 : sh 26 = (100, 400) := by decide +kernel
theorem sh_27 : sh 27 = (100, 400) := by decide +kernel
theorem sh_28 : sh 28 = (2, 7) := by decide +kernel
theorem sh_29 : sh 29 = (100, 4) := by decide +kernel
theorem sh_30 : sh 30 = (100, 4) := by decide +kernel
theorem sh_31 : sh 31 = (0, 3) := by decide +kernel
theorem sh_32 : sh 32 = (103, 6) := by decide +kernel
theorem sh_33 : sh 33 = (2, 7) := by decide +kernel
theorem sh_34 : sh 34 = (100, 4) := by decide +kernel
theorem sh_35 : sh 35 = (100, 4) := by decide +kernel
theorem sh_36 : sh 36 = (2, 7) := by decide +kernel
theorem sh_37 : sh 37 = (100, 4) := by decide +kernel
theorem sh_38 : sh 38 = (100, 4) := by decide +kernel
theorem sh_39 : sh 39 = (2, 7) := by decide +kernel
theorem sh_40 : sh 40 = (100, 4) := by decide +kernel
theorem sh_41 : sh 41 = (100, 4) := by decide +kernel
theorem sh_42 : sh 42 = (2, 7) := by decide +kernel
theorem sh_43 : sh 43 = (100, 4) := by decide +kernel
theorem sh_44 : sh 44 = (100, 4) := by decide +kernel
theorem sh_45 : sh 45 = (2, 7) := by decide +kernel
theorem sh_46 : sh 46 = (100, 4) := by decide +kernel
theorem sh_47 : sh 47 = (100, 4) := by decide +kernel
theorem sh_48 : sh 48 = (2, 7) := by decide +kernel
theorem sh_49 : sh 49 = (100, 4) := by decide +kernel
theorem sh_50 : sh 50 = (100, 4) := by decide +kernel
theorem sh_51 : sh 51 = (100, 3) := by decide +kernel
theorem sh_52 : sh 52 = (102, 3) := by decide +kernel
theorem sh_53 : sh 53 = (100, 40) := by decide +kernel
theorem sh_54 : sh 54 = (100, 400) := by decide +kernel
theorem sh_55 : sh 55 = (100, 10) := by decide +kernel
