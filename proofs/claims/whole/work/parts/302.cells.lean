/-! each fixed cell by its name -/
section
variable {z : Nat} {h : Hp}
theorem fk_0 (hF : fxd z h) : h.1 z = 11 := hF.1 0 (by decide)
theorem fr_0_0 (hF : fxd z h) : h.2.2.2.1 z 0 = some (z + 1) := hF.2.2.1 0 0 1 rfl
theorem fr_0_1 (hF : fxd z h) : h.2.2.2.1 z 1 = some (z + 3) := hF.2.2.1 0 1 3 rfl
theorem fr_0_2 (hF : fxd z h) : h.2.2.2.1 z 2 = some (z + 5) := hF.2.2.1 0 2 5 rfl
theorem fr_0_3 (hF : fxd z h) : h.2.2.2.1 z 3 = some (z + 8) := hF.2.2.1 0 3 8 rfl
theorem fr_0_4 (hF : fxd z h) : h.2.2.2.1 z 4 = some (z + 11) := hF.2.2.1 0 4 11 rfl
theorem fr_0_5 (hF : fxd z h) : h.2.2.2.1 z 5 = some (z + 15) := hF.2.2.1 0 5 15 rfl
theorem fr_0_6 (hF : fxd z h) : h.2.2.2.1 z 6 = some (z + 35) := hF.2.2.1 0 6 35 rfl
theorem fr_0_7 (hF : fxd z h) : h.2.2.2.1 z 7 = some (z + 39) := hF.2.2.1 0 7 39 rfl
theorem fk_1 (hF : fxd z h) : h.1 (z + 1) = 3 := hF.1 1 (by decide)
theorem fr_1_0 (hF : fxd z h) : h.2.2.2.1 (z + 1) 0 = some (z + 2) := hF.2.2.1 1 0 2 rfl
theorem fk_2 (hF : fxd z h) : h.1 (z + 2) = 17 := hF.1 2 (by decide)
theorem fl_2 (hF : fxd z h) : h.2.1 (z + 2) = 40 := hF.2.1 2 (by decide)
theorem fk_3 (hF : fxd z h) : h.1 (z + 3) = 10 := hF.1 3 (by decide)
theorem fr_3_0 (hF : fxd z h) : h.2.2.2.1 (z + 3) 0 = some (z + 4) := hF.2.2.1 3 0 4 rfl
theorem fk_4 (hF : fxd z h) : h.1 (z + 4) = 13 := hF.1 4 (by decide)
theorem fl_4 (hF : fxd z h) : h.2.1 (z + 4) = 40 := hF.2.1 4 (by decide)
theorem fk_5 (hF : fxd z h) : h.1 (z + 5) = 8 := hF.1 5 (by decide)
theorem fr_5_0 (hF : fxd z h) : h.2.2.2.1 (z + 5) 0 = some (z + 6) := hF.2.2.1 5 0 6 rfl
theorem fr_5_1 (hF : fxd z h) : h.2.2.2.1 (z + 5) 1 = some (z + 7) := hF.2.2.1 5 1 7 rfl
theorem fk_6 (hF : fxd z h) : h.1 (z + 6) = 14 := hF.1 6 (by decide)
theorem fl_6 (hF : fxd z h) : h.2.1 (z + 6) = 40 := hF.2.1 6 (by decide)
theorem fk_7 (hF : fxd z h) : h.1 (z + 7) = 14 := hF.1 7 (by decide)
theorem fl_7 (hF : fxd z h) : h.2.1 (z + 7) = 40 := hF.2.1 7 (by decide)
theorem fk_8 (hF : fxd z h) : h.1 (z + 8) = 2 := hF.1 8 (by decide)
theorem fr_8_0 (hF : fxd z h) : h.2.2.2.1 (z + 8) 0 = some (z + 9) := hF.2.2.1 8 0 9 rfl
theorem fr_8_1 (hF : fxd z h) : h.2.2.2.1 (z + 8) 1 = some (z + 10) := hF.2.2.1 8 1 10 rfl
theorem fk_9 (hF : fxd z h) : h.1 (z + 9) = 15 := hF.1 9 (by decide)
theorem fl_9 (hF : fxd z h) : h.2.1 (z + 9) = 12 := hF.2.1 9 (by decide)
theorem fk_10 (hF : fxd z h) : h.1 (z + 10) = 13 := hF.1 10 (by decide)
theorem fl_10 (hF : fxd z h) : h.2.1 (z + 10) = 12 := hF.2.1 10 (by decide)
theorem fk_11 (hF : fxd z h) : h.1 (z + 11) = 5 := hF.1 11 (by decide)
theorem fr_11_0 (hF : fxd z h) : h.2.2.2.1 (z + 11) 0 = some (z + 12) := hF.2.2.1 11 0 12 rfl
theorem fr_11_1 (hF : fxd z h) : h.2.2.2.1 (z + 11) 1 = some (z + 13) := hF.2.2.1 11 1 13 rfl
theorem fr_11_2 (hF : fxd z h) : h.2.2.2.1 (z + 11) 2 = some (z + 14) := hF.2.2.1 11 2 14 rfl
theorem fk_12 (hF : fxd z h) : h.1 (z + 12) = 13 := hF.1 12 (by decide)
theorem fl_12 (hF : fxd z h) : h.2.1 (z + 12) = 6 := hF.2.1 12 (by decide)
theorem fk_13 (hF : fxd z h) : h.1 (z + 13) = 13 := hF.1 13 (by decide)
theorem fl_13 (hF : fxd z h) : h.2.1 (z + 13) = 6 := hF.2.1 13 (by decide)
theorem fk_14 (hF : fxd z h) : h.1 (z + 14) = 16 := hF.1 14 (by decide)
theorem fl_14 (hF : fxd z h) : h.2.1 (z + 14) = 6 := hF.2.1 14 (by decide)
theorem fk_15 (hF : fxd z h) : h.1 (z + 15) = 7 := hF.1 15 (by decide)
theorem fr_15_0 (hF : fxd z h) : h.2.2.2.1 (z + 15) 0 = some (z + 16) := hF.2.2.1 15 0 16 rfl
theorem fr_15_1 (hF : fxd z h) : h.2.2.2.1 (z + 15) 1 = some (z + 17) := hF.2.2.1 15 1 17 rfl
theorem fr_15_5 (hF : fxd z h) : h.2.2.2.1 (z + 15) 5 = some (z + 18) := hF.2.2.1 15 5 18 rfl
theorem fr_15_6 (hF : fxd z h) : h.2.2.2.1 (z + 15) 6 = some (z + 19) := hF.2.2.1 15 6 19 rfl
theorem fr_15_7 (hF : fxd z h) : h.2.2.2.1 (z + 15) 7 = some (z + 20) := hF.2.2.1 15 7 20 rfl
theorem fr_15_8 (hF : fxd z h) : h.2.2.2.1 (z + 15) 8 = some (z + 21) := hF.2.2.1 15 8 21 rfl
theorem fr_15_9 (hF : fxd z h) : h.2.2.2.1 (z + 15) 9 = some (z + 28) := hF.2.2.1 15 9 28 rfl
theorem fk_16 (hF : fxd z h) : h.1 (z + 16) = 13 := hF.1 16 (by decide)
theorem fl_16 (hF : fxd z h) : h.2.1 (z + 16) = 8 := hF.2.1 16 (by decide)
theorem fk_17 (hF : fxd z h) : h.1 (z + 17) = 13 := hF.1 17 (by decide)
theorem fl_17 (hF : fxd z h) : h.2.1 (z + 17) = 8 := hF.2.1 17 (by decide)
theorem fk_18 (hF : fxd z h) : h.1 (z + 18) = 13 := hF.1 18 (by decide)
theorem fl_18 (hF : fxd z h) : h.2.1 (z + 18) = 256 := hF.2.1 18 (by decide)
theorem fk_19 (hF : fxd z h) : h.1 (z + 19) = 13 := hF.1 19 (by decide)
theorem fl_19 (hF : fxd z h) : h.2.1 (z + 19) = 256 := hF.2.1 19 (by decide)
theorem fk_20 (hF : fxd z h) : h.1 (z + 20) = 13 := hF.1 20 (by decide)
theorem fl_20 (hF : fxd z h) : h.2.1 (z + 20) = 256 := hF.2.1 20 (by decide)
theorem fk_21 (hF : fxd z h) : h.1 (z + 21) = 18 := hF.1 21 (by decide)
theorem fl_21 (hF : fxd z h) : h.2.1 (z + 21) = 6 := hF.2.1 21 (by decide)
theorem fr_21_0 (hF : fxd z h) : h.2.2.2.1 (z + 21) 0 = some (z + 22) := hF.2.2.1 21 0 22 rfl
theorem fr_21_1 (hF : fxd z h) : h.2.2.2.1 (z + 21) 1 = some (z + 23) := hF.2.2.1 21 1 23 rfl
theorem fr_21_2 (hF : fxd z h) : h.2.2.2.1 (z + 21) 2 = some (z + 24) := hF.2.2.1 21 2 24 rfl
theorem fr_21_3 (hF : fxd z h) : h.2.2.2.1 (z + 21) 3 = some (z + 25) := hF.2.2.1 21 3 25 rfl
theorem fr_21_4 (hF : fxd z h) : h.2.2.2.1 (z + 21) 4 = some (z + 26) := hF.2.2.1 21 4 26 rfl
theorem fr_21_5 (hF : fxd z h) : h.2.2.2.1 (z + 21) 5 = some (z + 27) := hF.2.2.1 21 5 27 rfl
theorem fk_22 (hF : fxd z h) : h.1 (z + 22) = 13 := hF.1 22 (by decide)
theorem fl_22 (hF : fxd z h) : h.2.1 (z + 22) = 256 := hF.2.1 22 (by decide)
theorem fk_23 (hF : fxd z h) : h.1 (z + 23) = 13 := hF.1 23 (by decide)
theorem fl_23 (hF : fxd z h) : h.2.1 (z + 23) = 256 := hF.2.1 23 (by decide)
theorem fk_24 (hF : fxd z h) : h.1 (z + 24) = 13 := hF.1 24 (by decide)
theorem fl_24 (hF : fxd z h) : h.2.1 (z + 24) = 256 := hF.2.1 24 (by decide)
theorem fk_25 (hF : fxd z h) : h.1 (z + 25) = 13 := hF.1 25 (by decide)
theorem fl_25 (hF : fxd z h) : h.2.1 (z + 25) = 256 := hF.2.1 25 (by decide)
theorem fk_26 (hF : fxd z h) : h.1 (z + 26) = 13 := hF.1 26 (by decide)
theorem fl_26 (hF : fxd z h) : h.2.1 (z + 26) = 256 := hF.2.1 26 (by decide)
theorem fk_27 (hF : fxd z h) : h.1 (z + 27) = 13 := hF.1 27 (by decide)
theorem fl_27 (hF : fxd z h) : h.2.1 (z + 27) = 256 := hF.2.1 27 (by decide)
theorem fk_28 (hF : fxd z h) : h.1 (z + 28) = 18 := hF.1 28 (by decide)
theorem fl_28 (hF : fxd z h) : h.2.1 (z + 28) = 6 := hF.2.1 28 (by decide)
theorem fr_28_0 (hF : fxd z h) : h.2.2.2.1 (z + 28) 0 = some (z + 29) := hF.2.2.1 28 0 29 rfl
theorem fr_28_1 (hF : fxd z h) : h.2.2.2.1 (z + 28) 1 = some (z + 30) := hF.2.2.1 28 1 30 rfl
theorem fr_28_2 (hF : fxd z h) : h.2.2.2.1 (z + 28) 2 = some (z + 31) := hF.2.2.1 28 2 31 rfl
theorem fr_28_3 (hF : fxd z h) : h.2.2.2.1 (z + 28) 3 = some (z + 32) := hF.2.2.1 28 3 32 rfl
theorem fr_28_4 (hF : fxd z h) : h.2.2.2.1 (z + 28) 4 = some (z + 33) := hF.2.2.1 28 4 33 rfl
theorem fr_28_5 (hF : fxd z h) : h.2.2.2.1 (z + 28) 5 = some (z + 34) := hF.2.2.1 28 5 34 rfl
theorem fk_29 (hF : fxd z h) : h.1 (z + 29) = 13 := hF.1 29 (by decide)
theorem fl_29 (hF : fxd z h) : h.2.1 (z + 29) = 256 := hF.2.1 29 (by decide)
theorem fk_30 (hF : fxd z h) : h.1 (z + 30) = 13 := hF.1 30 (by decide)
theorem fl_30 (hF : fxd z h) : h.2.1 (z + 30) = 256 := hF.2.1 30 (by decide)
theorem fk_31 (hF : fxd z h) : h.1 (z + 31) = 13 := hF.1 31 (by decide)
theorem fl_31 (hF : fxd z h) : h.2.1 (z + 31) = 256 := hF.2.1 31 (by decide)
theorem fk_32 (hF : fxd z h) : h.1 (z + 32) = 13 := hF.1 32 (by decide)
theorem fl_32 (hF : fxd z h) : h.2.1 (z + 32) = 256 := hF.2.1 32 (by decide)
theorem fk_33 (hF : fxd z h) : h.1 (z + 33) = 13 := hF.1 33 (by decide)
theorem fl_33 (hF : fxd z h) : h.2.1 (z + 33) = 256 := hF.2.1 33 (by decide)
theorem fk_34 (hF : fxd z h) : h.1 (z + 34) = 13 := hF.1 34 (by decide)
theorem fl_34 (hF : fxd z h) : h.2.1 (z + 34) = 256 := hF.2.1 34 (by decide)
theorem fk_35 (hF : fxd z h) : h.1 (z + 35) = 9 := hF.1 35 (by decide)
theorem fr_35_6 (hF : fxd z h) : h.2.2.2.1 (z + 35) 6 = some (z + 36) := hF.2.2.1 35 6 36 rfl
theorem fr_35_7 (hF : fxd z h) : h.2.2.2.1 (z + 35) 7 = some (z + 37) := hF.2.2.1 35 7 37 rfl
theorem fr_35_8 (hF : fxd z h) : h.2.2.2.1 (z + 35) 8 = some (z + 38) := hF.2.2.1 35 8 38 rfl
theorem fk_36 (hF : fxd z h) : h.1 (z + 36) = 13 := hF.1 36 (by decide)
theorem fl_36 (hF : fxd z h) : h.2.1 (z + 36) = 60 := hF.2.1 36 (by decide)
theorem fk_37 (hF : fxd z h) : h.1 (z + 37) = 13 := hF.1 37 (by decide)
theorem fl_37 (hF : fxd z h) : h.2.1 (z + 37) = 60 := hF.2.1 37 (by decide)
theorem fk_38 (hF : fxd z h) : h.1 (z + 38) = 14 := hF.1 38 (by decide)
theorem fl_38 (hF : fxd z h) : h.2.1 (z + 38) = 40 := hF.2.1 38 (by decide)
theorem fk_39 (hF : fxd z h) : h.1 (z + 39) = 9 := hF.1 39 (by decide)
theorem fr_39_6 (hF : fxd z h) : h.2.2.2.1 (z + 39) 6 = some (z + 40) := hF.2.2.1 39 6 40 rfl
theorem fr_39_7 (hF : fxd z h) : h.2.2.2.1 (z + 39) 7 = some (z + 41) := hF.2.2.1 39 7 41 rfl
theorem fr_39_8 (hF : fxd z h) : h.2.2.2.1 (z + 39) 8 = some (z + 42) := hF.2.2.1 39 8 42 rfl
theorem fk_40 (hF : fxd z h) : h.1 (z + 40) = 13 := hF.1 40 (by decide)
theorem fl_40 (hF : fxd z h) : h.2.1 (z + 40) = 60 := hF.2.1 40 (by decide)
theorem fk_41 (hF : fxd z h) : h.1 (z + 41) = 13 := hF.1 41 (by decide)
theorem fl_41 (hF : fxd z h) : h.2.1 (z + 41) = 60 := hF.2.1 41 (by decide)
theorem fk_42 (hF : fxd z h) : h.1 (z + 42) = 14 := hF.1 42 (by decide)
theorem fl_42 (hF : fxd z h) : h.2.1 (z + 42) = 40 := hF.2.1 42 (by decide)
theorem fk_43 (hF : fxd z h) : h.1 (z + 43) = 12 := hF.1 43 (by decide)
theorem fr_43_1 (hF : fxd z h) : h.2.2.2.1 (z + 43) 1 = some (z + 44) := hF.2.2.1 43 1 44 rfl
theorem fr_43_2 (hF : fxd z h) : h.2.2.2.1 (z + 43) 2 = some (z + 45) := hF.2.2.1 43 2 45 rfl
theorem fr_43_3 (hF : fxd z h) : h.2.2.2.1 (z + 43) 3 = some (z + 46) := hF.2.2.1 43 3 46 rfl
theorem fr_43_4 (hF : fxd z h) : h.2.2.2.1 (z + 43) 4 = some (z + 47) := hF.2.2.1 43 4 47 rfl
theorem fr_43_5 (hF : fxd z h) : h.2.2.2.1 (z + 43) 5 = some (z + 48) := hF.2.2.1 43 5 48 rfl
theorem fr_43_6 (hF : fxd z h) : h.2.2.2.1 (z + 43) 6 = some (z + 49) := hF.2.2.1 43 6 49 rfl
theorem fr_43_7 (hF : fxd z h) : h.2.2.2.1 (z + 43) 7 = some (z + 50) := hF.2.2.1 43 7 50 rfl
theorem fr_43_8 (hF : fxd z h) : h.2.2.2.1 (z + 43) 8 = some (z + 51) := hF.2.2.1 43 8 51 rfl
theorem fr_43_9 (hF : fxd z h) : h.2.2.2.1 (z + 43) 9 = some (z + 52) := hF.2.2.1 43 9 52 rfl
theorem fr_43_10 (hF : fxd z h) : h.2.2.2.1 (z + 43) 10 = some (z + 53) := hF.2.2.1 43 10 53 rfl
theorem fr_43_11 (hF : fxd z h) : h.2.2.2.1 (z + 43) 11 = some (z + 54) := hF.2.2.1 43 11 54 rfl
theorem fr_43_12 (hF : fxd z h) : h.2.2.2.1 (z + 43) 12 = some (z + 55) := hF.2.2.1 43 12 55 rfl
theorem fr_43_13 (hF : fxd z h) : h.2.2.2.1 (z + 43) 13 = some (z + 56) := hF.2.2.1 43 13 56 rfl
theorem fr_43_14 (hF : fxd z h) : h.2.2.2.1 (z + 43) 14 = some (z + 57) := hF.2.2.1 43 14 57 rfl
theorem fr_43_16 (hF : fxd z h) : h.2.2.2.1 (z + 43) 16 = some (z + 58) := hF.2.2.1 43 16 58 rfl
theorem fr_43_17 (hF : fxd z h) : h.2.2.2.1 (z + 43) 17 = some (z + 59) := hF.2.2.1 43 17 59 rfl
theorem fr_43_18 (hF : fxd z h) : h.2.2.2.1 (z + 43) 18 = some (z + 60) := hF.2.2.1 43 18 60 rfl
theorem fr_43_19 (hF : fxd z h) : h.2.2.2.1 (z + 43) 19 = some (z + 61) := hF.2.2.1 43 19 61 rfl
theorem fr_43_20 (hF : fxd z h) : h.2.2.2.1 (z + 43) 20 = some (z + 62) := hF.2.2.1 43 20 62 rfl
theorem fr_43_21 (hF : fxd z h) : h.2.2.2.1 (z + 43) 21 = some (z + 63) := hF.2.2.1 43 21 63 rfl
theorem fr_43_27 (hF : fxd z h) : h.2.2.2.1 (z + 43) 27 = some (z + 64) := hF.2.2.1 43 27 64 rfl
theorem fr_43_28 (hF : fxd z h) : h.2.2.2.1 (z + 43) 28 = some (z + 65) := hF.2.2.1 43 28 65 rfl
theorem fr_43_29 (hF : fxd z h) : h.2.2.2.1 (z + 43) 29 = some (z + 66) := hF.2.2.1 43 29 66 rfl
theorem fr_43_30 (hF : fxd z h) : h.2.2.2.1 (z + 43) 30 = some (z + 67) := hF.2.2.1 43 30 67 rfl
theorem fr_43_36 (hF : fxd z h) : h.2.2.2.1 (z + 43) 36 = some (z + 68) := hF.2.2.1 43 36 68 rfl
theorem fr_43_42 (hF : fxd z h) : h.2.2.2.1 (z + 43) 42 = some (z + 69) := hF.2.2.1 43 42 69 rfl
theorem fr_43_43 (hF : fxd z h) : h.2.2.2.1 (z + 43) 43 = some (z + 70) := hF.2.2.1 43 43 70 rfl
theorem fr_43_44 (hF : fxd z h) : h.2.2.2.1 (z + 43) 44 = some (z + 71) := hF.2.2.1 43 44 71 rfl
theorem fr_43_45 (hF : fxd z h) : h.2.2.2.1 (z + 43) 45 = some (z + 72) := hF.2.2.1 43 45 72 rfl
theorem fr_43_46 (hF : fxd z h) : h.2.2.2.1 (z + 43) 46 = some (z + 73) := hF.2.2.1 43 46 73 rfl
theorem fr_43_47 (hF : fxd z h) : h.2.2.2.1 (z + 43) 47 = some (z + 74) := hF.2.2.1 43 47 74 rfl
theorem fr_43_48 (hF : fxd z h) : h.2.2.2.1 (z + 43) 48 = some (z + 75) := hF.2.2.1 43 48 75 rfl
theorem fr_43_49 (hF : fxd z h) : h.2.2.2.1 (z + 43) 49 = some (z + 76) := hF.2.2.1 43 49 76 rfl
theorem fr_43_50 (hF : fxd z h) : h.2.2.2.1 (z + 43) 50 = some (z + 77) := hF.2.2.1 43 50 77 rfl
theorem fr_43_51 (hF : fxd z h) : h.2.2.2.1 (z + 43) 51 = some (z + 78) := hF.2.2.1 43 51 78 rfl
theorem fr_43_52 (hF : fxd z h) : h.2.2.2.1 (z + 43) 52 = some (z + 79) := hF.2.2.1 43 52 79 rfl
theorem fr_43_55 (hF : fxd z h) : h.2.2.2.1 (z + 43) 55 = some (z + 80) := hF.2.2.1 43 55 80 rfl
theorem fr_43_56 (hF : fxd z h) : h.2.2.2.1 (z + 43) 56 = some (z + 81) := hF.2.2.1 43 56 81 rfl
theorem fk_44 (hF : fxd z h) : h.1 (z + 44) = 13 := hF.1 44 (by decide)
theorem fl_44 (hF : fxd z h) : h.2.1 (z + 44) = 40 := hF.2.1 44 (by decide)
theorem fk_45 (hF : fxd z h) : h.1 (z + 45) = 13 := hF.1 45 (by decide)
theorem fl_45 (hF : fxd z h) : h.2.1 (z + 45) = 40 := hF.2.1 45 (by decide)
theorem fk_46 (hF : fxd z h) : h.1 (z + 46) = 13 := hF.1 46 (by decide)
theorem fl_46 (hF : fxd z h) : h.2.1 (z + 46) = 40 := hF.2.1 46 (by decide)
theorem fk_47 (hF : fxd z h) : h.1 (z + 47) = 13 := hF.1 47 (by decide)
theorem fl_47 (hF : fxd z h) : h.2.1 (z + 47) = 40 := hF.2.1 47 (by decide)
theorem fk_48 (hF : fxd z h) : h.1 (z + 48) = 13 := hF.1 48 (by decide)
theorem fl_48 (hF : fxd z h) : h.2.1 (z + 48) = 40 := hF.2.1 48 (by decide)
theorem fk_49 (hF : fxd z h) : h.1 (z + 49) = 13 := hF.1 49 (by decide)
theorem fl_49 (hF : fxd z h) : h.2.1 (z + 49) = 40 := hF.2.1 49 (by decide)
theorem fk_50 (hF : fxd z h) : h.1 (z + 50) = 13 := hF.1 50 (by decide)
theorem fl_50 (hF : fxd z h) : h.2.1 (z + 50) = 40 := hF.2.1 50 (by decide)
theorem fk_51 (hF : fxd z h) : h.1 (z + 51) = 13 := hF.1 51 (by decide)
theorem fl_51 (hF : fxd z h) : h.2.1 (z + 51) = 40 := hF.2.1 51 (by decide)
theorem fk_52 (hF : fxd z h) : h.1 (z + 52) = 13 := hF.1 52 (by decide)
theorem fl_52 (hF : fxd z h) : h.2.1 (z + 52) = 40 := hF.2.1 52 (by decide)
theorem fk_53 (hF : fxd z h) : h.1 (z + 53) = 13 := hF.1 53 (by decide)
theorem fl_53 (hF : fxd z h) : h.2.1 (z + 53) = 40 := hF.2.1 53 (by decide)
theorem fk_54 (hF : fxd z h) : h.1 (z + 54) = 13 := hF.1 54 (by decide)
theorem fl_54 (hF : fxd z h) : h.2.1 (z + 54) = 240 := hF.2.1 54 (by decide)
theorem fk_55 (hF : fxd z h) : h.1 (z + 55) = 13 := hF.1 55 (by decide)
theorem fl_55 (hF : fxd z h) : h.2.1 (z + 55) = 240 := hF.2.1 55 (by decide)
theorem fk_56 (hF : fxd z h) : h.1 (z + 56) = 13 := hF.1 56 (by decide)
theorem fl_56 (hF : fxd z h) : h.2.1 (z + 56) = 240 := hF.2.1 56 (by decide)
theorem fk_57 (hF : fxd z h) : h.1 (z + 57) = 13 := hF.1 57 (by decide)
theorem fl_57 (hF : fxd z h) : h.2.1 (z + 57) = 240 := hF.2.1 57 (by decide)
theorem fk_58 (hF : fxd z h) : h.1 (z + 58) = 13 := hF.1 58 (by decide)
theorem fl_58 (hF : fxd z h) : h.2.1 (z + 58) = 12 := hF.2.1 58 (by decide)
theorem fk_59 (hF : fxd z h) : h.1 (z + 59) = 13 := hF.1 59 (by decide)
theorem fl_59 (hF : fxd z h) : h.2.1 (z + 59) = 12 := hF.2.1 59 (by decide)
theorem fk_60 (hF : fxd z h) : h.1 (z + 60) = 13 := hF.1 60 (by decide)
theorem fl_60 (hF : fxd z h) : h.2.1 (z + 60) = 12 := hF.2.1 60 (by decide)
theorem fk_61 (hF : fxd z h) : h.1 (z + 61) = 13 := hF.1 61 (by decide)
theorem fl_61 (hF : fxd z h) : h.2.1 (z + 61) = 12 := hF.2.1 61 (by decide)
theorem fk_62 (hF : fxd z h) : h.1 (z + 62) = 13 := hF.1 62 (by decide)
theorem fl_62 (hF : fxd z h) : h.2.1 (z + 62) = 12 := hF.2.1 62 (by decide)
theorem fk_63 (hF : fxd z h) : h.1 (z + 63) = 13 := hF.1 63 (by decide)
theorem fl_63 (hF : fxd z h) : h.2.1 (z + 63) = 12 := hF.2.1 63 (by decide)
theorem fk_64 (hF : fxd z h) : h.1 (z + 64) = 13 := hF.1 64 (by decide)
theorem fl_64 (hF : fxd z h) : h.2.1 (z + 64) = 60 := hF.2.1 64 (by decide)
theorem fk_65 (hF : fxd z h) : h.1 (z + 65) = 13 := hF.1 65 (by decide)
theorem fl_65 (hF : fxd z h) : h.2.1 (z + 65) = 60 := hF.2.1 65 (by decide)
theorem fk_66 (hF : fxd z h) : h.1 (z + 66) = 13 := hF.1 66 (by decide)
theorem fl_66 (hF : fxd z h) : h.2.1 (z + 66) = 8 := hF.2.1 66 (by decide)
theorem fk_67 (hF : fxd z h) : h.1 (z + 67) = 13 := hF.1 67 (by decide)
theorem fl_67 (hF : fxd z h) : h.2.1 (z + 67) = 8 := hF.2.1 67 (by decide)
theorem fk_68 (hF : fxd z h) : h.1 (z + 68) = 13 := hF.1 68 (by decide)
theorem fl_68 (hF : fxd z h) : h.2.1 (z + 68) = 40 := hF.2.1 68 (by decide)
theorem fk_69 (hF : fxd z h) : h.1 (z + 69) = 14 := hF.1 69 (by decide)
theorem fl_69 (hF : fxd z h) : h.2.1 (z + 69) = 40 := hF.2.1 69 (by decide)
theorem fk_70 (hF : fxd z h) : h.1 (z + 70) = 13 := hF.1 70 (by decide)
theorem fl_70 (hF : fxd z h) : h.2.1 (z + 70) = 60 := hF.2.1 70 (by decide)
theorem fk_71 (hF : fxd z h) : h.1 (z + 71) = 13 := hF.1 71 (by decide)
theorem fl_71 (hF : fxd z h) : h.2.1 (z + 71) = 60 := hF.2.1 71 (by decide)
theorem fk_72 (hF : fxd z h) : h.1 (z + 72) = 14 := hF.1 72 (by decide)
theorem fl_72 (hF : fxd z h) : h.2.1 (z + 72) = 40 := hF.2.1 72 (by decide)
theorem fk_73 (hF : fxd z h) : h.1 (z + 73) = 14 := hF.1 73 (by decide)
theorem fl_73 (hF : fxd z h) : h.2.1 (z + 73) = 40 := hF.2.1 73 (by decide)
theorem fk_74 (hF : fxd z h) : h.1 (z + 74) = 14 := hF.1 74 (by decide)
theorem fl_74 (hF : fxd z h) : h.2.1 (z + 74) = 40 := hF.2.1 74 (by decide)
theorem fk_75 (hF : fxd z h) : h.1 (z + 75) = 13 := hF.1 75 (by decide)
theorem fl_75 (hF : fxd z h) : h.2.1 (z + 75) = 6 := hF.2.1 75 (by decide)
theorem fk_76 (hF : fxd z h) : h.1 (z + 76) = 13 := hF.1 76 (by decide)
theorem fl_76 (hF : fxd z h) : h.2.1 (z + 76) = 6 := hF.2.1 76 (by decide)
theorem fk_77 (hF : fxd z h) : h.1 (z + 77) = 13 := hF.1 77 (by decide)
theorem fl_77 (hF : fxd z h) : h.2.1 (z + 77) = 24 := hF.2.1 77 (by decide)
theorem fk_78 (hF : fxd z h) : h.1 (z + 78) = 13 := hF.1 78 (by decide)
theorem fl_78 (hF : fxd z h) : h.2.1 (z + 78) = 1792 := hF.2.1 78 (by decide)
theorem fk_79 (hF : fxd z h) : h.1 (z + 79) = 13 := hF.1 79 (by decide)
theorem fl_79 (hF : fxd z h) : h.2.1 (z + 79) = 256 := hF.2.1 79 (by decide)
theorem fk_80 (hF : fxd z h) : h.1 (z + 80) = 13 := hF.1 80 (by decide)
theorem fl_80 (hF : fxd z h) : h.2.1 (z + 80) = 256 := hF.2.1 80 (by decide)
theorem fk_81 (hF : fxd z h) : h.1 (z + 81) = 13 := hF.1 81 (by decide)
theorem fl_81 (hF : fxd z h) : h.2.1 (z + 81) = 8 := hF.2.1 81 (by decide)
end
