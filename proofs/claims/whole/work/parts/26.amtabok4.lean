set_option maxRecDepth 100000 in
theorem ko_0 : (if false = true then Cond.constantLong (am_cn 4) 100 ((-1000000 : Int32)).toInt64 ∈ lw_good else Cond.constant (am_cn 4) 100 (-1000000 : Int32) ∈ lw_good) := am_gd 345 (by decide +kernel) rfl
set_option maxRecDepth 100000 in
theorem ko_1 : (if true = true then Cond.constantLong (am_cn 5) 67 ((2000 : Int32)).toInt64 ∈ lw_good else Cond.constant (am_cn 5) 67 (2000 : Int32) ∈ lw_good) := am_gd 626 (by decide +kernel) rfl
set_option maxRecDepth 100000 in
theorem ko_2 : (if true = true then Cond.constantLong (am_cn 5) 80 ((3 : Int32)).toInt64 ∈ lw_good else Cond.constant (am_cn 5) 80 (3 : Int32) ∈ lw_good) := am_gd 634 (by decide +kernel) rfl
set_option maxRecDepth 100000 in
theorem ko_3 : (if true = true then Cond.constantLong (am_cn 5) 82 ((400 : Int32)).toInt64 ∈ lw_good else Cond.constant (am_cn 5) 82 (400 : Int32) ∈ lw_good) := am_gd 639 (by decide +kernel) rfl
set_option maxRecDepth 100000 in
theorem ko_4 : (if true = true then Cond.constantLong (am_cn 5) 87 ((4000 : Int32)).toInt64 ∈ lw_good else Cond.constant (am_cn 5) 87 (4000 : Int32) ∈ lw_good) := am_gd 644 (by decide +kernel) rfl
set_option maxRecDepth 100000 in
theorem ko_5 : (if false = true then Cond.constantLong (am_cn 5) 99 ((-1000000 : Int32)).toInt64 ∈ lw_good else Cond.constant (am_cn 5) 99 (-1000000 : Int32) ∈ lw_good) := am_gd 673 (by decide +kernel) rfl
set_option maxRecDepth 100000 in
theorem ko_6 : (if true = true then Cond.constantLong (am_cn 5) 108 ((5 : Int32)).toInt64 ∈ lw_good else Cond.constant (am_cn 5) 108 (5 : Int32) ∈ lw_good) := am_gd 686 (by decide +kernel) rfl
set_option maxRecDepth 100000 in
theorem ko_7 : (if true = true then Cond.constantLong (am_cn 5) 195 ((2 : Int32)).toInt64 ∈ lw_good else Cond.constant (am_cn 5) 195 (2 : Int32) ∈ lw_good) := am_gd 792 (by decide +kernel) rfl
set_option maxRecDepth 100000 in
theorem ko_8 : (if false = true then Cond.constantLong (am_cn 6) 265 ((1431655765 : Int32)).toInt64 ∈ lw_good else Cond.constant (am_cn 6) 265 (1431655765 : Int32) ∈ lw_good) := am_gd 438 (by decide +kernel) rfl
set_option maxRecDepth 100000 in
theorem ko_9 : (if false = true then Cond.constantLong (am_cn 6) 266 ((858993459 : Int32)).toInt64 ∈ lw_good else Cond.constant (am_cn 6) 266 (858993459 : Int32) ∈ lw_good) := am_gd 439 (by decide +kernel) rfl
set_option maxRecDepth 100000 in
theorem ko_10 : (if false = true then Cond.constantLong (am_cn 6) 267 ((252645135 : Int32)).toInt64 ∈ lw_good else Cond.constant (am_cn 6) 267 (252645135 : Int32) ∈ lw_good) := am_gd 440 (by decide +kernel) rfl
set_option maxRecDepth 100000 in
theorem no_0 : (if (99 : Nat) = 99 then Cond.classLink (am_cn 0) 21 "[[I" ∈ lw_good else 99 < 6 ∧ Cond.classLink (am_cn 0) 21 (am_cn 99) ∈ lw_good) := am_gd 155 rfl rfl
set_option maxRecDepth 100000 in
theorem no_1 : (if (99 : Nat) = 99 then Cond.classLink (am_cn 1) 15 "[[I" ∈ lw_good else 99 < 6 ∧ Cond.classLink (am_cn 1) 15 (am_cn 99) ∈ lw_good) := am_gd 134 rfl rfl
set_option maxRecDepth 100000 in
theorem no_2 : (if (99 : Nat) = 99 then Cond.classLink (am_cn 2) 29 "[[I" ∈ lw_good else 99 < 6 ∧ Cond.classLink (am_cn 2) 29 (am_cn 99) ∈ lw_good) := am_gd 90 rfl rfl
set_option maxRecDepth 100000 in
theorem no_3 : (if (99 : Nat) = 99 then Cond.classLink (am_cn 3) 22 "[[I" ∈ lw_good else 99 < 6 ∧ Cond.classLink (am_cn 3) 22 (am_cn 99) ∈ lw_good) := am_gd 186 rfl rfl
set_option maxRecDepth 100000 in
theorem no_4 : (if (2 : Nat) = 99 then Cond.classLink (am_cn 4) 9 "[[I" ∈ lw_good else 2 < 6 ∧ Cond.classLink (am_cn 4) 9 (am_cn 2) ∈ lw_good) := ⟨by decide, am_gd 84 rfl rfl⟩
set_option maxRecDepth 100000 in
theorem no_5 : (if (1 : Nat) = 99 then Cond.classLink (am_cn 4) 16 "[[I" ∈ lw_good else 1 < 6 ∧ Cond.classLink (am_cn 4) 16 (am_cn 1) ∈ lw_good) := ⟨by decide, am_gd 128 rfl rfl⟩
set_option maxRecDepth 100000 in
theorem no_6 : (if (0 : Nat) = 99 then Cond.classLink (am_cn 4) 23 "[[I" ∈ lw_good else 0 < 6 ∧ Cond.classLink (am_cn 4) 23 (am_cn 0) ∈ lw_good) := ⟨by decide, am_gd 149 rfl rfl⟩
set_option maxRecDepth 100000 in
theorem no_7 : (if (3 : Nat) = 99 then Cond.classLink (am_cn 4) 30 "[[I" ∈ lw_good else 3 < 6 ∧ Cond.classLink (am_cn 4) 30 (am_cn 3) ∈ lw_good) := ⟨by decide, am_gd 180 rfl rfl⟩
set_option maxRecDepth 100000 in
theorem no_8 : (if (4 : Nat) = 99 then Cond.classLink (am_cn 8) 7 "[[I" ∈ lw_good else 4 < 6 ∧ Cond.classLink (am_cn 8) 7 (am_cn 4) ∈ lw_good) := ⟨by decide, am_gd 76 rfl rfl⟩
set_option maxRecDepth 100000 in
theorem no_9 : (if (5 : Nat) = 99 then Cond.classLink (am_cn 8) 10 "[[I" ∈ lw_good else 5 < 6 ∧ Cond.classLink (am_cn 8) 10 (am_cn 5) ∈ lw_good) := ⟨by decide, am_gd 536 rfl rfl⟩
