set_option maxRecDepth 100000 in
theorem fo_0 : (0 : Nat) < 6 ∧ 0 < am_nf 0 ∧ (if false = true then Cond.fieldLinkNest (am_cn 0) 9 (am_cn 0) (am_tbf 0 0).2.1 (am_tbf 0 0).2.2.1 am_host ∈ lw_tbl else Cond.fieldLink (am_cn 0) 9 (am_cn 0) (am_tbf 0 0).2.1 (am_tbf 0 0).2.2.1 ∈ lw_good) := ⟨by decide, by decide, am_gd 156 rfl rfl⟩
set_option maxRecDepth 100000 in
theorem fo_1 : (0 : Nat) < 6 ∧ 1 < am_nf 0 ∧ (if false = true then Cond.fieldLinkNest (am_cn 0) 15 (am_cn 0) (am_tbf 0 1).2.1 (am_tbf 0 1).2.2.1 am_host ∈ lw_tbl else Cond.fieldLink (am_cn 0) 15 (am_cn 0) (am_tbf 0 1).2.1 (am_tbf 0 1).2.2.1 ∈ lw_good) := ⟨by decide, by decide, am_gd 157 rfl rfl⟩
set_option maxRecDepth 100000 in
theorem fo_2 : (0 : Nat) < 6 ∧ 2 < am_nf 0 ∧ (if false = true then Cond.fieldLinkNest (am_cn 0) 18 (am_cn 0) (am_tbf 0 2).2.1 (am_tbf 0 2).2.2.1 am_host ∈ lw_tbl else Cond.fieldLink (am_cn 0) 18 (am_cn 0) (am_tbf 0 2).2.1 (am_tbf 0 2).2.2.1 ∈ lw_good) := ⟨by decide, by decide, am_gd 158 rfl rfl⟩
set_option maxRecDepth 100000 in
theorem fo_3 : (0 : Nat) < 6 ∧ 3 < am_nf 0 ∧ (if false = true then Cond.fieldLinkNest (am_cn 0) 23 (am_cn 0) (am_tbf 0 3).2.1 (am_tbf 0 3).2.2.1 am_host ∈ lw_tbl else Cond.fieldLink (am_cn 0) 23 (am_cn 0) (am_tbf 0 3).2.1 (am_tbf 0 3).2.2.1 ∈ lw_good) := ⟨by decide, by decide, am_gd 160 rfl rfl⟩
set_option maxRecDepth 100000 in
theorem fo_4 : (0 : Nat) < 6 ∧ 4 < am_nf 0 ∧ (if false = true then Cond.fieldLinkNest (am_cn 0) 26 (am_cn 0) (am_tbf 0 4).2.1 (am_tbf 0 4).2.2.1 am_host ∈ lw_tbl else Cond.fieldLink (am_cn 0) 26 (am_cn 0) (am_tbf 0 4).2.1 (am_tbf 0 4).2.2.1 ∈ lw_good) := ⟨by decide, by decide, am_gd 161 rfl rfl⟩
set_option maxRecDepth 100000 in
theorem fo_5 : (0 : Nat) < 6 ∧ 5 < am_nf 0 ∧ (if false = true then Cond.fieldLinkNest (am_cn 0) 29 (am_cn 0) (am_tbf 0 5).2.1 (am_tbf 0 5).2.2.1 am_host ∈ lw_tbl else Cond.fieldLink (am_cn 0) 29 (am_cn 0) (am_tbf 0 5).2.1 (am_tbf 0 5).2.2.1 ∈ lw_good) := ⟨by decide, by decide, am_gd 164 rfl rfl⟩
set_option maxRecDepth 100000 in
theorem fo_6 : (2 : Nat) < 6 ∧ 0 < am_nf 2 ∧ (if true = true then Cond.fieldLinkNest (am_cn 0) 32 (am_cn 2) (am_tbf 2 0).2.1 (am_tbf 2 0).2.2.1 am_host ∈ lw_tbl else Cond.fieldLink (am_cn 0) 32 (am_cn 2) (am_tbf 2 0).2.1 (am_tbf 2 0).2.2.1 ∈ lw_good) := ⟨by decide, by decide, am_td 95 rfl⟩
set_option maxRecDepth 100000 in
theorem fo_7 : (2 : Nat) < 6 ∧ 1 < am_nf 2 ∧ (if true = true then Cond.fieldLinkNest (am_cn 0) 49 (am_cn 2) (am_tbf 2 1).2.1 (am_tbf 2 1).2.2.1 am_host ∈ lw_tbl else Cond.fieldLink (am_cn 0) 49 (am_cn 2) (am_tbf 2 1).2.1 (am_tbf 2 1).2.2.1 ∈ lw_good) := ⟨by decide, by decide, am_td 99 rfl⟩
set_option maxRecDepth 100000 in
theorem fo_8 : (2 : Nat) < 6 ∧ 2 < am_nf 2 ∧ (if true = true then Cond.fieldLinkNest (am_cn 0) 52 (am_cn 2) (am_tbf 2 2).2.1 (am_tbf 2 2).2.2.1 am_host ∈ lw_tbl else Cond.fieldLink (am_cn 0) 52 (am_cn 2) (am_tbf 2 2).2.1 (am_tbf 2 2).2.2.1 ∈ lw_good) := ⟨by decide, by decide, am_td 103 rfl⟩
set_option maxRecDepth 100000 in
theorem fo_9 : (2 : Nat) < 6 ∧ 3 < am_nf 2 ∧ (if true = true then Cond.fieldLinkNest (am_cn 0) 59 (am_cn 2) (am_tbf 2 3).2.1 (am_tbf 2 3).2.2.1 am_host ∈ lw_tbl else Cond.fieldLink (am_cn 0) 59 (am_cn 2) (am_tbf 2 3).2.1 (am_tbf 2 3).2.2.1 ∈ lw_good) := ⟨by decide, by decide, am_td 108 rfl⟩
set_option maxRecDepth 100000 in
theorem fo_10 : (2 : Nat) < 6 ∧ 5 < am_nf 2 ∧ (if true = true then Cond.fieldLinkNest (am_cn 0) 77 (am_cn 2) (am_tbf 2 5).2.1 (am_tbf 2 5).2.2.1 am_host ∈ lw_tbl else Cond.fieldLink (am_cn 0) 77 (am_cn 2) (am_tbf 2 5).2.1 (am_tbf 2 5).2.2.1 ∈ lw_good) := ⟨by decide, by decide, am_td 111 rfl⟩
set_option maxRecDepth 100000 in
theorem fo_11 : (1 : Nat) < 6 ∧ 0 < am_nf 1 ∧ (if false = true then Cond.fieldLinkNest (am_cn 1) 9 (am_cn 1) (am_tbf 1 0).2.1 (am_tbf 1 0).2.2.1 am_host ∈ lw_tbl else Cond.fieldLink (am_cn 1) 9 (am_cn 1) (am_tbf 1 0).2.1 (am_tbf 1 0).2.2.1 ∈ lw_good) := ⟨by decide, by decide, am_gd 135 rfl rfl⟩
set_option maxRecDepth 100000 in
theorem fo_12 : (1 : Nat) < 6 ∧ 1 < am_nf 1 ∧ (if false = true then Cond.fieldLinkNest (am_cn 1) 17 (am_cn 1) (am_tbf 1 1).2.1 (am_tbf 1 1).2.2.1 am_host ∈ lw_tbl else Cond.fieldLink (am_cn 1) 17 (am_cn 1) (am_tbf 1 1).2.1 (am_tbf 1 1).2.2.1 ∈ lw_good) := ⟨by decide, by decide, am_gd 136 rfl rfl⟩
set_option maxRecDepth 100000 in
theorem fo_13 : (1 : Nat) < 6 ∧ 2 < am_nf 1 ∧ (if false = true then Cond.fieldLinkNest (am_cn 1) 20 (am_cn 1) (am_tbf 1 2).2.1 (am_tbf 1 2).2.2.1 am_host ∈ lw_tbl else Cond.fieldLink (am_cn 1) 20 (am_cn 1) (am_tbf 1 2).2.1 (am_tbf 1 2).2.2.1 ∈ lw_good) := ⟨by decide, by decide, am_gd 138 rfl rfl⟩
set_option maxRecDepth 100000 in
theorem fo_14 : (1 : Nat) < 6 ∧ 3 < am_nf 1 ∧ (if false = true then Cond.fieldLinkNest (am_cn 1) 24 (am_cn 1) (am_tbf 1 3).2.1 (am_tbf 1 3).2.2.1 am_host ∈ lw_tbl else Cond.fieldLink (am_cn 1) 24 (am_cn 1) (am_tbf 1 3).2.1 (am_tbf 1 3).2.2.1 ∈ lw_good) := ⟨by decide, by decide, am_gd 139 rfl rfl⟩
set_option maxRecDepth 100000 in
theorem fo_15 : (2 : Nat) < 6 ∧ 0 < am_nf 2 ∧ (if true = true then Cond.fieldLinkNest (am_cn 1) 27 (am_cn 2) (am_tbf 2 0).2.1 (am_tbf 2 0).2.2.1 am_host ∈ lw_tbl else Cond.fieldLink (am_cn 1) 27 (am_cn 2) (am_tbf 2 0).2.1 (am_tbf 2 0).2.2.1 ∈ lw_good) := ⟨by decide, by decide, am_td 93 rfl⟩
set_option maxRecDepth 100000 in
theorem fo_16 : (2 : Nat) < 6 ∧ 1 < am_nf 2 ∧ (if true = true then Cond.fieldLinkNest (am_cn 1) 42 (am_cn 2) (am_tbf 2 1).2.1 (am_tbf 2 1).2.2.1 am_host ∈ lw_tbl else Cond.fieldLink (am_cn 1) 42 (am_cn 2) (am_tbf 2 1).2.1 (am_tbf 2 1).2.2.1 ∈ lw_good) := ⟨by decide, by decide, am_td 100 rfl⟩
set_option maxRecDepth 100000 in
theorem fo_17 : (2 : Nat) < 6 ∧ 2 < am_nf 2 ∧ (if true = true then Cond.fieldLinkNest (am_cn 1) 45 (am_cn 2) (am_tbf 2 2).2.1 (am_tbf 2 2).2.2.1 am_host ∈ lw_tbl else Cond.fieldLink (am_cn 1) 45 (am_cn 2) (am_tbf 2 2).2.1 (am_tbf 2 2).2.2.1 ∈ lw_good) := ⟨by decide, by decide, am_td 105 rfl⟩
set_option maxRecDepth 100000 in
theorem fo_18 : (2 : Nat) < 6 ∧ 5 < am_nf 2 ∧ (if true = true then Cond.fieldLinkNest (am_cn 1) 59 (am_cn 2) (am_tbf 2 5).2.1 (am_tbf 2 5).2.2.1 am_host ∈ lw_tbl else Cond.fieldLink (am_cn 1) 59 (am_cn 2) (am_tbf 2 5).2.1 (am_tbf 2 5).2.2.1 ∈ lw_good) := ⟨by decide, by decide, am_td 112 rfl⟩
set_option maxRecDepth 100000 in
theorem fo_19 : (2 : Nat) < 6 ∧ 0 < am_nf 2 ∧ (if false = true then Cond.fieldLinkNest (am_cn 2) 9 (am_cn 2) (am_tbf 2 0).2.1 (am_tbf 2 0).2.2.1 am_host ∈ lw_tbl else Cond.fieldLink (am_cn 2) 9 (am_cn 2) (am_tbf 2 0).2.1 (am_tbf 2 0).2.2.1 ∈ lw_good) := ⟨by decide, by decide, am_gd 92 rfl rfl⟩
set_option maxRecDepth 100000 in
theorem fo_20 : (2 : Nat) < 6 ∧ 1 < am_nf 2 ∧ (if false = true then Cond.fieldLinkNest (am_cn 2) 15 (am_cn 2) (am_tbf 2 1).2.1 (am_tbf 2 1).2.2.1 am_host ∈ lw_tbl else Cond.fieldLink (am_cn 2) 15 (am_cn 2) (am_tbf 2 1).2.1 (am_tbf 2 1).2.2.1 ∈ lw_good) := ⟨by decide, by decide, am_gd 97 rfl rfl⟩
set_option maxRecDepth 100000 in
theorem fo_21 : (2 : Nat) < 6 ∧ 2 < am_nf 2 ∧ (if false = true then Cond.fieldLinkNest (am_cn 2) 19 (am_cn 2) (am_tbf 2 2).2.1 (am_tbf 2 2).2.2.1 am_host ∈ lw_tbl else Cond.fieldLink (am_cn 2) 19 (am_cn 2) (am_tbf 2 2).2.1 (am_tbf 2 2).2.2.1 ∈ lw_good) := ⟨by decide, by decide, am_gd 102 rfl rfl⟩
set_option maxRecDepth 100000 in
theorem fo_22 : (2 : Nat) < 6 ∧ 3 < am_nf 2 ∧ (if false = true then Cond.fieldLinkNest (am_cn 2) 22 (am_cn 2) (am_tbf 2 3).2.1 (am_tbf 2 3).2.2.1 am_host ∈ lw_tbl else Cond.fieldLink (am_cn 2) 22 (am_cn 2) (am_tbf 2 3).2.1 (am_tbf 2 3).2.2.1 ∈ lw_good) := ⟨by decide, by decide, am_gd 106 rfl rfl⟩
set_option maxRecDepth 100000 in
theorem fo_23 : (2 : Nat) < 6 ∧ 4 < am_nf 2 ∧ (if false = true then Cond.fieldLinkNest (am_cn 2) 26 (am_cn 2) (am_tbf 2 4).2.1 (am_tbf 2 4).2.2.1 am_host ∈ lw_tbl else Cond.fieldLink (am_cn 2) 26 (am_cn 2) (am_tbf 2 4).2.1 (am_tbf 2 4).2.2.1 ∈ lw_good) := ⟨by decide, by decide, am_gd 109 rfl rfl⟩
set_option maxRecDepth 100000 in
theorem fo_24 : (2 : Nat) < 6 ∧ 5 < am_nf 2 ∧ (if false = true then Cond.fieldLinkNest (am_cn 2) 31 (am_cn 2) (am_tbf 2 5).2.1 (am_tbf 2 5).2.2.1 am_host ∈ lw_tbl else Cond.fieldLink (am_cn 2) 31 (am_cn 2) (am_tbf 2 5).2.1 (am_tbf 2 5).2.2.1 ∈ lw_good) := ⟨by decide, by decide, am_gd 110 rfl rfl⟩
set_option maxRecDepth 100000 in
theorem fo_25 : (3 : Nat) < 6 ∧ 0 < am_nf 3 ∧ (if false = true then Cond.fieldLinkNest (am_cn 3) 9 (am_cn 3) (am_tbf 3 0).2.1 (am_tbf 3 0).2.2.1 am_host ∈ lw_tbl else Cond.fieldLink (am_cn 3) 9 (am_cn 3) (am_tbf 3 0).2.1 (am_tbf 3 0).2.2.1 ∈ lw_good) := ⟨by decide, by decide, am_gd 187 rfl rfl⟩
set_option maxRecDepth 100000 in
theorem fo_26 : (3 : Nat) < 6 ∧ 1 < am_nf 3 ∧ (if false = true then Cond.fieldLinkNest (am_cn 3) 15 (am_cn 3) (am_tbf 3 1).2.1 (am_tbf 3 1).2.2.1 am_host ∈ lw_tbl else Cond.fieldLink (am_cn 3) 15 (am_cn 3) (am_tbf 3 1).2.1 (am_tbf 3 1).2.2.1 ∈ lw_good) := ⟨by decide, by decide, am_gd 188 rfl rfl⟩
set_option maxRecDepth 100000 in
theorem fo_27 : (3 : Nat) < 6 ∧ 2 < am_nf 3 ∧ (if false = true then Cond.fieldLinkNest (am_cn 3) 19 (am_cn 3) (am_tbf 3 2).2.1 (am_tbf 3 2).2.2.1 am_host ∈ lw_tbl else Cond.fieldLink (am_cn 3) 19 (am_cn 3) (am_tbf 3 2).2.1 (am_tbf 3 2).2.2.1 ∈ lw_good) := ⟨by decide, by decide, am_gd 189 rfl rfl⟩
set_option maxRecDepth 100000 in
theorem fo_28 : (3 : Nat) < 6 ∧ 3 < am_nf 3 ∧ (if false = true then Cond.fieldLinkNest (am_cn 3) 24 (am_cn 3) (am_tbf 3 3).2.1 (am_tbf 3 3).2.2.1 am_host ∈ lw_tbl else Cond.fieldLink (am_cn 3) 24 (am_cn 3) (am_tbf 3 3).2.1 (am_tbf 3 3).2.2.1 ∈ lw_good) := ⟨by decide, by decide, am_gd 190 rfl rfl⟩
set_option maxRecDepth 100000 in
theorem fo_29 : (3 : Nat) < 6 ∧ 4 < am_nf 3 ∧ (if false = true then Cond.fieldLinkNest (am_cn 3) 27 (am_cn 3) (am_tbf 3 4).2.1 (am_tbf 3 4).2.2.1 am_host ∈ lw_tbl else Cond.fieldLink (am_cn 3) 27 (am_cn 3) (am_tbf 3 4).2.1 (am_tbf 3 4).2.2.1 ∈ lw_good) := ⟨by decide, by decide, am_gd 191 rfl rfl⟩
set_option maxRecDepth 100000 in
theorem fo_30 : (2 : Nat) < 6 ∧ 0 < am_nf 2 ∧ (if true = true then Cond.fieldLinkNest (am_cn 3) 34 (am_cn 2) (am_tbf 2 0).2.1 (am_tbf 2 0).2.2.1 am_host ∈ lw_tbl else Cond.fieldLink (am_cn 3) 34 (am_cn 2) (am_tbf 2 0).2.1 (am_tbf 2 0).2.2.1 ∈ lw_good) := ⟨by decide, by decide, am_td 94 rfl⟩
set_option maxRecDepth 100000 in
theorem fo_31 : (2 : Nat) < 6 ∧ 1 < am_nf 2 ∧ (if true = true then Cond.fieldLinkNest (am_cn 3) 39 (am_cn 2) (am_tbf 2 1).2.1 (am_tbf 2 1).2.2.1 am_host ∈ lw_tbl else Cond.fieldLink (am_cn 3) 39 (am_cn 2) (am_tbf 2 1).2.1 (am_tbf 2 1).2.2.1 ∈ lw_good) := ⟨by decide, by decide, am_td 98 rfl⟩
set_option maxRecDepth 100000 in
theorem fo_32 : (2 : Nat) < 6 ∧ 2 < am_nf 2 ∧ (if true = true then Cond.fieldLinkNest (am_cn 3) 54 (am_cn 2) (am_tbf 2 2).2.1 (am_tbf 2 2).2.2.1 am_host ∈ lw_tbl else Cond.fieldLink (am_cn 3) 54 (am_cn 2) (am_tbf 2 2).2.1 (am_tbf 2 2).2.2.1 ∈ lw_good) := ⟨by decide, by decide, am_td 104 rfl⟩
set_option maxRecDepth 100000 in
theorem fo_33 : (2 : Nat) < 6 ∧ 3 < am_nf 2 ∧ (if true = true then Cond.fieldLinkNest (am_cn 3) 63 (am_cn 2) (am_tbf 2 3).2.1 (am_tbf 2 3).2.2.1 am_host ∈ lw_tbl else Cond.fieldLink (am_cn 3) 63 (am_cn 2) (am_tbf 2 3).2.1 (am_tbf 2 3).2.2.1 ∈ lw_good) := ⟨by decide, by decide, am_td 107 rfl⟩
set_option maxRecDepth 100000 in
theorem fo_34 : (0 : Nat) < 6 ∧ 2 < am_nf 0 ∧ (if true = true then Cond.fieldLinkNest (am_cn 3) 67 (am_cn 0) (am_tbf 0 2).2.1 (am_tbf 0 2).2.2.1 am_host ∈ lw_tbl else Cond.fieldLink (am_cn 3) 67 (am_cn 0) (am_tbf 0 2).2.1 (am_tbf 0 2).2.2.1 ∈ lw_good) := ⟨by decide, by decide, am_td 159 rfl⟩
set_option maxRecDepth 100000 in
theorem fo_35 : (0 : Nat) < 6 ∧ 4 < am_nf 0 ∧ (if true = true then Cond.fieldLinkNest (am_cn 3) 89 (am_cn 0) (am_tbf 0 4).2.1 (am_tbf 0 4).2.2.1 am_host ∈ lw_tbl else Cond.fieldLink (am_cn 3) 89 (am_cn 0) (am_tbf 0 4).2.1 (am_tbf 0 4).2.2.1 ∈ lw_good) := ⟨by decide, by decide, am_td 162 rfl⟩
set_option maxRecDepth 100000 in
theorem fo_36 : (0 : Nat) < 6 ∧ 5 < am_nf 0 ∧ (if true = true then Cond.fieldLinkNest (am_cn 3) 92 (am_cn 0) (am_tbf 0 5).2.1 (am_tbf 0 5).2.2.1 am_host ∈ lw_tbl else Cond.fieldLink (am_cn 3) 92 (am_cn 0) (am_tbf 0 5).2.1 (am_tbf 0 5).2.2.1 ∈ lw_good) := ⟨by decide, by decide, am_td 165 rfl⟩
set_option maxRecDepth 100000 in
theorem fo_37 : (4 : Nat) < 6 ∧ 0 < am_nf 4 ∧ (if false = true then Cond.fieldLinkNest (am_cn 4) 12 (am_cn 4) (am_tbf 4 0).2.1 (am_tbf 4 0).2.2.1 am_host ∈ lw_tbl else Cond.fieldLink (am_cn 4) 12 (am_cn 4) (am_tbf 4 0).2.1 (am_tbf 4 0).2.2.1 ∈ lw_good) := ⟨by decide, by decide, am_gd 203 rfl rfl⟩
set_option maxRecDepth 100000 in
theorem fo_38 : (4 : Nat) < 6 ∧ 1 < am_nf 4 ∧ (if false = true then Cond.fieldLinkNest (am_cn 4) 19 (am_cn 4) (am_tbf 4 1).2.1 (am_tbf 4 1).2.2.1 am_host ∈ lw_tbl else Cond.fieldLink (am_cn 4) 19 (am_cn 4) (am_tbf 4 1).2.1 (am_tbf 4 1).2.2.1 ∈ lw_good) := ⟨by decide, by decide, am_gd 204 rfl rfl⟩
set_option maxRecDepth 100000 in
theorem fo_39 : (4 : Nat) < 6 ∧ 2 < am_nf 4 ∧ (if false = true then Cond.fieldLinkNest (am_cn 4) 26 (am_cn 4) (am_tbf 4 2).2.1 (am_tbf 4 2).2.2.1 am_host ∈ lw_tbl else Cond.fieldLink (am_cn 4) 26 (am_cn 4) (am_tbf 4 2).2.1 (am_tbf 4 2).2.2.1 ∈ lw_good) := ⟨by decide, by decide, am_gd 205 rfl rfl⟩
set_option maxRecDepth 100000 in
theorem fo_40 : (4 : Nat) < 6 ∧ 3 < am_nf 4 ∧ (if false = true then Cond.fieldLinkNest (am_cn 4) 33 (am_cn 4) (am_tbf 4 3).2.1 (am_tbf 4 3).2.2.1 am_host ∈ lw_tbl else Cond.fieldLink (am_cn 4) 33 (am_cn 4) (am_tbf 4 3).2.1 (am_tbf 4 3).2.2.1 ∈ lw_good) := ⟨by decide, by decide, am_gd 206 rfl rfl⟩
set_option maxRecDepth 100000 in
theorem fo_41 : (4 : Nat) < 6 ∧ 4 < am_nf 4 ∧ (if false = true then Cond.fieldLinkNest (am_cn 4) 37 (am_cn 4) (am_tbf 4 4).2.1 (am_tbf 4 4).2.2.1 am_host ∈ lw_tbl else Cond.fieldLink (am_cn 4) 37 (am_cn 4) (am_tbf 4 4).2.1 (am_tbf 4 4).2.2.1 ∈ lw_good) := ⟨by decide, by decide, am_gd 207 rfl rfl⟩
set_option maxRecDepth 100000 in
theorem fo_42 : (4 : Nat) < 6 ∧ 5 < am_nf 4 ∧ (if false = true then Cond.fieldLinkNest (am_cn 4) 41 (am_cn 4) (am_tbf 4 5).2.1 (am_tbf 4 5).2.2.1 am_host ∈ lw_tbl else Cond.fieldLink (am_cn 4) 41 (am_cn 4) (am_tbf 4 5).2.1 (am_tbf 4 5).2.2.1 ∈ lw_good) := ⟨by decide, by decide, am_gd 208 rfl rfl⟩
set_option maxRecDepth 100000 in
theorem fo_43 : (4 : Nat) < 6 ∧ 6 < am_nf 4 ∧ (if false = true then Cond.fieldLinkNest (am_cn 4) 44 (am_cn 4) (am_tbf 4 6).2.1 (am_tbf 4 6).2.2.1 am_host ∈ lw_tbl else Cond.fieldLink (am_cn 4) 44 (am_cn 4) (am_tbf 4 6).2.1 (am_tbf 4 6).2.2.1 ∈ lw_good) := ⟨by decide, by decide, am_gd 209 rfl rfl⟩
set_option maxRecDepth 100000 in
theorem fo_44 : (4 : Nat) < 6 ∧ 7 < am_nf 4 ∧ (if false = true then Cond.fieldLinkNest (am_cn 4) 47 (am_cn 4) (am_tbf 4 7).2.1 (am_tbf 4 7).2.2.1 am_host ∈ lw_tbl else Cond.fieldLink (am_cn 4) 47 (am_cn 4) (am_tbf 4 7).2.1 (am_tbf 4 7).2.2.1 ∈ lw_good) := ⟨by decide, by decide, am_gd 210 rfl rfl⟩
set_option maxRecDepth 100000 in
theorem fo_45 : (4 : Nat) < 6 ∧ 8 < am_nf 4 ∧ (if false = true then Cond.fieldLinkNest (am_cn 4) 50 (am_cn 4) (am_tbf 4 8).2.1 (am_tbf 4 8).2.2.1 am_host ∈ lw_tbl else Cond.fieldLink (am_cn 4) 50 (am_cn 4) (am_tbf 4 8).2.1 (am_tbf 4 8).2.2.1 ∈ lw_good) := ⟨by decide, by decide, am_gd 211 rfl rfl⟩
set_option maxRecDepth 100000 in
theorem fo_46 : (4 : Nat) < 6 ∧ 9 < am_nf 4 ∧ (if false = true then Cond.fieldLinkNest (am_cn 4) 54 (am_cn 4) (am_tbf 4 9).2.1 (am_tbf 4 9).2.2.1 am_host ∈ lw_tbl else Cond.fieldLink (am_cn 4) 54 (am_cn 4) (am_tbf 4 9).2.1 (am_tbf 4 9).2.2.1 ∈ lw_good) := ⟨by decide, by decide, am_gd 212 rfl rfl⟩
set_option maxRecDepth 100000 in
theorem fo_47 : (2 : Nat) < 6 ∧ 0 < am_nf 2 ∧ (if true = true then Cond.fieldLinkNest (am_cn 4) 66 (am_cn 2) (am_tbf 2 0).2.1 (am_tbf 2 0).2.2.1 am_host ∈ lw_tbl else Cond.fieldLink (am_cn 4) 66 (am_cn 2) (am_tbf 2 0).2.1 (am_tbf 2 0).2.2.1 ∈ lw_good) := ⟨by decide, by decide, am_td 96 rfl⟩
set_option maxRecDepth 100000 in
theorem fo_48 : (1 : Nat) < 6 ∧ 1 < am_nf 1 ∧ (if true = true then Cond.fieldLinkNest (am_cn 4) 101 (am_cn 1) (am_tbf 1 1).2.1 (am_tbf 1 1).2.2.1 am_host ∈ lw_tbl else Cond.fieldLink (am_cn 4) 101 (am_cn 1) (am_tbf 1 1).2.1 (am_tbf 1 1).2.2.1 ∈ lw_good) := ⟨by decide, by decide, am_td 137 rfl⟩
set_option maxRecDepth 100000 in
theorem fo_49 : (0 : Nat) < 6 ∧ 4 < am_nf 0 ∧ (if true = true then Cond.fieldLinkNest (am_cn 4) 117 (am_cn 0) (am_tbf 0 4).2.1 (am_tbf 0 4).2.2.1 am_host ∈ lw_tbl else Cond.fieldLink (am_cn 4) 117 (am_cn 0) (am_tbf 0 4).2.1 (am_tbf 0 4).2.2.1 ∈ lw_good) := ⟨by decide, by decide, am_td 163 rfl⟩
set_option maxRecDepth 100000 in
theorem fo_50 : (0 : Nat) < 6 ∧ 5 < am_nf 0 ∧ (if true = true then Cond.fieldLinkNest (am_cn 4) 120 (am_cn 0) (am_tbf 0 5).2.1 (am_tbf 0 5).2.2.1 am_host ∈ lw_tbl else Cond.fieldLink (am_cn 4) 120 (am_cn 0) (am_tbf 0 5).2.1 (am_tbf 0 5).2.2.1 ∈ lw_good) := ⟨by decide, by decide, am_td 166 rfl⟩
set_option maxRecDepth 100000 in
theorem fo_51 : (2 : Nat) < 6 ∧ 1 < am_nf 2 ∧ (if true = true then Cond.fieldLinkNest (am_cn 4) 123 (am_cn 2) (am_tbf 2 1).2.1 (am_tbf 2 1).2.2.1 am_host ∈ lw_tbl else Cond.fieldLink (am_cn 4) 123 (am_cn 2) (am_tbf 2 1).2.1 (am_tbf 2 1).2.2.1 ∈ lw_good) := ⟨by decide, by decide, am_td 101 rfl⟩
set_option maxRecDepth 100000 in
theorem fo_52 : (5 : Nat) < 6 ∧ 3 < am_nf 5 ∧ (if false = true then Cond.fieldLinkNest (am_cn 5) 7 (am_cn 5) (am_tbf 5 3).2.1 (am_tbf 5 3).2.2.1 am_host ∈ lw_tbl else Cond.fieldLink (am_cn 5) 7 (am_cn 5) (am_tbf 5 3).2.1 (am_tbf 5 3).2.2.1 ∈ lw_good) := ⟨by decide, by decide, am_gd 545 rfl rfl⟩
set_option maxRecDepth 100000 in
theorem fo_53 : (5 : Nat) < 6 ∧ 4 < am_nf 5 ∧ (if false = true then Cond.fieldLinkNest (am_cn 5) 13 (am_cn 5) (am_tbf 5 4).2.1 (am_tbf 5 4).2.2.1 am_host ∈ lw_tbl else Cond.fieldLink (am_cn 5) 13 (am_cn 5) (am_tbf 5 4).2.1 (am_tbf 5 4).2.2.1 ∈ lw_good) := ⟨by decide, by decide, am_gd 546 rfl rfl⟩
set_option maxRecDepth 100000 in
theorem fo_54 : (5 : Nat) < 6 ∧ 5 < am_nf 5 ∧ (if false = true then Cond.fieldLinkNest (am_cn 5) 17 (am_cn 5) (am_tbf 5 5).2.1 (am_tbf 5 5).2.2.1 am_host ∈ lw_tbl else Cond.fieldLink (am_cn 5) 17 (am_cn 5) (am_tbf 5 5).2.1 (am_tbf 5 5).2.2.1 ∈ lw_good) := ⟨by decide, by decide, am_gd 547 rfl rfl⟩
set_option maxRecDepth 100000 in
theorem fo_55 : (5 : Nat) < 6 ∧ 6 < am_nf 5 ∧ (if false = true then Cond.fieldLinkNest (am_cn 5) 20 (am_cn 5) (am_tbf 5 6).2.1 (am_tbf 5 6).2.2.1 am_host ∈ lw_tbl else Cond.fieldLink (am_cn 5) 20 (am_cn 5) (am_tbf 5 6).2.1 (am_tbf 5 6).2.2.1 ∈ lw_good) := ⟨by decide, by decide, am_gd 548 rfl rfl⟩
set_option maxRecDepth 100000 in
theorem fo_56 : (5 : Nat) < 6 ∧ 7 < am_nf 5 ∧ (if false = true then Cond.fieldLinkNest (am_cn 5) 24 (am_cn 5) (am_tbf 5 7).2.1 (am_tbf 5 7).2.2.1 am_host ∈ lw_tbl else Cond.fieldLink (am_cn 5) 24 (am_cn 5) (am_tbf 5 7).2.1 (am_tbf 5 7).2.2.1 ∈ lw_good) := ⟨by decide, by decide, am_gd 549 rfl rfl⟩
set_option maxRecDepth 100000 in
theorem fo_57 : (5 : Nat) < 6 ∧ 8 < am_nf 5 ∧ (if false = true then Cond.fieldLinkNest (am_cn 5) 27 (am_cn 5) (am_tbf 5 8).2.1 (am_tbf 5 8).2.2.1 am_host ∈ lw_tbl else Cond.fieldLink (am_cn 5) 27 (am_cn 5) (am_tbf 5 8).2.1 (am_tbf 5 8).2.2.1 ∈ lw_good) := ⟨by decide, by decide, am_gd 550 rfl rfl⟩
set_option maxRecDepth 100000 in
theorem fo_58 : (5 : Nat) < 6 ∧ 9 < am_nf 5 ∧ (if false = true then Cond.fieldLinkNest (am_cn 5) 30 (am_cn 5) (am_tbf 5 9).2.1 (am_tbf 5 9).2.2.1 am_host ∈ lw_tbl else Cond.fieldLink (am_cn 5) 30 (am_cn 5) (am_tbf 5 9).2.1 (am_tbf 5 9).2.2.1 ∈ lw_good) := ⟨by decide, by decide, am_gd 551 rfl rfl⟩
set_option maxRecDepth 100000 in
theorem fo_59 : (5 : Nat) < 6 ∧ 10 < am_nf 5 ∧ (if false = true then Cond.fieldLinkNest (am_cn 5) 33 (am_cn 5) (am_tbf 5 10).2.1 (am_tbf 5 10).2.2.1 am_host ∈ lw_tbl else Cond.fieldLink (am_cn 5) 33 (am_cn 5) (am_tbf 5 10).2.1 (am_tbf 5 10).2.2.1 ∈ lw_good) := ⟨by decide, by decide, am_gd 552 rfl rfl⟩
set_option maxRecDepth 100000 in
theorem fo_60 : (5 : Nat) < 6 ∧ 11 < am_nf 5 ∧ (if false = true then Cond.fieldLinkNest (am_cn 5) 36 (am_cn 5) (am_tbf 5 11).2.1 (am_tbf 5 11).2.2.1 am_host ∈ lw_tbl else Cond.fieldLink (am_cn 5) 36 (am_cn 5) (am_tbf 5 11).2.1 (am_tbf 5 11).2.2.1 ∈ lw_good) := ⟨by decide, by decide, am_gd 553 rfl rfl⟩
set_option maxRecDepth 100000 in
theorem fo_61 : (5 : Nat) < 6 ∧ 12 < am_nf 5 ∧ (if false = true then Cond.fieldLinkNest (am_cn 5) 39 (am_cn 5) (am_tbf 5 12).2.1 (am_tbf 5 12).2.2.1 am_host ∈ lw_tbl else Cond.fieldLink (am_cn 5) 39 (am_cn 5) (am_tbf 5 12).2.1 (am_tbf 5 12).2.2.1 ∈ lw_good) := ⟨by decide, by decide, am_gd 554 rfl rfl⟩
set_option maxRecDepth 100000 in
theorem fo_62 : (5 : Nat) < 6 ∧ 13 < am_nf 5 ∧ (if false = true then Cond.fieldLinkNest (am_cn 5) 42 (am_cn 5) (am_tbf 5 13).2.1 (am_tbf 5 13).2.2.1 am_host ∈ lw_tbl else Cond.fieldLink (am_cn 5) 42 (am_cn 5) (am_tbf 5 13).2.1 (am_tbf 5 13).2.2.1 ∈ lw_good) := ⟨by decide, by decide, am_gd 555 rfl rfl⟩
set_option maxRecDepth 100000 in
theorem fo_63 : (5 : Nat) < 6 ∧ 14 < am_nf 5 ∧ (if false = true then Cond.fieldLinkNest (am_cn 5) 45 (am_cn 5) (am_tbf 5 14).2.1 (am_tbf 5 14).2.2.1 am_host ∈ lw_tbl else Cond.fieldLink (am_cn 5) 45 (am_cn 5) (am_tbf 5 14).2.1 (am_tbf 5 14).2.2.1 ∈ lw_good) := ⟨by decide, by decide, am_gd 556 rfl rfl⟩
set_option maxRecDepth 100000 in
theorem fo_64 : (5 : Nat) < 6 ∧ 15 < am_nf 5 ∧ (if false = true then Cond.fieldLinkNest (am_cn 5) 48 (am_cn 5) (am_tbf 5 15).2.1 (am_tbf 5 15).2.2.1 am_host ∈ lw_tbl else Cond.fieldLink (am_cn 5) 48 (am_cn 5) (am_tbf 5 15).2.1 (am_tbf 5 15).2.2.1 ∈ lw_good) := ⟨by decide, by decide, am_gd 557 rfl rfl⟩
set_option maxRecDepth 100000 in
theorem fo_65 : (5 : Nat) < 6 ∧ 18 < am_nf 5 ∧ (if false = true then Cond.fieldLinkNest (am_cn 5) 51 (am_cn 5) (am_tbf 5 18).2.1 (am_tbf 5 18).2.2.1 am_host ∈ lw_tbl else Cond.fieldLink (am_cn 5) 51 (am_cn 5) (am_tbf 5 18).2.1 (am_tbf 5 18).2.2.1 ∈ lw_good) := ⟨by decide, by decide, am_gd 560 rfl rfl⟩
set_option maxRecDepth 100000 in
theorem fo_66 : (5 : Nat) < 6 ∧ 23 < am_nf 5 ∧ (if false = true then Cond.fieldLinkNest (am_cn 5) 54 (am_cn 5) (am_tbf 5 23).2.1 (am_tbf 5 23).2.2.1 am_host ∈ lw_tbl else Cond.fieldLink (am_cn 5) 54 (am_cn 5) (am_tbf 5 23).2.1 (am_tbf 5 23).2.2.1 ∈ lw_good) := ⟨by decide, by decide, am_gd 565 rfl rfl⟩
set_option maxRecDepth 100000 in
theorem fo_67 : (5 : Nat) < 6 ∧ 24 < am_nf 5 ∧ (if false = true then Cond.fieldLinkNest (am_cn 5) 58 (am_cn 5) (am_tbf 5 24).2.1 (am_tbf 5 24).2.2.1 am_host ∈ lw_tbl else Cond.fieldLink (am_cn 5) 58 (am_cn 5) (am_tbf 5 24).2.1 (am_tbf 5 24).2.2.1 ∈ lw_good) := ⟨by decide, by decide, am_gd 566 rfl rfl⟩
set_option maxRecDepth 100000 in
theorem fo_68 : (5 : Nat) < 6 ∧ 25 < am_nf 5 ∧ (if false = true then Cond.fieldLinkNest (am_cn 5) 61 (am_cn 5) (am_tbf 5 25).2.1 (am_tbf 5 25).2.2.1 am_host ∈ lw_tbl else Cond.fieldLink (am_cn 5) 61 (am_cn 5) (am_tbf 5 25).2.1 (am_tbf 5 25).2.2.1 ∈ lw_good) := ⟨by decide, by decide, am_gd 567 rfl rfl⟩
set_option maxRecDepth 100000 in
theorem fo_69 : (5 : Nat) < 6 ∧ 0 < am_nf 5 ∧ (if false = true then Cond.fieldLinkNest (am_cn 5) 64 (am_cn 5) (am_tbf 5 0).2.1 (am_tbf 5 0).2.2.1 am_host ∈ lw_tbl else Cond.fieldLink (am_cn 5) 64 (am_cn 5) (am_tbf 5 0).2.1 (am_tbf 5 0).2.2.1 ∈ lw_good) := ⟨by decide, by decide, am_gd 542 rfl rfl⟩
set_option maxRecDepth 100000 in
theorem fo_70 : (5 : Nat) < 6 ∧ 1 < am_nf 5 ∧ (if false = true then Cond.fieldLinkNest (am_cn 5) 73 (am_cn 5) (am_tbf 5 1).2.1 (am_tbf 5 1).2.2.1 am_host ∈ lw_tbl else Cond.fieldLink (am_cn 5) 73 (am_cn 5) (am_tbf 5 1).2.1 (am_tbf 5 1).2.2.1 ∈ lw_good) := ⟨by decide, by decide, am_gd 543 rfl rfl⟩
set_option maxRecDepth 100000 in
theorem fo_71 : (5 : Nat) < 6 ∧ 16 < am_nf 5 ∧ (if false = true then Cond.fieldLinkNest (am_cn 5) 76 (am_cn 5) (am_tbf 5 16).2.1 (am_tbf 5 16).2.2.1 am_host ∈ lw_tbl else Cond.fieldLink (am_cn 5) 76 (am_cn 5) (am_tbf 5 16).2.1 (am_tbf 5 16).2.2.1 ∈ lw_good) := ⟨by decide, by decide, am_gd 558 rfl rfl⟩
set_option maxRecDepth 100000 in
theorem fo_72 : (5 : Nat) < 6 ∧ 2 < am_nf 5 ∧ (if false = true then Cond.fieldLinkNest (am_cn 5) 84 (am_cn 5) (am_tbf 5 2).2.1 (am_tbf 5 2).2.2.1 am_host ∈ lw_tbl else Cond.fieldLink (am_cn 5) 84 (am_cn 5) (am_tbf 5 2).2.1 (am_tbf 5 2).2.2.1 ∈ lw_good) := ⟨by decide, by decide, am_gd 544 rfl rfl⟩
set_option maxRecDepth 100000 in
theorem fo_73 : (5 : Nat) < 6 ∧ 19 < am_nf 5 ∧ (if false = true then Cond.fieldLinkNest (am_cn 5) 138 (am_cn 5) (am_tbf 5 19).2.1 (am_tbf 5 19).2.2.1 am_host ∈ lw_tbl else Cond.fieldLink (am_cn 5) 138 (am_cn 5) (am_tbf 5 19).2.1 (am_tbf 5 19).2.2.1 ∈ lw_good) := ⟨by decide, by decide, am_gd 561 rfl rfl⟩
set_option maxRecDepth 100000 in
theorem fo_74 : (5 : Nat) < 6 ∧ 20 < am_nf 5 ∧ (if false = true then Cond.fieldLinkNest (am_cn 5) 141 (am_cn 5) (am_tbf 5 20).2.1 (am_tbf 5 20).2.2.1 am_host ∈ lw_tbl else Cond.fieldLink (am_cn 5) 141 (am_cn 5) (am_tbf 5 20).2.1 (am_tbf 5 20).2.2.1 ∈ lw_good) := ⟨by decide, by decide, am_gd 562 rfl rfl⟩
set_option maxRecDepth 100000 in
theorem fo_75 : (5 : Nat) < 6 ∧ 21 < am_nf 5 ∧ (if false = true then Cond.fieldLinkNest (am_cn 5) 144 (am_cn 5) (am_tbf 5 21).2.1 (am_tbf 5 21).2.2.1 am_host ∈ lw_tbl else Cond.fieldLink (am_cn 5) 144 (am_cn 5) (am_tbf 5 21).2.1 (am_tbf 5 21).2.2.1 ∈ lw_good) := ⟨by decide, by decide, am_gd 563 rfl rfl⟩
set_option maxRecDepth 100000 in
theorem fo_76 : (5 : Nat) < 6 ∧ 22 < am_nf 5 ∧ (if false = true then Cond.fieldLinkNest (am_cn 5) 147 (am_cn 5) (am_tbf 5 22).2.1 (am_tbf 5 22).2.2.1 am_host ∈ lw_tbl else Cond.fieldLink (am_cn 5) 147 (am_cn 5) (am_tbf 5 22).2.1 (am_tbf 5 22).2.2.1 ∈ lw_good) := ⟨by decide, by decide, am_gd 564 rfl rfl⟩
set_option maxRecDepth 100000 in
theorem fo_77 : (5 : Nat) < 6 ∧ 17 < am_nf 5 ∧ (if false = true then Cond.fieldLinkNest (am_cn 5) 189 (am_cn 5) (am_tbf 5 17).2.1 (am_tbf 5 17).2.2.1 am_host ∈ lw_tbl else Cond.fieldLink (am_cn 5) 189 (am_cn 5) (am_tbf 5 17).2.1 (am_tbf 5 17).2.2.1 ∈ lw_good) := ⟨by decide, by decide, am_gd 559 rfl rfl⟩
