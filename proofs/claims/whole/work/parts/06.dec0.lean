set_option maxRecDepth 100000 in
theorem dk_0 : sx_dck 0 = true := by decide +kernel
set_option maxRecDepth 100000 in
theorem dk_1 : sx_dck 1 = true := by decide +kernel
set_option maxRecDepth 100000 in
theorem dk_2 : sx_dck 2 = true := by decide +kernel
set_option maxRecDepth 100000 in
theorem dk_3 : sx_dck 3 = true := by decide +kernel
set_option maxRecDepth 100000 in
theorem dk_4 : sx_dck 4 = true := by decide +kernel
set_option maxRecDepth 100000 in
theorem dk_5 : sx_dck 5 = true := by decide +kernel
set_option maxRecDepth 100000 in
theorem dk_6 : sx_dck 6 = true := by decide +kernel
set_option maxRecDepth 100000 in
theorem dk_7 : sx_dck 7 = true := by decide +kernel
set_option maxRecDepth 100000 in
theorem dk_8 : sx_dck 8 = true := by decide +kernel
set_option maxRecDepth 100000 in
theorem dk_9 : sx_dck 9 = true := by decide +kernel
set_option maxRecDepth 100000 in
theorem dk_10 : sx_dck 10 = true := by decide +kernel
set_option maxRecDepth 100000 in
theorem dk_11 : sx_dck 11 = true := by decide +kernel
set_option maxRecDepth 100000 in
theorem dk_12 : sx_dck 12 = true := by decide +kernel
set_option maxRecDepth 100000 in
theorem dk_13 : sx_dck 13 = true := by decide +kernel
set_option maxRecDepth 100000 in
theorem dk_14 : sx_dck 14 = true := by decide +kernel
set_option maxRecDepth 100000 in
theorem dk_15 : sx_dck 15 = true := by decide +kernel
set_option maxRecDepth 100000 in
theorem dk_16 : sx_dck 16 = true := by decide +kernel
set_option maxRecDepth 100000 in
theorem dk_17 : sx_dck 17 = true := by decide +kernel
set_option maxRecDepth 100000 in
theorem dk_18 : sx_dck 18 = true := by decide +kernel
set_option maxRecDepth 100000 in
theorem dk_19 : sx_dck 19 = true := by decide +kernel
set_option maxRecDepth 100000 in
theorem dk_20 : sx_dck 20 = true := by decide +kernel
set_option maxRecDepth 100000 in
theorem dk_21 : sx_dck 21 = true := by decide +kernel
set_option maxRecDepth 100000 in
theorem dk_22 : sx_dck 22 = true := by decide +kernel
set_option maxRecDepth 100000 in
theorem dk_23 : sx_dck 23 = true := by decide +kernel
set_option maxRecDepth 100000 in
theorem dk_24 : sx_dck 24 = true := by decide +kernel
set_option maxRecDepth 100000 in
theorem dk_25 : sx_dck 25 = true := by decide +kernel
set_option maxRecDepth 100000 in
theorem dk_26 : sx_dck 26 = true := by decide +kernel
set_option maxRecDepth 100000 in
theorem dk_27 : sx_dck 27 = true := by decide +kernel
set_option maxRecDepth 100000 in
theorem dk_28 : sx_dck 28 = true := by decide +kernel
set_option maxRecDepth 100000 in
theorem dk_29 : sx_dck 29 = true := by decide +kernel
set_option maxRecDepth 100000 in
theorem dk_30 : sx_dck 30 = true := by decide +kernel
set_option maxRecDepth 100000 in
theorem dk_31 : sx_dck 31 = true := by decide +kernel
set_option maxRecDepth 100000 in
theorem dk_32 : sx_dck 32 = true := by decide +kernel
set_option maxRecDepth 100000 in
theorem dk_33 : sx_dck 33 = true := by decide +kernel
set_option maxRecDepth 100000 in
theorem dk_34 : sx_dck 34 = true := by decide +kernel
set_option maxRecDepth 100000 in
theorem dk_35 : sx_dck 35 = true := by decide +kernel
set_option maxRecDepth 100000 in
theorem dk_36 : sx_dck 36 = true := by decide +kernel
set_option maxRecDepth 100000 in
theorem dk_37 : sx_dck 37 = true := by decide +kernel
set_option maxRecDepth 100000 in
theorem dk_38 : sx_dck 38 = true := by decide +kernel
set_option maxRecDepth 100000 in
theorem dk_39 : sx_dck 39 = true := by decide +kernel
set_option maxRecDepth 100000 in
theorem dk_40 : sx_dck 40 = true := by decide +kernel
