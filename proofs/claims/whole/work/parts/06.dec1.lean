set_option maxRecDepth 100000 in
theorem dk_41 : sx_dck 41 = true := by decide +kernel
set_option maxRecDepth 100000 in
theorem dk_42 : sx_dck 42 = true := by decide +kernel
set_option maxRecDepth 100000 in
theorem dk_43 : sx_dck 43 = true := by decide +kernel
set_option maxRecDepth 100000 in
theorem dk_44 : sx_dck 44 = true := by decide +kernel
set_option maxRecDepth 100000 in
theorem dk_45 : sx_dck 45 = true := by decide +kernel
set_option maxRecDepth 100000 in
theorem dk_46 : sx_dck 46 = true := by decide +kernel
set_option maxRecDepth 100000 in
theorem dk_47 : sx_dck 47 = true := by decide +kernel
set_option maxRecDepth 100000 in
theorem dk_48 : sx_dck 48 = true := by decide +kernel
set_option maxRecDepth 100000 in
theorem dk_49 : sx_dck 49 = true := by decide +kernel
set_option maxRecDepth 100000 in
theorem dk_50 : sx_dck 50 = true := by decide +kernel
set_option maxRecDepth 100000 in
theorem dk_51 : sx_dck 51 = true := by decide +kernel
set_option maxRecDepth 100000 in
theorem dk_52 : sx_dck 52 = true := by decide +kernel
set_option maxRecDepth 100000 in
theorem dk_53 : sx_dck 53 = true := by decide +kernel
set_option maxRecDepth 100000 in
theorem dk_54 : sx_dck 54 = true := by decide +kernel
set_option maxRecDepth 100000 in
theorem dk_55 : sx_dck 55 = true := by decide +kernel
set_option maxRecDepth 100000 in
theorem dk_56 : sx_dck 56 = true := by decide +kernel
set_option maxRecDepth 100000 in
theorem dk_57 : sx_dck 57 = true := by decide +kernel
set_option maxRecDepth 100000 in
theorem dk_58 : sx_dck 58 = true := by decide +kernel
set_option maxRecDepth 100000 in
theorem dk_59 : sx_dck 59 = true := by decide +kernel
set_option maxRecDepth 100000 in
theorem dk_60 : sx_dck 60 = true := by decide +kernel
set_option maxRecDepth 100000 in
theorem dk_61 : sx_dck 61 = true := by decide +kernel
set_option maxRecDepth 100000 in
theorem dk_62 : sx_dck 62 = true := by decide +kernel
set_option maxRecDepth 100000 in
theorem dk_63 : sx_dck 63 = true := by decide +kernel
set_option maxRecDepth 100000 in
theorem dk_64 : sx_dck 64 = true := by decide +kernel
set_option maxRecDepth 100000 in
theorem dk_65 : sx_dck 65 = true := by decide +kernel
set_option maxRecDepth 100000 in
theorem dk_66 : sx_dck 66 = true := by decide +kernel
set_option maxRecDepth 100000 in
theorem dk_67 : sx_dck 67 = true := by decide +kernel
set_option maxRecDepth 100000 in
theorem dk_68 : sx_dck 68 = true := by decide +kernel
set_option maxRecDepth 100000 in
theorem dk_69 : sx_dck 69 = true := by decide +kernel
set_option maxRecDepth 100000 in
theorem dk_70 : sx_dck 70 = true := by decide +kernel
set_option maxRecDepth 100000 in
theorem dk_71 : sx_dck 71 = true := by decide +kernel
set_option maxRecDepth 100000 in
theorem dk_72 : sx_dck 72 = true := by decide +kernel
set_option maxRecDepth 100000 in
theorem dk_73 : sx_dck 73 = true := by decide +kernel
set_option maxRecDepth 100000 in
theorem dk_74 : sx_dck 74 = true := by decide +kernel
set_option maxRecDepth 100000 in
theorem dk_75 : sx_dck 75 = true := by decide +kernel
set_option maxRecDepth 100000 in
theorem dk_76 : sx_dck 76 = true := by decide +kernel
set_option maxRecDepth 100000 in
theorem dk_77 : sx_dck 77 = true := by decide +kernel
set_option maxRecDepth 100000 in
theorem dk_78 : sx_dck 78 = true := by decide +kernel
set_option maxRecDepth 100000 in
theorem dk_79 : sx_dck 79 = true := by decide +kernel
set_option maxRecDepth 100000 in
theorem dk_80 : sx_dck 80 = true := by decide +kernel
set_option maxRecDepth 100000 in
theorem dk_81 : sx_dck 81 = true := by decide +kernel
