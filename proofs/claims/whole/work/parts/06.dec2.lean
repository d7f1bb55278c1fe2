set_option maxRecDepth 100000 in
theorem dk_82 : sx_dck 82 = true := by decide +kernel
set_option maxRecDepth 100000 in
theorem dk_83 : sx_dck 83 = true := by decide +kernel
set_option maxRecDepth 100000 in
theorem dk_84 : sx_dck 84 = true := by decide +kernel
set_option maxRecDepth 100000 in
theorem dk_85 : sx_dck 85 = true := by decide +kernel
set_option maxRecDepth 100000 in
theorem dk_86 : sx_dck 86 = true := by decide +kernel
set_option maxRecDepth 100000 in
theorem dk_87 : sx_dck 87 = true := by decide +kernel
set_option maxRecDepth 100000 in
theorem dk_88 : sx_dck 88 = true := by decide +kernel
set_option maxRecDepth 100000 in
theorem dk_89 : sx_dck 89 = true := by decide +kernel
set_option maxRecDepth 100000 in
theorem dk_90 : sx_dck 90 = true := by decide +kernel
set_option maxRecDepth 100000 in
theorem dk_91 : sx_dck 91 = true := by decide +kernel
set_option maxRecDepth 100000 in
theorem dk_92 : sx_dck 92 = true := by decide +kernel
set_option maxRecDepth 100000 in
theorem dk_93 : sx_dck 93 = true := by decide +kernel
set_option maxRecDepth 100000 in
theorem dk_94 : sx_dck 94 = true := by decide +kernel
set_option maxRecDepth 100000 in
theorem dk_95 : sx_dck 95 = true := by decide +kernel
set_option maxRecDepth 100000 in
theorem dk_96 : sx_dck 96 = true := by decide +kernel
set_option maxRecDepth 100000 in
theorem dk_97 : sx_dck 97 = true := by decide +kernel
set_option maxRecDepth 100000 in
theorem dk_98 : sx_dck 98 = true := by decide +kernel
set_option maxRecDepth 100000 in
theorem dk_99 : sx_dck 99 = true := by decide +kernel
set_option maxRecDepth 100000 in
theorem dk_100 : sx_dck 100 = true := by decide +kernel
set_option maxRecDepth 100000 in
theorem dk_101 : sx_dck 101 = true := by decide +kernel
set_option maxRecDepth 100000 in
theorem dk_102 : sx_dck 102 = true := by decide +kernel
set_option maxRecDepth 100000 in
theorem dk_103 : sx_dck 103 = true := by decide +kernel
set_option maxRecDepth 100000 in
theorem dk_104 : sx_dck 104 = true := by decide +kernel
set_option maxRecDepth 100000 in
theorem dk_105 : sx_dck 105 = true := by decide +kernel
set_option maxRecDepth 100000 in
theorem dk_106 : sx_dck 106 = true := by decide +kernel
set_option maxRecDepth 100000 in
theorem dk_107 : sx_dck 107 = true := by decide +kernel
set_option maxRecDepth 100000 in
theorem dk_108 : sx_dck 108 = true := by decide +kernel
set_option maxRecDepth 100000 in
theorem dk_109 : sx_dck 109 = true := by decide +kernel
set_option maxRecDepth 100000 in
theorem dk_110 : sx_dck 110 = true := by decide +kernel
set_option maxRecDepth 100000 in
theorem dk_111 : sx_dck 111 = true := by decide +kernel
set_option maxRecDepth 100000 in
theorem dk_112 : sx_dck 112 = true := by decide +kernel
set_option maxRecDepth 100000 in
theorem dk_113 : sx_dck 113 = true := by decide +kernel
set_option maxRecDepth 100000 in
theorem dk_114 : sx_dck 114 = true := by decide +kernel
set_option maxRecDepth 100000 in
theorem dk_115 : sx_dck 115 = true := by decide +kernel
set_option maxRecDepth 100000 in
theorem dk_116 : sx_dck 116 = true := by decide +kernel
set_option maxRecDepth 100000 in
theorem dk_117 : sx_dck 117 = true := by decide +kernel
set_option maxRecDepth 100000 in
theorem dk_118 : sx_dck 118 = true := by decide +kernel
set_option maxRecDepth 100000 in
theorem dk_119 : sx_dck 119 = true := by decide +kernel
set_option maxRecDepth 100000 in
theorem dk_120 : sx_dck 120 = true := by decide +kernel
set_option maxRecDepth 100000 in
theorem dk_121 : sx_dck 121 = true := by decide +kernel
