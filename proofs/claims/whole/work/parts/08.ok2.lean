/-! Each entry is as the class file has it (by kernel). -/
set_option maxRecDepth 1000000 in
theorem ia_okM82 : ia_okM 82 = true := by decide +kernel
set_option maxRecDepth 1000000 in
theorem ia_okM83 : ia_okM 83 = true := by decide +kernel
set_option maxRecDepth 1000000 in
theorem ia_okM84 : ia_okM 84 = true := by decide +kernel
set_option maxRecDepth 1000000 in
theorem ia_okM85 : ia_okM 85 = true := by decide +kernel
set_option maxRecDepth 1000000 in
theorem ia_okM86 : ia_okM 86 = true := by decide +kernel
set_option maxRecDepth 1000000 in
theorem ia_okM87 : ia_okM 87 = true := by decide +kernel
set_option maxRecDepth 1000000 in
theorem ia_okM88 : ia_okM 88 = true := by decide +kernel
set_option maxRecDepth 1000000 in
theorem ia_okM89 : ia_okM 89 = true := by decide +kernel
set_option maxRecDepth 1000000 in
theorem ia_okM90 : ia_okM 90 = true := by decide +kernel
set_option maxRecDepth 1000000 in
theorem ia_okM91 : ia_okM 91 = true := by decide +kernel
set_option maxRecDepth 1000000 in
theorem ia_okM92 : ia_okM 92 = true := by decide +kernel
set_option maxRecDepth 1000000 in
theorem ia_okM93 : ia_okM 93 = true := by decide +kernel
set_option maxRecDepth 1000000 in
theorem ia_okM94 : ia_okM 94 = true := by decide +kernel
set_option maxRecDepth 1000000 in
theorem ia_okM95 : ia_okM 95 = true := by decide +kernel
set_option maxRecDepth 1000000 in
theorem ia_okM96 : ia_okM 96 = true := by decide +kernel
set_option maxRecDepth 1000000 in
theorem ia_okM97 : ia_okM 97 = true := by decide +kernel
set_option maxRecDepth 1000000 in
theorem ia_okM98 : ia_okM 98 = true := by decide +kernel
set_option maxRecDepth 1000000 in
theorem ia_okM99 : ia_okM 99 = true := by decide +kernel
set_option maxRecDepth 1000000 in
theorem ia_okM100 : ia_okM 100 = true := by decide +kernel
set_option maxRecDepth 1000000 in
theorem ia_okM101 : ia_okM 101 = true := by decide +kernel
set_option maxRecDepth 1000000 in
theorem ia_okM102 : ia_okM 102 = true := by decide +kernel
set_option maxRecDepth 1000000 in
theorem ia_okM103 : ia_okM 103 = true := by decide +kernel
set_option maxRecDepth 1000000 in
theorem ia_okM104 : ia_okM 104 = true := by decide +kernel
set_option maxRecDepth 1000000 in
theorem ia_okM105 : ia_okM 105 = true := by decide +kernel
set_option maxRecDepth 1000000 in
theorem ia_okM106 : ia_okM 106 = true := by decide +kernel
set_option maxRecDepth 1000000 in
theorem ia_okM107 : ia_okM 107 = true := by decide +kernel
set_option maxRecDepth 1000000 in
theorem ia_okM108 : ia_okM 108 = true := by decide +kernel
set_option maxRecDepth 1000000 in
theorem ia_okM109 : ia_okM 109 = true := by decide +kernel
set_option maxRecDepth 1000000 in
theorem ia_okM110 : ia_okM 110 = true := by decide +kernel
set_option maxRecDepth 1000000 in
theorem ia_okM111 : ia_okM 111 = true := by decide +kernel
set_option maxRecDepth 1000000 in
theorem ia_okM112 : ia_okM 112 = true := by decide +kernel
set_option maxRecDepth 1000000 in
theorem ia_okM113 : ia_okM 113 = true := by decide +kernel
set_option maxRecDepth 1000000 in
theorem ia_okM114 : ia_okM 114 = true := by decide +kernel
set_option maxRecDepth 1000000 in
theorem ia_okM115 : ia_okM 115 = true := by decide +kernel
set_option maxRecDepth 1000000 in
theorem ia_okM116 : ia_okM 116 = true := by decide +kernel
set_option maxRecDepth 1000000 in
theorem ia_okM117 : ia_okM 117 = true := by decide +kernel
set_option maxRecDepth 1000000 in
theorem ia_okM118 : ia_okM 118 = true := by decide +kernel
set_option maxRecDepth 1000000 in
theorem ia_okM119 : ia_okM 119 = true := by decide +kernel
set_option maxRecDepth 1000000 in
theorem ia_okM120 : ia_okM 120 = true := by decide +kernel
set_option maxRecDepth 1000000 in
theorem ia_okM121 : ia_okM 121 = true := by decide +kernel
set_option maxRecDepth 1000000 in
theorem ia_okM122 : ia_okM 122 = true := by decide +kernel
set_option maxRecDepth 1000000 in
theorem ia_okM123 : ia_okM 123 = true := by decide +kernel
set_option maxRecDepth 1000000 in
theorem ia_okM124 : ia_okM 124 = true := by decide +kernel
set_option maxRecDepth 1000000 in
theorem ia_okM125 : ia_okM 125 = true := by decide +kernel
set_option maxRecDepth 1000000 in
theorem ia_okM126 : ia_okM 126 = true := by decide +kernel
set_option maxRecDepth 1000000 in
theorem ia_okM127 : ia_okM 127 = true := by decide +kernel
