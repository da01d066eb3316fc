/-! Each entry is as the class file has it (by kernel). -/
set_option maxRecDepth 1000000 in
theorem ia_okM128 : ia_okM 128 = true := by decide +kernel
set_option maxRecDepth 1000000 in
theorem ia_okM129 : ia_okM 129 = true := by decide +kernel
set_option maxRecDepth 1000000 in
theorem ia_okM130 : ia_okM 130 = true := by decide +kernel
set_option maxRecDepth 1000000 in
theorem ia_okM131 : ia_okM 131 = true := by decide +kernel
set_option maxRecDepth 1000000 in
theorem ia_okM132 : ia_okM 132 = true := by decide +kernel
set_option maxRecDepth 1000000 in
theorem ia_okM133 : ia_okM 133 = true := by decide +kernel
set_option maxRecDepth 1000000 in
theorem ia_okM134 : ia_okM 134 = true := by decide +kernel
set_option maxRecDepth 1000000 in
theorem ia_okM135 : ia_okM 135 = true := by decide +kernel
set_option maxRecDepth 1000000 in
theorem ia_okM136 : ia_okM 136 = true := by decide +kernel
set_option maxRecDepth 1000000 in
theorem ia_okM137 : ia_okM 137 = true := by decide +kernel
set_option maxRecDepth 1000000 in
theorem ia_okM138 : ia_okM 138 = true := by decide +kernel
set_option maxRecDepth 1000000 in
theorem ia_okM139 : ia_okM 139 = true := by decide +kernel
set_option maxRecDepth 1000000 in
theorem ia_okM140 : ia_okM 140 = true := by decide +kernel
set_option maxRecDepth 1000000 in
theorem ia_okM141 : ia_okM 141 = true := by decide +kernel
set_option maxRecDepth 1000000 in
theorem ia_okM142 : ia_okM 142 = true := by decide +kernel
set_option maxRecDepth 1000000 in
theorem ia_okM143 : ia_okM 143 = true := by decide +kernel
set_option maxRecDepth 1000000 in
theorem ia_okM144 : ia_okM 144 = true := by decide +kernel
set_option maxRecDepth 1000000 in
theorem ia_okM145 : ia_okM 145 = true := by decide +kernel
set_option maxRecDepth 1000000 in
theorem ia_okM146 : ia_okM 146 = true := by decide +kernel
set_option maxRecDepth 1000000 in
theorem ia_okM147 : ia_okM 147 = true := by decide +kernel
set_option maxRecDepth 1000000 in
theorem ia_okM148 : ia_okM 148 = true := by decide +kernel
set_option maxRecDepth 1000000 in
theorem ia_okM149 : ia_okM 149 = true := by decide +kernel
set_option maxRecDepth 1000000 in
theorem ia_okM150 : ia_okM 150 = true := by decide +kernel
set_option maxRecDepth 1000000 in
theorem ia_okM151 : ia_okM 151 = true := by decide +kernel
set_option maxRecDepth 1000000 in
theorem ia_okM152 : ia_okM 152 = true := by decide +kernel
set_option maxRecDepth 1000000 in
theorem ia_okM153 : ia_okM 153 = true := by decide +kernel
set_option maxRecDepth 1000000 in
theorem ia_okM154 : ia_okM 154 = true := by decide +kernel
set_option maxRecDepth 1000000 in
theorem ia_okM155 : ia_okM 155 = true := by decide +kernel
set_option maxRecDepth 1000000 in
theorem ia_okM156 : ia_okM 156 = true := by decide +kernel
set_option maxRecDepth 1000000 in
theorem ia_okM157 : ia_okM 157 = true := by decide +kernel
set_option maxRecDepth 1000000 in
theorem ia_okM158 : ia_okM 158 = true := by decide +kernel
set_option maxRecDepth 1000000 in
theorem ia_okM159 : ia_okM 159 = true := by decide +kernel
set_option maxRecDepth 1000000 in
theorem ia_okM160 : ia_okM 160 = true := by decide +kernel
set_option maxRecDepth 1000000 in
theorem ia_okM161 : ia_okM 161 = true := by decide +kernel
set_option maxRecDepth 1000000 in
theorem ia_okM162 : ia_okM 162 = true := by decide +kernel
set_option maxRecDepth 1000000 in
theorem ia_okM163 : ia_okM 163 = true := by decide +kernel
set_option maxRecDepth 1000000 in
theorem ia_okM164 : ia_okM 164 = true := by decide +kernel
set_option maxRecDepth 1000000 in
theorem ia_okM165 : ia_okM 165 = true := by decide +kernel
set_option maxRecDepth 1000000 in
theorem ia_okM166 : ia_okM 166 = true := by decide +kernel
set_option maxRecDepth 1000000 in
theorem ia_okM167 : ia_okM 167 = true := by decide +kernel
set_option maxRecDepth 1000000 in
theorem ia_okM168 : ia_okM 168 = true := by decide +kernel
set_option maxRecDepth 1000000 in
theorem ia_okM169 : ia_okM 169 = true := by decide +kernel
