/-! Each entry is as the class file has it (by kernel). -/
set_option maxRecDepth 1000000 in
theorem ia_okM170 : ia_okM 170 = true := by decide +kernel
set_option maxRecDepth 1000000 in
theorem ia_okM171 : ia_okM 171 = true := by decide +kernel
set_option maxRecDepth 1000000 in
theorem ia_okM172 : ia_okM 172 = true := by decide +kernel
set_option maxRecDepth 1000000 in
theorem ia_okM173 : ia_okM 173 = true := by decide +kernel
set_option maxRecDepth 1000000 in
theorem ia_okM174 : ia_okM 174 = true := by decide +kernel
set_option maxRecDepth 1000000 in
theorem ia_okM175 : ia_okM 175 = true := by decide +kernel
set_option maxRecDepth 1000000 in
theorem ia_okM176 : ia_okM 176 = true := by decide +kernel
set_option maxRecDepth 1000000 in
theorem ia_okM177 : ia_okM 177 = true := by decide +kernel
set_option maxRecDepth 1000000 in
theorem ia_okM178 : ia_okM 178 = true := by decide +kernel
set_option maxRecDepth 1000000 in
theorem ia_okM179 : ia_okM 179 = true := by decide +kernel
set_option maxRecDepth 1000000 in
theorem ia_okM180 : ia_okM 180 = true := by decide +kernel
set_option maxRecDepth 1000000 in
theorem ia_okM181 : ia_okM 181 = true := by decide +kernel
set_option maxRecDepth 1000000 in
theorem ia_okM182 : ia_okM 182 = true := by decide +kernel
set_option maxRecDepth 1000000 in
theorem ia_okM183 : ia_okM 183 = true := by decide +kernel
set_option maxRecDepth 1000000 in
theorem ia_okM184 : ia_okM 184 = true := by decide +kernel
set_option maxRecDepth 1000000 in
theorem ia_okM185 : ia_okM 185 = true := by decide +kernel
set_option maxRecDepth 1000000 in
theorem ia_okM186 : ia_okM 186 = true := by decide +kernel
set_option maxRecDepth 1000000 in
theorem ia_okM187 : ia_okM 187 = true := by decide +kernel
set_option maxRecDepth 1000000 in
theorem ia_okM188 : ia_okM 188 = true := by decide +kernel
set_option maxRecDepth 1000000 in
theorem ia_okM189 : ia_okM 189 = true := by decide +kernel
set_option maxRecDepth 1000000 in
theorem ia_okM190 : ia_okM 190 = true := by decide +kernel
set_option maxRecDepth 1000000 in
theorem ia_okM191 : ia_okM 191 = true := by decide +kernel
set_option maxRecDepth 1000000 in
theorem ia_okM192 : ia_okM 192 = true := by decide +kernel
set_option maxRecDepth 1000000 in
theorem ia_okM193 : ia_okM 193 = true := by decide +kernel
set_option maxRecDepth 1000000 in
theorem ia_okM194 : ia_okM 194 = true := by decide +kernel
