/-! Each entry is as the class file has it (by kernel). -/
set_option maxRecDepth 1000000 in
theorem ia_okM231 : ia_okM 231 = true := by decide +kernel
set_option maxRecDepth 1000000 in
theorem ia_okM232 : ia_okM 232 = true := by decide +kernel
set_option maxRecDepth 1000000 in
theorem ia_okM233 : ia_okM 233 = true := by decide +kernel
set_option maxRecDepth 1000000 in
theorem ia_okM234 : ia_okM 234 = true := by decide +kernel
set_option maxRecDepth 1000000 in
theorem ia_okM235 : ia_okM 235 = true := by decide +kernel
set_option maxRecDepth 1000000 in
theorem ia_okM236 : ia_okM 236 = true := by decide +kernel
set_option maxRecDepth 1000000 in
theorem ia_okM237 : ia_okM 237 = true := by decide +kernel
set_option maxRecDepth 1000000 in
theorem ia_okM238 : ia_okM 238 = true := by decide +kernel
set_option maxRecDepth 1000000 in
theorem ia_okM239 : ia_okM 239 = true := by decide +kernel
set_option maxRecDepth 1000000 in
theorem ia_okM240 : ia_okM 240 = true := by decide +kernel
set_option maxRecDepth 1000000 in
theorem ia_okM241 : ia_okM 241 = true := by decide +kernel
set_option maxRecDepth 1000000 in
theorem ia_okM242 : ia_okM 242 = true := by decide +kernel
set_option maxRecDepth 1000000 in
theorem ia_okM243 : ia_okM 243 = true := by decide +kernel
set_option maxRecDepth 1000000 in
theorem ia_okM244 : ia_okM 244 = true := by decide +kernel
set_option maxRecDepth 1000000 in
theorem ia_okM245 : ia_okM 245 = true := by decide +kernel
set_option maxRecDepth 1000000 in
theorem ia_okM246 : ia_okM 246 = true := by decide +kernel
set_option maxRecDepth 1000000 in
theorem ia_okM247 : ia_okM 247 = true := by decide +kernel
set_option maxRecDepth 1000000 in
theorem ia_okM248 : ia_okM 248 = true := by decide +kernel
set_option maxRecDepth 1000000 in
theorem ia_okM249 : ia_okM 249 = true := by decide +kernel
set_option maxRecDepth 1000000 in
theorem ia_okM250 : ia_okM 250 = true := by decide +kernel
set_option maxRecDepth 1000000 in
theorem ia_okM251 : ia_okM 251 = true := by decide +kernel
set_option maxRecDepth 1000000 in
theorem ia_okM252 : ia_okM 252 = true := by decide +kernel
set_option maxRecDepth 1000000 in
theorem ia_okM253 : ia_okM 253 = true := by decide +kernel
set_option maxRecDepth 1000000 in
theorem ia_okM254 : ia_okM 254 = true := by decide +kernel
set_option maxRecDepth 1000000 in
theorem ia_okM255 : ia_okM 255 = true := by decide +kernel
set_option maxRecDepth 1000000 in
theorem ia_okM256 : ia_okM 256 = true := by decide +kernel
set_option maxRecDepth 1000000 in
theorem ia_okM257 : ia_okM 257 = true := by decide +kernel
set_option maxRecDepth 1000000 in
theorem ia_okM258 : ia_okM 258 = true := by decide +kernel
set_option maxRecDepth 1000000 in
theorem ia_okM259 : ia_okM 259 = true := by decide +kernel
set_option maxRecDepth 1000000 in
theorem ia_okM260 : ia_okM 260 = true := by decide +kernel
set_option maxRecDepth 1000000 in
theorem ia_okM261 : ia_okM 261 = true := by decide +kernel
set_option maxRecDepth 1000000 in
theorem ia_okM263 : ia_okM 263 = true := by decide +kernel
set_option maxRecDepth 1000000 in
theorem ia_okM264 : ia_okM 264 = true := by decide +kernel
set_option maxRecDepth 1000000 in
theorem ia_okM265 : ia_okM 265 = true := by decide +kernel
set_option maxRecDepth 1000000 in
theorem ia_okM266 : ia_okM 266 = true := by decide +kernel
set_option maxRecDepth 1000000 in
theorem ia_okM267 : ia_okM 267 = true := by decide +kernel
set_option maxRecDepth 1000000 in
theorem ia_okM268 : ia_okM 268 = true := by decide +kernel
set_option maxRecDepth 1000000 in
theorem ia_okM269 : ia_okM 269 = true := by decide +kernel
