/-! Each entry is as the class file has it (by kernel). -/
set_option maxRecDepth 1000000 in
theorem ia_okM195 : ia_okM 195 = true := by decide +kernel
set_option maxRecDepth 1000000 in
theorem ia_okM196 : ia_okM 196 = true := by decide +kernel
set_option maxRecDepth 1000000 in
theorem ia_okM197 : ia_okM 197 = true := by decide +kernel
set_option maxRecDepth 1000000 in
theorem ia_okM198 : ia_okM 198 = true := by decide +kernel
set_option maxRecDepth 1000000 in
theorem ia_okM199 : ia_okM 199 = true := by decide +kernel
set_option maxRecDepth 1000000 in
theorem ia_okM200 : ia_okM 200 = true := by decide +kernel
set_option maxRecDepth 1000000 in
theorem ia_okM201 : ia_okM 201 = true := by decide +kernel
set_option maxRecDepth 1000000 in
theorem ia_okM202 : ia_okM 202 = true := by decide +kernel
set_option maxRecDepth 1000000 in
theorem ia_okM203 : ia_okM 203 = true := by decide +kernel
set_option maxRecDepth 1000000 in
theorem ia_okM204 : ia_okM 204 = true := by decide +kernel
set_option maxRecDepth 1000000 in
theorem ia_okM205 : ia_okM 205 = true := by decide +kernel
set_option maxRecDepth 1000000 in
theorem ia_okM206 : ia_okM 206 = true := by decide +kernel
set_option maxRecDepth 1000000 in
theorem ia_okM207 : ia_okM 207 = true := by decide +kernel
set_option maxRecDepth 1000000 in
theorem ia_okM208 : ia_okM 208 = true := by decide +kernel
set_option maxRecDepth 1000000 in
theorem ia_okM209 : ia_okM 209 = true := by decide +kernel
set_option maxRecDepth 1000000 in
theorem ia_okM210 : ia_okM 210 = true := by decide +kernel
set_option maxRecDepth 1000000 in
theorem ia_okM211 : ia_okM 211 = true := by decide +kernel
set_option maxRecDepth 1000000 in
theorem ia_okM212 : ia_okM 212 = true := by decide +kernel
set_option maxRecDepth 1000000 in
theorem ia_okM213 : ia_okM 213 = true := by decide +kernel
set_option maxRecDepth 1000000 in
theorem ia_okM214 : ia_okM 214 = true := by decide +kernel
set_option maxRecDepth 1000000 in
theorem ia_okM215 : ia_okM 215 = true := by decide +kernel
set_option maxRecDepth 1000000 in
theorem ia_okM216 : ia_okM 216 = true := by decide +kernel
set_option maxRecDepth 1000000 in
theorem ia_okM217 : ia_okM 217 = true := by decide +kernel
set_option maxRecDepth 1000000 in
theorem ia_okM218 : ia_okM 218 = true := by decide +kernel
set_option maxRecDepth 1000000 in
theorem ia_okM219 : ia_okM 219 = true := by decide +kernel
set_option maxRecDepth 1000000 in
theorem ia_okM220 : ia_okM 220 = true := by decide +kernel
set_option maxRecDepth 1000000 in
theorem ia_okM221 : ia_okM 221 = true := by decide +kernel
set_option maxRecDepth 1000000 in
theorem ia_okM222 : ia_okM 222 = true := by decide +kernel
set_option maxRecDepth 1000000 in
theorem ia_okM223 : ia_okM 223 = true := by decide +kernel
set_option maxRecDepth 1000000 in
theorem ia_okM224 : ia_okM 224 = true := by decide +kernel
set_option maxRecDepth 1000000 in
theorem ia_okM225 : ia_okM 225 = true := by decide +kernel
set_option maxRecDepth 1000000 in
theorem ia_okM226 : ia_okM 226 = true := by decide +kernel
set_option maxRecDepth 1000000 in
theorem ia_okM227 : ia_okM 227 = true := by decide +kernel
set_option maxRecDepth 1000000 in
theorem ia_okM228 : ia_okM 228 = true := by decide +kernel
set_option maxRecDepth 1000000 in
theorem ia_okM229 : ia_okM 229 = true := by decide +kernel
set_option maxRecDepth 1000000 in
theorem ia_okM230 : ia_okM 230 = true := by decide +kernel
