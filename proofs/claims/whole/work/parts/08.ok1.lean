/-! Each entry is as the class file has it (by kernel). -/
set_option maxRecDepth 1000000 in
theorem ia_okM41 : ia_okM 41 = true := by decide +kernel
set_option maxRecDepth 1000000 in
theorem ia_okM42 : ia_okM 42 = true := by decide +kernel
set_option maxRecDepth 1000000 in
theorem ia_okM43 : ia_okM 43 = true := by decide +kernel
set_option maxRecDepth 1000000 in
theorem ia_okM44 : ia_okM 44 = true := by decide +kernel
set_option maxRecDepth 1000000 in
theorem ia_okM45 : ia_okM 45 = true := by decide +kernel
set_option maxRecDepth 1000000 in
theorem ia_okM46 : ia_okM 46 = true := by decide +kernel
set_option maxRecDepth 1000000 in
theorem ia_okM47 : ia_okM 47 = true := by decide +kernel
set_option maxRecDepth 1000000 in
theorem ia_okM48 : ia_okM 48 = true := by decide +kernel
set_option maxRecDepth 1000000 in
theorem ia_okM49 : ia_okM 49 = true := by decide +kernel
set_option maxRecDepth 1000000 in
theorem ia_okM50 : ia_okM 50 = true := by decide +kernel
set_option maxRecDepth 1000000 in
theorem ia_okM51 : ia_okM 51 = true := by decide +kernel
set_option maxRecDepth 1000000 in
theorem ia_okM52 : ia_okM 52 = true := by decide +kernel
set_option maxRecDepth 1000000 in
theorem ia_okM53 : ia_okM 53 = true := by decide +kernel
set_option maxRecDepth 1000000 in
theorem ia_okM54 : ia_okM 54 = true := by decide +kernel
set_option maxRecDepth 1000000 in
theorem ia_okM55 : ia_okM 55 = true := by decide +kernel
set_option maxRecDepth 1000000 in
theorem ia_okM56 : ia_okM 56 = true := by decide +kernel
set_option maxRecDepth 1000000 in
theorem ia_okM57 : ia_okM 57 = true := by decide +kernel
set_option maxRecDepth 1000000 in
theorem ia_okM58 : ia_okM 58 = true := by decide +kernel
set_option maxRecDepth 1000000 in
theorem ia_okM59 : ia_okM 59 = true := by decide +kernel
set_option maxRecDepth 1000000 in
theorem ia_okM60 : ia_okM 60 = true := by decide +kernel
set_option maxRecDepth 1000000 in
theorem ia_okM61 : ia_okM 61 = true := by decide +kernel
set_option maxRecDepth 1000000 in
theorem ia_okM62 : ia_okM 62 = true := by decide +kernel
set_option maxRecDepth 1000000 in
theorem ia_okM63 : ia_okM 63 = true := by decide +kernel
set_option maxRecDepth 1000000 in
theorem ia_okM64 : ia_okM 64 = true := by decide +kernel
set_option maxRecDepth 1000000 in
theorem ia_okM65 : ia_okM 65 = true := by decide +kernel
set_option maxRecDepth 1000000 in
theorem ia_okM66 : ia_okM 66 = true := by decide +kernel
set_option maxRecDepth 1000000 in
theorem ia_okM67 : ia_okM 67 = true := by decide +kernel
set_option maxRecDepth 1000000 in
theorem ia_okM68 : ia_okM 68 = true := by decide +kernel
set_option maxRecDepth 1000000 in
theorem ia_okM69 : ia_okM 69 = true := by decide +kernel
set_option maxRecDepth 1000000 in
theorem ia_okM70 : ia_okM 70 = true := by decide +kernel
set_option maxRecDepth 1000000 in
theorem ia_okM71 : ia_okM 71 = true := by decide +kernel
set_option maxRecDepth 1000000 in
theorem ia_okM72 : ia_okM 72 = true := by decide +kernel
set_option maxRecDepth 1000000 in
theorem ia_okM73 : ia_okM 73 = true := by decide +kernel
set_option maxRecDepth 1000000 in
theorem ia_okM74 : ia_okM 74 = true := by decide +kernel
set_option maxRecDepth 1000000 in
theorem ia_okM75 : ia_okM 75 = true := by decide +kernel
set_option maxRecDepth 1000000 in
theorem ia_okM76 : ia_okM 76 = true := by decide +kernel
set_option maxRecDepth 1000000 in
theorem ia_okM77 : ia_okM 77 = true := by decide +kernel
set_option maxRecDepth 1000000 in
theorem ia_okM78 : ia_okM 78 = true := by decide +kernel
set_option maxRecDepth 1000000 in
theorem ia_okM79 : ia_okM 79 = true := by decide +kernel
set_option maxRecDepth 1000000 in
theorem ia_okM80 : ia_okM 80 = true := by decide +kernel
set_option maxRecDepth 1000000 in
theorem ia_okM81 : ia_okM 81 = true := by decide +kernel
