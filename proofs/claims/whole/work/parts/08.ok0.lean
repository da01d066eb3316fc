/-! Each entry is as the class file has it (by kernel). -/
set_option maxRecDepth 1000000 in
theorem ia_okM0 : ia_okM 0 = true := by decide +kernel
set_option maxRecDepth 1000000 in
theorem ia_okM1 : ia_okM 1 = true := by decide +kernel
set_option maxRecDepth 1000000 in
theorem ia_okM2 : ia_okM 2 = true := by decide +kernel
set_option maxRecDepth 1000000 in
theorem ia_okM3 : ia_okM 3 = true := by decide +kernel
set_option maxRecDepth 1000000 in
theorem ia_okM4 : ia_okM 4 = true := by decide +kernel
set_option maxRecDepth 1000000 in
theorem ia_okM5 : ia_okM 5 = true := by decide +kernel
set_option maxRecDepth 1000000 in
theorem ia_okM6 : ia_okM 6 = true := by decide +kernel
set_option maxRecDepth 1000000 in
theorem ia_okM7 : ia_okM 7 = true := by decide +kernel
set_option maxRecDepth 1000000 in
theorem ia_okM8 : ia_okM 8 = true := by decide +kernel
set_option maxRecDepth 1000000 in
theorem ia_okM9 : ia_okM 9 = true := by decide +kernel
set_option maxRecDepth 1000000 in
theorem ia_okM10 : ia_okM 10 = true := by decide +kernel
set_option maxRecDepth 1000000 in
theorem ia_okM11 : ia_okM 11 = true := by decide +kernel
set_option maxRecDepth 1000000 in
theorem ia_okM12 : ia_okM 12 = true := by decide +kernel
set_option maxRecDepth 1000000 in
theorem ia_okM13 : ia_okM 13 = true := by decide +kernel
set_option maxRecDepth 1000000 in
theorem ia_okM14 : ia_okM 14 = true := by decide +kernel
set_option maxRecDepth 1000000 in
theorem ia_okM15 : ia_okM 15 = true := by decide +kernel
set_option maxRecDepth 1000000 in
theorem ia_okM16 : ia_okM 16 = true := by decide +kernel
set_option maxRecDepth 1000000 in
theorem ia_okM17 : ia_okM 17 = true := by decide +kernel
set_option maxRecDepth 1000000 in
theorem ia_okM18 : ia_okM 18 = true := by decide +kernel
set_option maxRecDepth 1000000 in
theorem ia_okM19 : ia_okM 19 = true := by decide +kernel
set_option maxRecDepth 1000000 in
theorem ia_okM20 : ia_okM 20 = true := by decide +kernel
set_option maxRecDepth 1000000 in
theorem ia_okM21 : ia_okM 21 = true := by decide +kernel
set_option maxRecDepth 1000000 in
theorem ia_okM22 : ia_okM 22 = true := by decide +kernel
set_option maxRecDepth 1000000 in
theorem ia_okM23 : ia_okM 23 = true := by decide +kernel
set_option maxRecDepth 1000000 in
theorem ia_okM24 : ia_okM 24 = true := by decide +kernel
set_option maxRecDepth 1000000 in
theorem ia_okM25 : ia_okM 25 = true := by decide +kernel
set_option maxRecDepth 1000000 in
theorem ia_okM26 : ia_okM 26 = true := by decide +kernel
set_option maxRecDepth 1000000 in
theorem ia_okM27 : ia_okM 27 = true := by decide +kernel
set_option maxRecDepth 1000000 in
theorem ia_okM28 : ia_okM 28 = true := by decide +kernel
set_option maxRecDepth 1000000 in
theorem ia_okM29 : ia_okM 29 = true := by decide +kernel
set_option maxRecDepth 1000000 in
theorem ia_okM30 : ia_okM 30 = true := by decide +kernel
set_option maxRecDepth 1000000 in
theorem ia_okM31 : ia_okM 31 = true := by decide +kernel
set_option maxRecDepth 1000000 in
theorem ia_okM32 : ia_okM 32 = true := by decide +kernel
set_option maxRecDepth 1000000 in
theorem ia_okM33 : ia_okM 33 = true := by decide +kernel
set_option maxRecDepth 1000000 in
theorem ia_okM34 : ia_okM 34 = true := by decide +kernel
set_option maxRecDepth 1000000 in
theorem ia_okM35 : ia_okM 35 = true := by decide +kernel
set_option maxRecDepth 1000000 in
theorem ia_okM36 : ia_okM 36 = true := by decide +kernel
set_option maxRecDepth 1000000 in
theorem ia_okM37 : ia_okM 37 = true := by decide +kernel
set_option maxRecDepth 1000000 in
theorem ia_okM38 : ia_okM 38 = true := by decide +kernel
set_option maxRecDepth 1000000 in
theorem ia_okM39 : ia_okM 39 = true := by decide +kernel
set_option maxRecDepth 1000000 in
theorem ia_okM40 : ia_okM 40 = true := by decide +kernel
