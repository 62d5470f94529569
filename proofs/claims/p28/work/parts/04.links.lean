set_option maxRecDepth 100000 in
theorem ml_okM : ml_okLK = true := by decide +kernel
set_option maxRecDepth 100000 in
theorem mt_okF : mm_okFL = true := by decide +kernel
set_option maxRecDepth 100000 in
theorem mt_okM : mm_okML = true := by decide +kernel
set_option maxRecDepth 100000 in
theorem mt_okN : mm_okNL = true := by decide +kernel
