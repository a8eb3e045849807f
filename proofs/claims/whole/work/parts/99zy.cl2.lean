/-! level 3: the checks, by computing -/
def rH : Dp := (f_X11_init 0 1 (dD0 11)).getD (dD0 0)
def rM : Dp := (f_X12_init 0 1 (dD0 12)).getD (dD0 0)
set_option maxRecDepth 100000 in
theorem rM_some : (f_X12_init 0 1 (dD0 12)).isSome = true := by decide +kernel
set_option maxRecDepth 100000 in
theorem rM_ok : yM.1.all (zokC yM ordM p3H rM) = true := by decide +kernel
