/-! level 3: the checks, by computing -/
def rH : Dp := (f_X11_init 0 1 (dD0 11)).getD (dD0 0)
def rM : Dp := (f_X12_init 0 1 (dD0 12)).getD (dD0 0)
def zSH : Hp := hpO ordH p3H rH
def zSM : Hp := hpO ordM p3H rM
def zdI (S : Hp) (l : List (Nat × Nat × Int32)) : Bool := l.all (fun q => decide (S.1 q.1 q.2.1 = q.2.2))
def zd0 (S : Hp) (a n : Nat) : Bool := (List.range n).all (fun k => decide (S.1 a k = 0))
set_option maxRecDepth 100000 in
theorem rM_some : (f_X12_init 0 1 (dD0 12)).isSome = true := by decide +kernel
set_option maxRecDepth 100000 in
theorem rM_ok : yM.1.all (zokC yM ordM p3H rM) = true := by decide +kernel
set_option maxRecDepth 100000 in
theorem rH_some : (f_X11_init 0 1 (dD0 11)).isSome = true := by decide +kernel
set_option maxRecDepth 100000 in
theorem rH_ok : yH.1.all (zokC yH ordH p3H rH) = true := by decide +kernel
set_option maxRecDepth 100000 in
theorem rH_pos : zokPs ordH posH 0 yH.1 = true := by decide +kernel
set_option maxRecDepth 100000 in
theorem rM_pos : zokPs ordM posM 0 yM.1 = true := by decide +kernel
set_option maxRecDepth 100000 in
theorem rH_cells : (yH.1.all (fun a => Nat.ble 1 (yH.2.1 a).1 && Nat.ble (ordH a) 235)) = true := by decide +kernel
set_option maxRecDepth 100000 in
theorem rM_cells : (yM.1.all (fun a => Nat.ble 1 (yM.2.1 a).1)) = true := by decide +kernel
set_option maxRecDepth 100000 in
theorem rH_ints : zdI zSH [(10, 1, 0), (10, 2, 0), (10, 3, -1), (0, 13, 0), (0, 14, 0), (0, 15, 0), (0, 16, 1), (101, 0, 0), (101, 1, 0), (101, 2, 0), (70, 0, 0), (90, 1, 0), (1200, 0, 0), (1200, 1, 0), (1200, 2, 0), (1200, 7, 0), (60, 14, -1), (60, 15, 0)] = true := by decide +kernel
set_option maxRecDepth 100000 in
theorem rH_zero : (zd0 zSH 1 6 && (zd0 zSH 53 40 && (zd0 zSH 33 40 && (zd0 zSH 1201 6 && (zd0 zSH 1202 6 && zd0 zSH 1203 6))))) = true := by decide +kernel
set_option maxRecDepth 100000 in
theorem rH_words : (List.range 35).all (fun i => decide (zSH.1 12 i = nI (enc (wL.getD i [])))) = true := by decide +kernel
set_option maxRecDepth 100000 in
theorem rM_ints : zdI zSM [(0, 1, 0), (0, 7, 0), (0, 8, -1), (0, 52, 0), (41, 3, 0), (41, 4, 0), (41, 5, 0), (43, 3, 0), (43, 5, 0), (47, 3, 0), (48, 2, -1), (48, 3, -1), (0, 73, 0), (0, 72, 0), (0, 66, 0), (0, 110, 0), (55, 26, 0), (0, 62, 0)] = true := by decide +kernel
set_option maxRecDepth 100000 in
theorem rM_zero : (zd0 zSM 10 6 && zd0 zSM 55 21) = true := by decide +kernel
set_option maxRecDepth 100000 in
theorem rM_words : wtab.all (fun p => (List.range p.2.length).all (fun i => decide (zSM.1 p.1 i = nI (p.2.getD i 0)))) = true := by decide +kernel
set_option maxRecDepth 100000 in
theorem rM_seed : decide (zSM.2.1 0 74 = lN 1) = true := by decide +kernel
