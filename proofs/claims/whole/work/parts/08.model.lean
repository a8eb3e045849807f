/-! the reference: one object (0), its rows (place of the field, and 1) -/
def shM : List (Nat × Nat) := [(1, 12), (4, 1600), (0, 0), (0, 0), (0, 0), (0, 0), (0, 0), (0, 0), (0, 0), (0, 0), (4, 6), (3, 4), (3, 4), (3, 4), (3, 6), (3, 6), (3, 5), (3, 5), (3, 4), (3, 4), (3, 5), (3, 4), (3, 5), (3, 4), (3, 5), (3, 6), (3, 4), (3, 5), (3, 4), (3, 6), (3, 5), (3, 5), (3, 4), (3, 4), (3, 2), (3, 3), (3, 3), (3, 3), (3, 3), (3, 3), (0, 0), (4, 6), (5, 36), (4, 6), (4, 24), (4, 36), (4, 20), (4, 4), (4, 4), (4, 4), (4, 3200), (0, 0), (0, 0), (0, 0), (0, 0), (4, 117), (4, 26), (0, 0), (0, 0), (4, 36), (4, 6), (4, 6), (4, 6), (0, 0), (0, 0), (0, 0), (4, 26), (0, 0), (4, 48), (4, 384), (6, 64), (0, 0), (4, 2340), (0, 0), (0, 0), (0, 0), (3, 5), (3, 4), (3, 5), (3, 5), (3, 4), (3, 5), (3, 3), (3, 3), (3, 2), (3, 3), (3, 3), (3, 3), (3, 4), (3, 5), (3, 4), (3, 4), (3, 5), (3, 5), (3, 6), (3, 6), (3, 5), (3, 5), (3, 4), (3, 4), (4, 1700), (0, 0), (4, 1700), (0, 0), (0, 0), (0, 0), (5, 1700), (0, 0), (0, 0), (0, 0), (4, 48), (0, 0)]
def kdM : List Nat := [2, 0, 0, 0, 0, 0, 0, 0, 0, 2, 2, 2, 2, 2, 2, 2, 2, 2, 2, 2, 2, 2, 2, 2, 2, 2, 2, 2, 2, 2, 2, 2, 2, 2, 2, 2, 2, 2, 2, 0, 2, 2, 2, 2, 2, 2, 2, 2, 2, 2, 0, 0, 0, 0, 2, 2, 0, 0, 2, 2, 2, 2, 0, 0, 0, 2, 0, 2, 2, 2, 0, 2, 0, 0, 1, 2, 2, 2, 2, 2, 2, 2, 2, 2, 2, 2, 2, 2, 2, 2, 2, 2, 2, 2, 2, 2, 2, 2, 2, 2, 0, 2, 0, 0, 0, 2, 0, 1, 0, 2, 0]
def yM : Sy := ((List.range 112).filter (fun a => (shM.getD a (0, 0)).1 != 0), fun a => shM.getD a (0, 0), fun _ k => kdM.getD k 0, fun _ k => k + 1, fun _ _ => 0, fun _ => 111)
theorem aM_0 : 0 ∈ yM.1 ∧ yM.2.1 0 = (1, 12) := by decide +kernel
theorem aM_1 : 1 ∈ yM.1 ∧ yM.2.1 1 = (4, 1600) := by decide +kernel
theorem aM_10 : 10 ∈ yM.1 ∧ yM.2.1 10 = (4, 6) := by decide +kernel
theorem aM_11 : 11 ∈ yM.1 ∧ yM.2.1 11 = (3, 4) := by decide +kernel
theorem aM_12 : 12 ∈ yM.1 ∧ yM.2.1 12 = (3, 4) := by decide +kernel
theorem aM_13 : 13 ∈ yM.1 ∧ yM.2.1 13 = (3, 4) := by decide +kernel
theorem aM_14 : 14 ∈ yM.1 ∧ yM.2.1 14 = (3, 6) := by decide +kernel
theorem aM_15 : 15 ∈ yM.1 ∧ yM.2.1 15 = (3, 6) := by decide +kernel
theorem aM_16 : 16 ∈ yM.1 ∧ yM.2.1 16 = (3, 5) := by decide +kernel
theorem aM_17 : 17 ∈ yM.1 ∧ yM.2.1 17 = (3, 5) := by decide +kernel
theorem aM_18 : 18 ∈ yM.1 ∧ yM.2.1 18 = (3, 4) := by decide +kernel
theorem aM_19 : 19 ∈ yM.1 ∧ yM.2.1 19 = (3, 4) := by decide +kernel
theorem aM_20 : 20 ∈ yM.1 ∧ yM.2.1 20 = (3, 5) := by decide +kernel
theorem aM_21 : 21 ∈ yM.1 ∧ yM.2.1 21 = (3, 4) := by decide +kernel
theorem aM_22 : 22 ∈ yM.1 ∧ yM.2.1 22 = (3, 5) := by decide +kernel
theorem aM_23 : 23 ∈ yM.1 ∧ yM.2.1 23 = (3, 4) := by decide +kernel
theorem aM_24 : 24 ∈ yM.1 ∧ yM.2.1 24 = (3, 5) := by decide +kernel
theorem aM_25 : 25 ∈ yM.1 ∧ yM.2.1 25 = (3, 6) := by decide +kernel
theorem aM_26 : 26 ∈ yM.1 ∧ yM.2.1 26 = (3, 4) := by decide +kernel
theorem aM_27 : 27 ∈ yM.1 ∧ yM.2.1 27 = (3, 5) := by decide +kernel
theorem aM_28 : 28 ∈ yM.1 ∧ yM.2.1 28 = (3, 4) := by decide +kernel
theorem aM_29 : 29 ∈ yM.1 ∧ yM.2.1 29 = (3, 6) := by decide +kernel
theorem aM_30 : 30 ∈ yM.1 ∧ yM.2.1 30 = (3, 5) := by decide +kernel
theorem aM_31 : 31 ∈ yM.1 ∧ yM.2.1 31 = (3, 5) := by decide +kernel
theorem aM_32 : 32 ∈ yM.1 ∧ yM.2.1 32 = (3, 4) := by decide +kernel
theorem aM_33 : 33 ∈ yM.1 ∧ yM.2.1 33 = (3, 4) := by decide +kernel
theorem aM_34 : 34 ∈ yM.1 ∧ yM.2.1 34 = (3, 2) := by decide +kernel
theorem aM_35 : 35 ∈ yM.1 ∧ yM.2.1 35 = (3, 3) := by decide +kernel
theorem aM_36 : 36 ∈ yM.1 ∧ yM.2.1 36 = (3, 3) := by decide +kernel
theorem aM_37 : 37 ∈ yM.1 ∧ yM.2.1 37 = (3, 3) := by decide +kernel
theorem aM_38 : 38 ∈ yM.1 ∧ yM.2.1 38 = (3, 3) := by decide +kernel
theorem aM_39 : 39 ∈ yM.1 ∧ yM.2.1 39 = (3, 3) := by decide +kernel
theorem aM_41 : 41 ∈ yM.1 ∧ yM.2.1 41 = (4, 6) := by decide +kernel
theorem aM_42 : 42 ∈ yM.1 ∧ yM.2.1 42 = (5, 36) := by decide +kernel
theorem aM_43 : 43 ∈ yM.1 ∧ yM.2.1 43 = (4, 6) := by decide +kernel
theorem aM_44 : 44 ∈ yM.1 ∧ yM.2.1 44 = (4, 24) := by decide +kernel
theorem aM_45 : 45 ∈ yM.1 ∧ yM.2.1 45 = (4, 36) := by decide +kernel
theorem aM_46 : 46 ∈ yM.1 ∧ yM.2.1 46 = (4, 20) := by decide +kernel
theorem aM_47 : 47 ∈ yM.1 ∧ yM.2.1 47 = (4, 4) := by decide +kernel
theorem aM_48 : 48 ∈ yM.1 ∧ yM.2.1 48 = (4, 4) := by decide +kernel
theorem aM_49 : 49 ∈ yM.1 ∧ yM.2.1 49 = (4, 4) := by decide +kernel
theorem aM_50 : 50 ∈ yM.1 ∧ yM.2.1 50 = (4, 3200) := by decide +kernel
theorem aM_55 : 55 ∈ yM.1 ∧ yM.2.1 55 = (4, 117) := by decide +kernel
theorem aM_56 : 56 ∈ yM.1 ∧ yM.2.1 56 = (4, 26) := by decide +kernel
theorem aM_59 : 59 ∈ yM.1 ∧ yM.2.1 59 = (4, 36) := by decide +kernel
theorem aM_60 : 60 ∈ yM.1 ∧ yM.2.1 60 = (4, 6) := by decide +kernel
theorem aM_61 : 61 ∈ yM.1 ∧ yM.2.1 61 = (4, 6) := by decide +kernel
theorem aM_62 : 62 ∈ yM.1 ∧ yM.2.1 62 = (4, 6) := by decide +kernel
theorem aM_66 : 66 ∈ yM.1 ∧ yM.2.1 66 = (4, 26) := by decide +kernel
theorem aM_68 : 68 ∈ yM.1 ∧ yM.2.1 68 = (4, 48) := by decide +kernel
theorem aM_69 : 69 ∈ yM.1 ∧ yM.2.1 69 = (4, 384) := by decide +kernel
theorem aM_70 : 70 ∈ yM.1 ∧ yM.2.1 70 = (6, 64) := by decide +kernel
theorem aM_72 : 72 ∈ yM.1 ∧ yM.2.1 72 = (4, 2340) := by decide +kernel
theorem aM_76 : 76 ∈ yM.1 ∧ yM.2.1 76 = (3, 5) := by decide +kernel
theorem aM_77 : 77 ∈ yM.1 ∧ yM.2.1 77 = (3, 4) := by decide +kernel
theorem aM_78 : 78 ∈ yM.1 ∧ yM.2.1 78 = (3, 5) := by decide +kernel
theorem aM_79 : 79 ∈ yM.1 ∧ yM.2.1 79 = (3, 5) := by decide +kernel
theorem aM_80 : 80 ∈ yM.1 ∧ yM.2.1 80 = (3, 4) := by decide +kernel
theorem aM_81 : 81 ∈ yM.1 ∧ yM.2.1 81 = (3, 5) := by decide +kernel
theorem aM_82 : 82 ∈ yM.1 ∧ yM.2.1 82 = (3, 3) := by decide +kernel
theorem aM_83 : 83 ∈ yM.1 ∧ yM.2.1 83 = (3, 3) := by decide +kernel
theorem aM_84 : 84 ∈ yM.1 ∧ yM.2.1 84 = (3, 2) := by decide +kernel
theorem aM_85 : 85 ∈ yM.1 ∧ yM.2.1 85 = (3, 3) := by decide +kernel
theorem aM_86 : 86 ∈ yM.1 ∧ yM.2.1 86 = (3, 3) := by decide +kernel
theorem aM_87 : 87 ∈ yM.1 ∧ yM.2.1 87 = (3, 3) := by decide +kernel
theorem aM_88 : 88 ∈ yM.1 ∧ yM.2.1 88 = (3, 4) := by decide +kernel
theorem aM_89 : 89 ∈ yM.1 ∧ yM.2.1 89 = (3, 5) := by decide +kernel
theorem aM_90 : 90 ∈ yM.1 ∧ yM.2.1 90 = (3, 4) := by decide +kernel
theorem aM_91 : 91 ∈ yM.1 ∧ yM.2.1 91 = (3, 4) := by decide +kernel
theorem aM_92 : 92 ∈ yM.1 ∧ yM.2.1 92 = (3, 5) := by decide +kernel
theorem aM_93 : 93 ∈ yM.1 ∧ yM.2.1 93 = (3, 5) := by decide +kernel
theorem aM_94 : 94 ∈ yM.1 ∧ yM.2.1 94 = (3, 6) := by decide +kernel
theorem aM_95 : 95 ∈ yM.1 ∧ yM.2.1 95 = (3, 6) := by decide +kernel
theorem aM_96 : 96 ∈ yM.1 ∧ yM.2.1 96 = (3, 5) := by decide +kernel
theorem aM_97 : 97 ∈ yM.1 ∧ yM.2.1 97 = (3, 5) := by decide +kernel
theorem aM_98 : 98 ∈ yM.1 ∧ yM.2.1 98 = (3, 4) := by decide +kernel
theorem aM_99 : 99 ∈ yM.1 ∧ yM.2.1 99 = (3, 4) := by decide +kernel
theorem aM_100 : 100 ∈ yM.1 ∧ yM.2.1 100 = (4, 1700) := by decide +kernel
theorem aM_102 : 102 ∈ yM.1 ∧ yM.2.1 102 = (4, 1700) := by decide +kernel
theorem aM_106 : 106 ∈ yM.1 ∧ yM.2.1 106 = (5, 1700) := by decide +kernel
theorem aM_110 : 110 ∈ yM.1 ∧ yM.2.1 110 = (4, 48) := by decide +kernel
theorem cf12 : ho_F 12 RX12 TX12 tyX12 111 := ⟨rfl, ho_inOf [1467, 1469, 1471, 1473, 1475, 1477, 1479, 1481, 1483, 1485, 1487, 1489, 1491, 1493, 1495, 1497, 1499, 1501, 1503, 1505, 1507, 1509, 1511, 1513, 1515, 1517, 1519, 1521, 1523, 1525, 1527, 1529, 1531, 1533, 1535, 1537, 1539, 1541, 1543, 1545, 1547, 1549, 1551, 1553, 1555, 1557, 1559, 1561, 1563, 1565, 1567, 1569, 1571, 1573, 1575, 1577, 1579, 1581, 1583, 1585, 1587, 1589, 1591, 1593, 1595, 1597, 1599, 1601, 1603, 1605, 1607, 1609, 1611, 1613, 1615, 1617, 1619, 1621, 1623, 1625, 1627, 1629, 1631, 1633, 1635, 1637, 1639, 1641, 1643, 1645, 1647, 1649, 1651, 1653, 1655, 1657, 1659, 1661, 1663, 1665, 1667, 1669, 1671, 1673, 1675, 1677, 1679, 1681, 1683, 1685, 1687] (by decide +kernel), tyX12_ok, nmX12⟩
theorem fM_7 : ho_f yM RX12 12 TX12 111 7 0 2 (.array .int) true := ⟨rfl, by decide, gt_6 (i := 16) (by decide +kernel) rfl, rfl, rfl, by decide +kernel⟩
theorem fM_13 : ho_f yM RX12 12 TX12 111 13 8 0 .int false := ⟨rfl, by decide, gt_6 (i := 24) (by decide +kernel) rfl, rfl, rfl, by decide +kernel⟩
theorem fM_17 : ho_f yM RX12 12 TX12 111 17 9 2 (.array .int) true := ⟨rfl, by decide, gt_6 (i := 25) (by decide +kernel) rfl, rfl, rfl, by decide +kernel⟩
theorem fM_20 : ho_f yM RX12 12 TX12 111 20 10 2 (.array .char) true := ⟨rfl, by decide, gt_6 (i := 26) (by decide +kernel) rfl, rfl, rfl, by decide +kernel⟩
theorem fM_24 : ho_f yM RX12 12 TX12 111 24 11 2 (.array .char) true := ⟨rfl, by decide, gt_6 (i := 27) (by decide +kernel) rfl, rfl, rfl, by decide +kernel⟩
theorem fM_27 : ho_f yM RX12 12 TX12 111 27 12 2 (.array .char) true := ⟨rfl, by decide, gt_6 (i := 28) (by decide +kernel) rfl, rfl, rfl, by decide +kernel⟩
theorem fM_30 : ho_f yM RX12 12 TX12 111 30 13 2 (.array .char) true := ⟨rfl, by decide, gt_6 (i := 29) (by decide +kernel) rfl, rfl, rfl, by decide +kernel⟩
theorem fM_33 : ho_f yM RX12 12 TX12 111 33 14 2 (.array .char) true := ⟨rfl, by decide, gt_6 (i := 30) (by decide +kernel) rfl, rfl, rfl, by decide +kernel⟩
theorem fM_36 : ho_f yM RX12 12 TX12 111 36 15 2 (.array .char) true := ⟨rfl, by decide, gt_6 (i := 31) (by decide +kernel) rfl, rfl, rfl, by decide +kernel⟩
theorem fM_39 : ho_f yM RX12 12 TX12 111 39 16 2 (.array .char) true := ⟨rfl, by decide, gt_6 (i := 32) (by decide +kernel) rfl, rfl, rfl, by decide +kernel⟩
theorem fM_42 : ho_f yM RX12 12 TX12 111 42 17 2 (.array .char) true := ⟨rfl, by decide, gt_6 (i := 33) (by decide +kernel) rfl, rfl, rfl, by decide +kernel⟩
theorem fM_45 : ho_f yM RX12 12 TX12 111 45 18 2 (.array .char) true := ⟨rfl, by decide, gt_6 (i := 34) (by decide +kernel) rfl, rfl, rfl, by decide +kernel⟩
theorem fM_48 : ho_f yM RX12 12 TX12 111 48 19 2 (.array .char) true := ⟨rfl, by decide, gt_6 (i := 35) (by decide +kernel) rfl, rfl, rfl, by decide +kernel⟩
theorem fM_51 : ho_f yM RX12 12 TX12 111 51 20 2 (.array .char) true := ⟨rfl, by decide, gt_6 (i := 36) (by decide +kernel) rfl, rfl, rfl, by decide +kernel⟩
theorem fM_54 : ho_f yM RX12 12 TX12 111 54 21 2 (.array .char) true := ⟨rfl, by decide, gt_6 (i := 37) (by decide +kernel) rfl, rfl, rfl, by decide +kernel⟩
theorem fM_57 : ho_f yM RX12 12 TX12 111 57 22 2 (.array .char) true := ⟨rfl, by decide, gt_6 (i := 38) (by decide +kernel) rfl, rfl, rfl, by decide +kernel⟩
theorem fM_60 : ho_f yM RX12 12 TX12 111 60 23 2 (.array .char) true := ⟨rfl, by decide, gt_6 (i := 39) (by decide +kernel) rfl, rfl, rfl, by decide +kernel⟩
theorem fM_63 : ho_f yM RX12 12 TX12 111 63 24 2 (.array .char) true := ⟨rfl, by decide, gt_6 (i := 40) (by decide +kernel) rfl, rfl, rfl, by decide +kernel⟩
theorem fM_66 : ho_f yM RX12 12 TX12 111 66 25 2 (.array .char) true := ⟨rfl, by decide, gt_6 (i := 41) (by decide +kernel) rfl, rfl, rfl, by decide +kernel⟩
theorem fM_69 : ho_f yM RX12 12 TX12 111 69 26 2 (.array .char) true := ⟨rfl, by decide, gt_6 (i := 42) (by decide +kernel) rfl, rfl, rfl, by decide +kernel⟩
theorem fM_72 : ho_f yM RX12 12 TX12 111 72 27 2 (.array .char) true := ⟨rfl, by decide, gt_6 (i := 43) (by decide +kernel) rfl, rfl, rfl, by decide +kernel⟩
theorem fM_75 : ho_f yM RX12 12 TX12 111 75 28 2 (.array .char) true := ⟨rfl, by decide, gt_6 (i := 44) (by decide +kernel) rfl, rfl, rfl, by decide +kernel⟩
theorem fM_78 : ho_f yM RX12 12 TX12 111 78 29 2 (.array .char) true := ⟨rfl, by decide, gt_6 (i := 45) (by decide +kernel) rfl, rfl, rfl, by decide +kernel⟩
theorem fM_81 : ho_f yM RX12 12 TX12 111 81 30 2 (.array .char) true := ⟨rfl, by decide, gt_6 (i := 46) (by decide +kernel) rfl, rfl, rfl, by decide +kernel⟩
theorem fM_84 : ho_f yM RX12 12 TX12 111 84 31 2 (.array .char) true := ⟨rfl, by decide, gt_6 (i := 47) (by decide +kernel) rfl, rfl, rfl, by decide +kernel⟩
theorem fM_87 : ho_f yM RX12 12 TX12 111 87 32 2 (.array .char) true := ⟨rfl, by decide, gt_6 (i := 48) (by decide +kernel) rfl, rfl, rfl, by decide +kernel⟩
theorem fM_90 : ho_f yM RX12 12 TX12 111 90 33 2 (.array .char) true := ⟨rfl, by decide, gt_6 (i := 49) (by decide +kernel) rfl, rfl, rfl, by decide +kernel⟩
theorem fM_93 : ho_f yM RX12 12 TX12 111 93 34 2 (.array .char) true := ⟨rfl, by decide, gt_6 (i := 50) (by decide +kernel) rfl, rfl, rfl, by decide +kernel⟩
theorem fM_96 : ho_f yM RX12 12 TX12 111 96 35 2 (.array .char) true := ⟨rfl, by decide, gt_6 (i := 51) (by decide +kernel) rfl, rfl, rfl, by decide +kernel⟩
theorem fM_99 : ho_f yM RX12 12 TX12 111 99 36 2 (.array .char) true := ⟨rfl, by decide, gt_6 (i := 52) (by decide +kernel) rfl, rfl, rfl, by decide +kernel⟩
theorem fM_102 : ho_f yM RX12 12 TX12 111 102 37 2 (.array .char) true := ⟨rfl, by decide, gt_6 (i := 53) (by decide +kernel) rfl, rfl, rfl, by decide +kernel⟩
theorem fM_105 : ho_f yM RX12 12 TX12 111 105 38 2 (.array .char) true := ⟨rfl, by decide, gt_6 (i := 54) (by decide +kernel) rfl, rfl, rfl, by decide +kernel⟩
theorem fM_108 : ho_f yM RX12 12 TX12 111 108 40 2 (.array .int) true := ⟨rfl, by decide, gt_6 (i := 56) (by decide +kernel) rfl, rfl, rfl, by decide +kernel⟩
theorem fM_111 : ho_f yM RX12 12 TX12 111 111 41 2 (.array .long) true := ⟨rfl, by decide, gt_6 (i := 57) (by decide +kernel) rfl, rfl, rfl, by decide +kernel⟩
theorem fM_115 : ho_f yM RX12 12 TX12 111 115 42 2 (.array .int) true := ⟨rfl, by decide, gt_6 (i := 58) (by decide +kernel) rfl, rfl, rfl, by decide +kernel⟩
theorem fM_118 : ho_f yM RX12 12 TX12 111 118 43 2 (.array .int) true := ⟨rfl, by decide, gt_6 (i := 59) (by decide +kernel) rfl, rfl, rfl, by decide +kernel⟩
theorem fM_121 : ho_f yM RX12 12 TX12 111 121 44 2 (.array .int) true := ⟨rfl, by decide, gt_6 (i := 60) (by decide +kernel) rfl, rfl, rfl, by decide +kernel⟩
theorem fM_124 : ho_f yM RX12 12 TX12 111 124 45 2 (.array .int) true := ⟨rfl, by decide, gt_6 (i := 61) (by decide +kernel) rfl, rfl, rfl, by decide +kernel⟩
theorem fM_127 : ho_f yM RX12 12 TX12 111 127 46 2 (.array .int) true := ⟨rfl, by decide, gt_6 (i := 62) (by decide +kernel) rfl, rfl, rfl, by decide +kernel⟩
theorem fM_130 : ho_f yM RX12 12 TX12 111 130 47 2 (.array .int) true := ⟨rfl, by decide, gt_6 (i := 63) (by decide +kernel) rfl, rfl, rfl, by decide +kernel⟩
theorem fM_133 : ho_f yM RX12 12 TX12 111 133 48 2 (.array .int) true := ⟨rfl, by decide, gt_6 (i := 64) (by decide +kernel) rfl, rfl, rfl, by decide +kernel⟩
theorem fM_136 : ho_f yM RX12 12 TX12 111 136 49 2 (.array .int) true := ⟨rfl, by decide, gt_6 (i := 65) (by decide +kernel) rfl, rfl, rfl, by decide +kernel⟩
theorem fM_139 : ho_f yM RX12 12 TX12 111 139 54 2 (.array .int) true := ⟨rfl, by decide, gt_6 (i := 70) (by decide +kernel) rfl, rfl, rfl, by decide +kernel⟩
theorem fM_142 : ho_f yM RX12 12 TX12 111 142 55 2 (.array .int) true := ⟨rfl, by decide, gt_6 (i := 71) (by decide +kernel) rfl, rfl, rfl, by decide +kernel⟩
theorem fM_145 : ho_f yM RX12 12 TX12 111 145 58 2 (.array .int) true := ⟨rfl, by decide, gt_6 (i := 74) (by decide +kernel) rfl, rfl, rfl, by decide +kernel⟩
theorem fM_148 : ho_f yM RX12 12 TX12 111 148 59 2 (.array .int) true := ⟨rfl, by decide, gt_6 (i := 75) (by decide +kernel) rfl, rfl, rfl, by decide +kernel⟩
theorem fM_151 : ho_f yM RX12 12 TX12 111 151 60 2 (.array .int) true := ⟨rfl, by decide, gt_6 (i := 76) (by decide +kernel) rfl, rfl, rfl, by decide +kernel⟩
theorem fM_154 : ho_f yM RX12 12 TX12 111 154 61 2 (.array .int) true := ⟨rfl, by decide, gt_6 (i := 77) (by decide +kernel) rfl, rfl, rfl, by decide +kernel⟩
theorem fM_157 : ho_f yM RX12 12 TX12 111 157 65 2 (.array .int) true := ⟨rfl, by decide, gt_6 (i := 81) (by decide +kernel) rfl, rfl, rfl, by decide +kernel⟩
theorem fM_160 : ho_f yM RX12 12 TX12 111 160 67 2 (.array .int) true := ⟨rfl, by decide, gt_6 (i := 83) (by decide +kernel) rfl, rfl, rfl, by decide +kernel⟩
theorem fM_163 : ho_f yM RX12 12 TX12 111 163 68 2 (.array .int) true := ⟨rfl, by decide, gt_6 (i := 84) (by decide +kernel) rfl, rfl, rfl, by decide +kernel⟩
theorem fM_166 : ho_f yM RX12 12 TX12 111 166 69 2 (.array .boolean) true := ⟨rfl, by decide, gt_6 (i := 85) (by decide +kernel) rfl, rfl, rfl, by decide +kernel⟩
theorem fM_170 : ho_f yM RX12 12 TX12 111 170 71 2 (.array .int) true := ⟨rfl, by decide, gt_6 (i := 87) (by decide +kernel) rfl, rfl, rfl, by decide +kernel⟩
theorem fM_173 : ho_f yM RX12 12 TX12 111 173 74 1 .long false := ⟨rfl, by decide, gt_6 (i := 90) (by decide +kernel) rfl, rfl, rfl, by decide +kernel⟩
theorem fM_177 : ho_f yM RX12 12 TX12 111 177 75 2 (.array .char) true := ⟨rfl, by decide, gt_6 (i := 91) (by decide +kernel) rfl, rfl, rfl, by decide +kernel⟩
theorem fM_180 : ho_f yM RX12 12 TX12 111 180 76 2 (.array .char) true := ⟨rfl, by decide, gt_6 (i := 92) (by decide +kernel) rfl, rfl, rfl, by decide +kernel⟩
theorem fM_183 : ho_f yM RX12 12 TX12 111 183 77 2 (.array .char) true := ⟨rfl, by decide, gt_6 (i := 93) (by decide +kernel) rfl, rfl, rfl, by decide +kernel⟩
theorem fM_186 : ho_f yM RX12 12 TX12 111 186 78 2 (.array .char) true := ⟨rfl, by decide, gt_6 (i := 94) (by decide +kernel) rfl, rfl, rfl, by decide +kernel⟩
theorem fM_189 : ho_f yM RX12 12 TX12 111 189 79 2 (.array .char) true := ⟨rfl, by decide, gt_6 (i := 95) (by decide +kernel) rfl, rfl, rfl, by decide +kernel⟩
theorem fM_192 : ho_f yM RX12 12 TX12 111 192 80 2 (.array .char) true := ⟨rfl, by decide, gt_6 (i := 96) (by decide +kernel) rfl, rfl, rfl, by decide +kernel⟩
theorem fM_195 : ho_f yM RX12 12 TX12 111 195 81 2 (.array .char) true := ⟨rfl, by decide, gt_6 (i := 97) (by decide +kernel) rfl, rfl, rfl, by decide +kernel⟩
theorem fM_198 : ho_f yM RX12 12 TX12 111 198 82 2 (.array .char) true := ⟨rfl, by decide, gt_6 (i := 98) (by decide +kernel) rfl, rfl, rfl, by decide +kernel⟩
theorem fM_201 : ho_f yM RX12 12 TX12 111 201 83 2 (.array .char) true := ⟨rfl, by decide, gt_6 (i := 99) (by decide +kernel) rfl, rfl, rfl, by decide +kernel⟩
theorem fM_204 : ho_f yM RX12 12 TX12 111 204 84 2 (.array .char) true := ⟨rfl, by decide, gt_6 (i := 100) (by decide +kernel) rfl, rfl, rfl, by decide +kernel⟩
theorem fM_207 : ho_f yM RX12 12 TX12 111 207 85 2 (.array .char) true := ⟨rfl, by decide, gt_6 (i := 101) (by decide +kernel) rfl, rfl, rfl, by decide +kernel⟩
theorem fM_210 : ho_f yM RX12 12 TX12 111 210 86 2 (.array .char) true := ⟨rfl, by decide, gt_6 (i := 102) (by decide +kernel) rfl, rfl, rfl, by decide +kernel⟩
theorem fM_213 : ho_f yM RX12 12 TX12 111 213 87 2 (.array .char) true := ⟨rfl, by decide, gt_6 (i := 103) (by decide +kernel) rfl, rfl, rfl, by decide +kernel⟩
theorem fM_216 : ho_f yM RX12 12 TX12 111 216 88 2 (.array .char) true := ⟨rfl, by decide, gt_6 (i := 104) (by decide +kernel) rfl, rfl, rfl, by decide +kernel⟩
theorem fM_219 : ho_f yM RX12 12 TX12 111 219 89 2 (.array .char) true := ⟨rfl, by decide, gt_6 (i := 105) (by decide +kernel) rfl, rfl, rfl, by decide +kernel⟩
theorem fM_222 : ho_f yM RX12 12 TX12 111 222 90 2 (.array .char) true := ⟨rfl, by decide, gt_6 (i := 106) (by decide +kernel) rfl, rfl, rfl, by decide +kernel⟩
theorem fM_225 : ho_f yM RX12 12 TX12 111 225 91 2 (.array .char) true := ⟨rfl, by decide, gt_6 (i := 107) (by decide +kernel) rfl, rfl, rfl, by decide +kernel⟩
theorem fM_228 : ho_f yM RX12 12 TX12 111 228 92 2 (.array .char) true := ⟨rfl, by decide, gt_6 (i := 108) (by decide +kernel) rfl, rfl, rfl, by decide +kernel⟩
theorem fM_231 : ho_f yM RX12 12 TX12 111 231 93 2 (.array .char) true := ⟨rfl, by decide, gt_6 (i := 109) (by decide +kernel) rfl, rfl, rfl, by decide +kernel⟩
theorem fM_234 : ho_f yM RX12 12 TX12 111 234 94 2 (.array .char) true := ⟨rfl, by decide, gt_6 (i := 110) (by decide +kernel) rfl, rfl, rfl, by decide +kernel⟩
theorem fM_237 : ho_f yM RX12 12 TX12 111 237 95 2 (.array .char) true := ⟨rfl, by decide, gt_6 (i := 111) (by decide +kernel) rfl, rfl, rfl, by decide +kernel⟩
theorem fM_240 : ho_f yM RX12 12 TX12 111 240 96 2 (.array .char) true := ⟨rfl, by decide, gt_6 (i := 112) (by decide +kernel) rfl, rfl, rfl, by decide +kernel⟩
theorem fM_243 : ho_f yM RX12 12 TX12 111 243 97 2 (.array .char) true := ⟨rfl, by decide, gt_6 (i := 113) (by decide +kernel) rfl, rfl, rfl, by decide +kernel⟩
theorem fM_246 : ho_f yM RX12 12 TX12 111 246 98 2 (.array .char) true := ⟨rfl, by decide, gt_6 (i := 114) (by decide +kernel) rfl, rfl, rfl, by decide +kernel⟩
theorem fM_249 : ho_f yM RX12 12 TX12 111 249 99 2 (.array .int) true := ⟨rfl, by decide, gt_6 (i := 115) (by decide +kernel) rfl, rfl, rfl, by decide +kernel⟩
theorem fM_252 : ho_f yM RX12 12 TX12 111 252 101 2 (.array .int) true := ⟨rfl, by decide, gt_6 (i := 117) (by decide +kernel) rfl, rfl, rfl, by decide +kernel⟩
theorem fM_255 : ho_f yM RX12 12 TX12 111 255 105 2 (.array .long) true := ⟨rfl, by decide, gt_6 (i := 121) (by decide +kernel) rfl, rfl, rfl, by decide +kernel⟩
theorem fM_258 : ho_f yM RX12 12 TX12 111 258 109 2 (.array .int) true := ⟨rfl, by decide, gt_6 (i := 125) (by decide +kernel) rfl, rfl, rfl, by decide +kernel⟩
theorem fM_261 : ho_f yM RX12 12 TX12 111 261 1 0 .int false := ⟨rfl, by decide, gt_6 (i := 17) (by decide +kernel) rfl, rfl, rfl, by decide +kernel⟩
theorem fM_264 : ho_f yM RX12 12 TX12 111 264 5 0 .int false := ⟨rfl, by decide, gt_6 (i := 21) (by decide +kernel) rfl, rfl, rfl, by decide +kernel⟩
theorem fM_267 : ho_f yM RX12 12 TX12 111 267 6 0 .int false := ⟨rfl, by decide, gt_6 (i := 22) (by decide +kernel) rfl, rfl, rfl, by decide +kernel⟩
theorem fM_270 : ho_f yM RX12 12 TX12 111 270 2 0 .int false := ⟨rfl, by decide, gt_6 (i := 18) (by decide +kernel) rfl, rfl, rfl, by decide +kernel⟩
theorem fM_273 : ho_f yM RX12 12 TX12 111 273 3 0 .int false := ⟨rfl, by decide, gt_6 (i := 19) (by decide +kernel) rfl, rfl, rfl, by decide +kernel⟩
theorem fM_284 : ho_f yM RX12 12 TX12 111 284 4 0 .int false := ⟨rfl, by decide, gt_6 (i := 20) (by decide +kernel) rfl, rfl, rfl, by decide +kernel⟩
theorem fM_312 : ho_f yM RX12 12 TX12 111 312 39 0 .int false := ⟨rfl, by decide, gt_6 (i := 55) (by decide +kernel) rfl, rfl, rfl, by decide +kernel⟩
theorem fM_319 : ho_f yM RX12 12 TX12 111 319 53 0 .int false := ⟨rfl, by decide, gt_6 (i := 69) (by decide +kernel) rfl, rfl, rfl, by decide +kernel⟩
theorem fM_352 : ho_f yM RX12 12 TX12 111 352 100 0 .int false := ⟨rfl, by decide, gt_6 (i := 116) (by decide +kernel) rfl, rfl, rfl, by decide +kernel⟩
theorem fM_355 : ho_f yM RX12 12 TX12 111 355 102 0 .int false := ⟨rfl, by decide, gt_6 (i := 118) (by decide +kernel) rfl, rfl, rfl, by decide +kernel⟩
theorem fM_358 : ho_f yM RX12 12 TX12 111 358 103 0 .int false := ⟨rfl, by decide, gt_6 (i := 119) (by decide +kernel) rfl, rfl, rfl, by decide +kernel⟩
theorem fM_361 : ho_f yM RX12 12 TX12 111 361 104 0 .int false := ⟨rfl, by decide, gt_6 (i := 120) (by decide +kernel) rfl, rfl, rfl, by decide +kernel⟩
theorem fM_367 : ho_f yM RX12 12 TX12 111 367 50 0 .int false := ⟨rfl, by decide, gt_6 (i := 66) (by decide +kernel) rfl, rfl, rfl, by decide +kernel⟩
theorem fM_370 : ho_f yM RX12 12 TX12 111 370 51 0 .int false := ⟨rfl, by decide, gt_6 (i := 67) (by decide +kernel) rfl, rfl, rfl, by decide +kernel⟩
theorem fM_391 : ho_f yM RX12 12 TX12 111 391 7 0 .int false := ⟨rfl, by decide, gt_6 (i := 23) (by decide +kernel) rfl, rfl, rfl, by decide +kernel⟩
theorem fM_397 : ho_f yM RX12 12 TX12 111 397 52 0 .boolean false := ⟨rfl, by decide, gt_6 (i := 68) (by decide +kernel) rfl, rfl, rfl, by decide +kernel⟩
theorem fM_401 : ho_f yM RX12 12 TX12 111 401 72 0 .int false := ⟨rfl, by decide, gt_6 (i := 88) (by decide +kernel) rfl, rfl, rfl, by decide +kernel⟩
theorem fM_404 : ho_f yM RX12 12 TX12 111 404 66 0 .int false := ⟨rfl, by decide, gt_6 (i := 82) (by decide +kernel) rfl, rfl, rfl, by decide +kernel⟩
theorem fM_416 : ho_f yM RX12 12 TX12 111 416 106 0 .int false := ⟨rfl, by decide, gt_6 (i := 122) (by decide +kernel) rfl, rfl, rfl, by decide +kernel⟩
theorem fM_430 : ho_f yM RX12 12 TX12 111 430 56 0 .int false := ⟨rfl, by decide, gt_6 (i := 72) (by decide +kernel) rfl, rfl, rfl, by decide +kernel⟩
theorem fM_433 : ho_f yM RX12 12 TX12 111 433 57 0 .int false := ⟨rfl, by decide, gt_6 (i := 73) (by decide +kernel) rfl, rfl, rfl, by decide +kernel⟩
theorem fM_483 : ho_f yM RX12 12 TX12 111 483 62 0 .boolean false := ⟨rfl, by decide, gt_6 (i := 78) (by decide +kernel) rfl, rfl, rfl, by decide +kernel⟩
theorem fM_491 : ho_f yM RX12 12 TX12 111 491 64 0 .int false := ⟨rfl, by decide, gt_6 (i := 80) (by decide +kernel) rfl, rfl, rfl, by decide +kernel⟩
theorem fM_497 : ho_f yM RX12 12 TX12 111 497 63 0 .int false := ⟨rfl, by decide, gt_6 (i := 79) (by decide +kernel) rfl, rfl, rfl, by decide +kernel⟩
theorem fM_568 : ho_f yM RX12 12 TX12 111 568 70 0 .int false := ⟨rfl, by decide, gt_6 (i := 86) (by decide +kernel) rfl, rfl, rfl, by decide +kernel⟩
theorem fM_583 : ho_f yM RX12 12 TX12 111 583 73 0 .int false := ⟨rfl, by decide, gt_6 (i := 89) (by decide +kernel) rfl, rfl, rfl, by decide +kernel⟩
theorem fM_677 : ho_f yM RX12 12 TX12 111 677 107 1 .long false := ⟨rfl, by decide, gt_6 (i := 123) (by decide +kernel) rfl, rfl, rfl, by decide +kernel⟩
theorem fM_682 : ho_f yM RX12 12 TX12 111 682 108 0 .boolean false := ⟨rfl, by decide, gt_6 (i := 124) (by decide +kernel) rfl, rfl, rfl, by decide +kernel⟩
theorem fM_701 : ho_f yM RX12 12 TX12 111 701 110 0 .int false := ⟨rfl, by decide, gt_6 (i := 126) (by decide +kernel) rfl, rfl, rfl, by decide +kernel⟩
theorem kc_RX12_315 : Cond.constantLong RX12 315 (27) ∈ gw := gt_7 (i := 194) (by decide +kernel) rfl
theorem kc_RX12_317 : Cond.constantLong RX12 317 (97) ∈ gw := gt_7 (i := 195) (by decide +kernel) rfl
theorem kc_RX12_439 : Cond.constantLong RX12 439 (99) ∈ gw := gt_8 (i := 136) (by decide +kernel) rfl
theorem kc_RX12_486 : Cond.constantLong RX12 486 (10) ∈ gw := gt_8 (i := 238) (by decide +kernel) rfl
theorem kc_RX12_500 : Cond.constantLong RX12 500 (100) ∈ gw := gt_9 (i := 7) (by decide +kernel) rfl
theorem kc_RX12_502 : Cond.constantLong RX12 502 (99999) ∈ gw := gt_9 (i := 8) (by decide +kernel) rfl
theorem kc_RX12_504 : Cond.constant RX12 504 (99999) ∈ gw := gt_9 (i := 9) (by decide +kernel) rfl
theorem kc_RX12_526 : Cond.constantLong RX12 526 (2) ∈ gw := gt_8 (i := 74) (by decide +kernel) rfl
theorem kc_RX12_528 : Cond.constantLong RX12 528 (5) ∈ gw := gt_8 (i := 75) (by decide +kernel) rfl
theorem kc_RX12_554 : Cond.constantLong RX12 554 (3) ∈ gw := gt_8 (i := 213) (by decide +kernel) rfl
theorem kc_RX12_589 : Cond.constantLong RX12 589 (9) ∈ gw := gt_9 (i := 86) (by decide +kernel) rfl
theorem kc_RX12_594 : Cond.constantLong RX12 594 (9999) ∈ gw := gt_9 (i := 95) (by decide +kernel) rfl
theorem kc_RX12_596 : Cond.constantLong RX12 596 (1103515245) ∈ gw := gt_9 (i := 112) (by decide +kernel) rfl
theorem kc_RX12_598 : Cond.constantLong RX12 598 (12345) ∈ gw := gt_9 (i := 113) (by decide +kernel) rfl
theorem kc_RX12_600 : Cond.constantLong RX12 600 (2147483648) ∈ gw := gt_9 (i := 114) (by decide +kernel) rfl
theorem kc_RX12_602 : Cond.constantLong RX12 602 (64) ∈ gw := gt_9 (i := 115) (by decide +kernel) rfl
theorem kc_RX12_661 : Cond.constantLong RX12 661 (1000000) ∈ gw := gt_8 (i := 131) (by decide +kernel) rfl
theorem kc_RX12_663 : Cond.constantLong RX12 663 (-1000000) ∈ gw := gt_8 (i := 132) (by decide +kernel) rfl
theorem kc_RX12_680 : Cond.constantLong RX12 680 (-1) ∈ gw := gt_9 (i := 145) (by decide +kernel) rfl
theorem kc_RX12_685 : Cond.constantLong RX12 685 (-1000000000000000) ∈ gw := gt_9 (i := 120) (by decide +kernel) rfl
theorem kc_RX12_710 : Cond.constant RX12 710 (65536) ∈ gw := gt_9 (i := 170) (by decide +kernel) rfl
theorem yv_X12_look0 : ho_yV yX12_look0 cX12_look0 1 (some .int) 0 := ⟨⟨gt_7 (i := 144) rfl rfl, gt_1 (i := 17) (by decide +kernel) rfl, by decide +kernel⟩, gt_7 (i := 143) (by decide +kernel) rfl, gw_of (i := 49) (by decide +kernel) rfl⟩
theorem ys_X12_isLetter : ho_yS yX12_isLetter cX12_isLetter 1 (some .boolean) 1 := ⟨⟨gt_7 (i := 147) rfl rfl, gt_1 (i := 17) (by decide +kernel) rfl, by decide +kernel⟩, gt_7 (i := 146) (by decide +kernel) rfl⟩
theorem yv_X12_isHere : ho_yV yX12_isHere cX12_isHere 4 (some .boolean) 1 := ⟨⟨gt_7 (i := 140) rfl rfl, gt_1 (i := 17) (by decide +kernel) rfl, by decide +kernel⟩, gt_7 (i := 139) (by decide +kernel) rfl, gw_of (i := 48) (by decide +kernel) rfl⟩
theorem yv_X12_takes : ho_yV yX12_takes cX12_takes 2 (some .boolean) 1 := ⟨⟨gt_7 (i := 136) rfl rfl, gt_1 (i := 17) (by decide +kernel) rfl, by decide +kernel⟩, gt_7 (i := 135) (by decide +kernel) rfl, gw_of (i := 47) (by decide +kernel) rfl⟩
theorem yv_X12_fail : ho_yV yX12_fail cX12_fail 3 none 2 := ⟨⟨gt_7 (i := 151) rfl rfl, gt_1 (i := 17) (by decide +kernel) rfl, by decide +kernel⟩, gt_7 (i := 150) (by decide +kernel) rfl, gw_of (i := 50) (by decide +kernel) rfl⟩
theorem yv_X12_takesSign : ho_yV yX12_takesSign cX12_takesSign 2 (some .boolean) 1 := ⟨⟨gt_7 (i := 169) rfl rfl, gt_1 (i := 17) (by decide +kernel) rfl, by decide +kernel⟩, gt_7 (i := 168) (by decide +kernel) rfl, gw_of (i := 53) (by decide +kernel) rfl⟩
theorem ys_X12_isDigit : ho_yS yX12_isDigit cX12_isDigit 1 (some .boolean) 1 := ⟨⟨gt_7 (i := 158) rfl rfl, gt_1 (i := 17) (by decide +kernel) rfl, by decide +kernel⟩, gt_7 (i := 157) (by decide +kernel) rfl⟩
theorem ys_X12_isIn : ho_yS yX12_isIn cX12_isIn 6 (some .boolean) 3 := ⟨⟨gt_7 (i := 161) rfl rfl, gt_1 (i := 17) (by decide +kernel) rfl, by decide +kernel⟩, gt_7 (i := 160) (by decide +kernel) rfl⟩
theorem yv_X12_isOwnHere : ho_yV yX12_isOwnHere cX12_isOwnHere 2 (some .boolean) 0 := ⟨⟨gt_7 (i := 193) rfl rfl, gt_1 (i := 17) (by decide +kernel) rfl, by decide +kernel⟩, gt_7 (i := 192) (by decide +kernel) rfl, gw_of (i := 59) (by decide +kernel) rfl⟩
theorem yv_X12_name : ho_yV yX12_name cX12_name 3 (some .long) 0 := ⟨⟨gt_7 (i := 189) rfl rfl, gt_1 (i := 17) (by decide +kernel) rfl, by decide +kernel⟩, gt_7 (i := 188) (by decide +kernel) rfl, gw_of (i := 58) (by decide +kernel) rfl⟩
theorem yv_X12_nameOf : ho_yV yX12_nameOf cX12_nameOf 5 (some .int) 2 := ⟨⟨gt_7 (i := 199) rfl rfl, gt_1 (i := 17) (by decide +kernel) rfl, by decide +kernel⟩, gt_7 (i := 198) (by decide +kernel) rfl, gw_of (i := 60) (by decide +kernel) rfl⟩
theorem yv_X12_asks : ho_yV yX12_asks cX12_asks 2 none 1 := ⟨⟨gt_7 (i := 132) rfl rfl, gt_1 (i := 17) (by decide +kernel) rfl, by decide +kernel⟩, gt_7 (i := 131) (by decide +kernel) rfl, gw_of (i := 46) (by decide +kernel) rfl⟩
theorem yv_X12_number : ho_yV yX12_number cX12_number 5 (some .int) 2 := ⟨⟨gt_7 (i := 155) rfl rfl, gt_1 (i := 17) (by decide +kernel) rfl, by decide +kernel⟩, gt_7 (i := 154) (by decide +kernel) rfl, gw_of (i := 51) (by decide +kernel) rfl⟩
theorem yv_X12_asksSign : ho_yV yX12_asksSign cX12_asksSign 2 none 1 := ⟨⟨gt_7 (i := 165) rfl rfl, gt_1 (i := 17) (by decide +kernel) rfl, by decide +kernel⟩, gt_7 (i := 164) (by decide +kernel) rfl, gw_of (i := 52) (by decide +kernel) rfl⟩
theorem yv_X12_isFull : ho_yV yX12_isFull cX12_isFull 4 (some .boolean) 3 := ⟨⟨gt_7 (i := 181) rfl rfl, gt_1 (i := 17) (by decide +kernel) rfl, by decide +kernel⟩, gt_7 (i := 180) (by decide +kernel) rfl, gw_of (i := 56) (by decide +kernel) rfl⟩
theorem yv_X12_newName : ho_yV yX12_newName cX12_newName 4 (some .long) 0 := ⟨⟨gt_7 (i := 185) rfl rfl, gt_1 (i := 17) (by decide +kernel) rfl, by decide +kernel⟩, gt_7 (i := 184) (by decide +kernel) rfl, gw_of (i := 57) (by decide +kernel) rfl⟩
theorem yv_X12_adds : ho_yV yX12_adds cX12_adds 4 (some .int) 2 := ⟨⟨gt_7 (i := 203) rfl rfl, gt_1 (i := 17) (by decide +kernel) rfl, by decide +kernel⟩, gt_7 (i := 202) (by decide +kernel) rfl, gw_of (i := 61) (by decide +kernel) rfl⟩
theorem yv_X12_qWordHere : ho_yV yX12_qWordHere cX12_qWordHere 1 (some .int) 0 := ⟨⟨gt_7 (i := 231) rfl rfl, gt_1 (i := 17) (by decide +kernel) rfl, by decide +kernel⟩, gt_7 (i := 230) (by decide +kernel) rfl, gw_of (i := 68) (by decide +kernel) rfl⟩
theorem yv_X12_isAllowed : ho_yV yX12_isAllowed cX12_isAllowed 2 (some .boolean) 1 := ⟨⟨gt_7 (i := 235) rfl rfl, gt_1 (i := 17) (by decide +kernel) rfl, by decide +kernel⟩, gt_7 (i := 234) (by decide +kernel) rfl, gw_of (i := 69) (by decide +kernel) rfl⟩
theorem yv_X12_qCode : ho_yV yX12_qCode cX12_qCode 2 none 1 := ⟨⟨gt_8 (i := 7) rfl rfl, gt_1 (i := 17) (by decide +kernel) rfl, by decide +kernel⟩, gt_8 (i := 6) (by decide +kernel) rfl, gw_of (i := 72) (by decide +kernel) rfl⟩
theorem yv_X12_qDrops : ho_yV yX12_qDrops cX12_qDrops 1 none 0 := ⟨⟨gt_8 (i := 15) rfl rfl, gt_1 (i := 17) (by decide +kernel) rfl, by decide +kernel⟩, gt_8 (i := 14) (by decide +kernel) rfl, gw_of (i := 74) (by decide +kernel) rfl⟩
theorem yv_X12_qWordOf : ho_yV yX12_qWordOf cX12_qWordOf 4 (some .int) 2 := ⟨⟨gt_7 (i := 227) rfl rfl, gt_1 (i := 17) (by decide +kernel) rfl, by decide +kernel⟩, gt_7 (i := 226) (by decide +kernel) rfl, gw_of (i := 67) (by decide +kernel) rfl⟩
theorem yv_X12_qEndsPart : ho_yV yX12_qEndsPart cX12_qEndsPart 1 none 0 := ⟨⟨gt_8 (i := 11) rfl rfl, gt_1 (i := 17) (by decide +kernel) rfl, by decide +kernel⟩, gt_8 (i := 10) (by decide +kernel) rfl, gw_of (i := 73) (by decide +kernel) rfl⟩
theorem yv_X12_qAsksWord : ho_yV yX12_qAsksWord cX12_qAsksWord 2 none 1 := ⟨⟨gt_8 (i := 3) rfl rfl, gt_1 (i := 17) (by decide +kernel) rfl, by decide +kernel⟩, gt_8 (i := 2) (by decide +kernel) rfl, gw_of (i := 71) (by decide +kernel) rfl⟩
theorem yv_X12_qOpens : ho_yV yX12_qOpens cX12_qOpens 3 none 2 := ⟨⟨gt_7 (i := 239) rfl rfl, gt_1 (i := 17) (by decide +kernel) rfl, by decide +kernel⟩, gt_7 (i := 238) (by decide +kernel) rfl, gw_of (i := 70) (by decide +kernel) rfl⟩
theorem ys_X12_qIsBracket : ho_yS yX12_qIsBracket cX12_qIsBracket 1 (some .boolean) 1 := ⟨⟨gt_8 (i := 26) rfl rfl, gt_1 (i := 17) (by decide +kernel) rfl, by decide +kernel⟩, gt_8 (i := 25) (by decide +kernel) rfl⟩
theorem yv_X12_qIsOn : ho_yV yX12_qIsOn cX12_qIsOn 2 (some .boolean) 1 := ⟨⟨gt_8 (i := 34) rfl rfl, gt_1 (i := 17) (by decide +kernel) rfl, by decide +kernel⟩, gt_8 (i := 33) (by decide +kernel) rfl, gw_of (i := 78) (by decide +kernel) rfl⟩
theorem yv_X12_qBracket : ho_yV yX12_qBracket cX12_qBracket 2 (some .int) 0 := ⟨⟨gt_8 (i := 23) rfl rfl, gt_1 (i := 17) (by decide +kernel) rfl, by decide +kernel⟩, gt_8 (i := 22) (by decide +kernel) rfl, gw_of (i := 76) (by decide +kernel) rfl⟩
theorem yv_X12_qDropsToBracket : ho_yV yX12_qDropsToBracket cX12_qDropsToBracket 1 none 0 := ⟨⟨gt_8 (i := 30) rfl rfl, gt_1 (i := 17) (by decide +kernel) rfl, by decide +kernel⟩, gt_8 (i := 29) (by decide +kernel) rfl, gw_of (i := 77) (by decide +kernel) rfl⟩
theorem yv_X12_qPartTold : ho_yV yX12_qPartTold cX12_qPartTold 6 none 0 := ⟨⟨gt_7 (i := 223) rfl rfl, gt_1 (i := 17) (by decide +kernel) rfl, by decide +kernel⟩, gt_7 (i := 222) (by decide +kernel) rfl, gw_of (i := 66) (by decide +kernel) rfl⟩
theorem yv_X12_qGoesOn : ho_yV yX12_qGoesOn cX12_qGoesOn 2 (some .boolean) 0 := ⟨⟨gt_8 (i := 19) rfl rfl, gt_1 (i := 17) (by decide +kernel) rfl, by decide +kernel⟩, gt_8 (i := 18) (by decide +kernel) rfl, gw_of (i := 75) (by decide +kernel) rfl⟩
theorem yv_X12_qSums : ho_yV yX12_qSums cX12_qSums 3 none 0 := ⟨⟨gt_7 (i := 219) rfl rfl, gt_1 (i := 17) (by decide +kernel) rfl, by decide +kernel⟩, gt_7 (i := 218) (by decide +kernel) rfl, gw_of (i := 65) (by decide +kernel) rfl⟩
theorem yv_X12_codesTold : ho_yV yX12_codesTold cX12_codesTold 4 none 2 := ⟨⟨gt_7 (i := 215) rfl rfl, gt_1 (i := 17) (by decide +kernel) rfl, by decide +kernel⟩, gt_7 (i := 214) (by decide +kernel) rfl, gw_of (i := 64) (by decide +kernel) rfl⟩
theorem yv_X12_watcherTold : ho_yV yX12_watcherTold cX12_watcherTold 7 none 1 := ⟨⟨gt_7 (i := 211) rfl rfl, gt_1 (i := 17) (by decide +kernel) rfl, by decide +kernel⟩, gt_7 (i := 210) (by decide +kernel) rfl, gw_of (i := 63) (by decide +kernel) rfl⟩
theorem yv_X12_trickTold : ho_yV yX12_trickTold cX12_trickTold 10 none 1 := ⟨⟨gt_7 (i := 207) rfl rfl, gt_1 (i := 17) (by decide +kernel) rfl, by decide +kernel⟩, gt_7 (i := 206) (by decide +kernel) rfl, gw_of (i := 62) (by decide +kernel) rfl⟩
theorem yv_X12_provinceTold : ho_yV yX12_provinceTold cX12_provinceTold 7 none 1 := ⟨⟨gt_7 (i := 177) rfl rfl, gt_1 (i := 17) (by decide +kernel) rfl, by decide +kernel⟩, gt_7 (i := 176) (by decide +kernel) rfl, gw_of (i := 55) (by decide +kernel) rfl⟩
theorem yv_X12_chestTold : ho_yV yX12_chestTold cX12_chestTold 1 none 0 := ⟨⟨gt_7 (i := 128) rfl rfl, gt_1 (i := 17) (by decide +kernel) rfl, by decide +kernel⟩, gt_7 (i := 127) (by decide +kernel) rfl, gw_of (i := 45) (by decide +kernel) rfl⟩
theorem yv_X12_stands : ho_yV yX12_stands cX12_stands 2 none 0 := ⟨⟨gt_8 (i := 38) rfl rfl, gt_1 (i := 17) (by decide +kernel) rfl, by decide +kernel⟩, gt_8 (i := 37) (by decide +kernel) rfl, gw_of (i := 79) (by decide +kernel) rfl⟩
theorem yv_X12_statementTold : ho_yV yX12_statementTold cX12_statementTold 2 none 0 := ⟨⟨gt_7 (i := 173) rfl rfl, gt_1 (i := 17) (by decide +kernel) rfl, by decide +kernel⟩, gt_7 (i := 172) (by decide +kernel) rfl, gw_of (i := 54) (by decide +kernel) rfl⟩
theorem yv_X12_provinceMany : ho_yV yX12_provinceMany cX12_provinceMany 1 (some .int) 0 := ⟨⟨gt_8 (i := 69) rfl rfl, gt_1 (i := 17) (by decide +kernel) rfl, by decide +kernel⟩, gt_8 (i := 68) (by decide +kernel) rfl, gw_of (i := 84) (by decide +kernel) rfl⟩
theorem yv_X12_trickMany : ho_yV yX12_trickMany cX12_trickMany 1 (some .int) 0 := ⟨⟨gt_8 (i := 54) rfl rfl, gt_1 (i := 17) (by decide +kernel) rfl, by decide +kernel⟩, gt_8 (i := 53) (by decide +kernel) rfl, gw_of (i := 81) (by decide +kernel) rfl⟩
theorem yv_X12_watcherMany : ho_yV yX12_watcherMany cX12_watcherMany 1 (some .int) 0 := ⟨⟨gt_8 (i := 103) rfl rfl, gt_1 (i := 17) (by decide +kernel) rfl, by decide +kernel⟩, gt_8 (i := 102) (by decide +kernel) rfl, gw_of (i := 89) (by decide +kernel) rfl⟩
theorem yv_X12_timesOf : ho_yV yX12_timesOf cX12_timesOf 2 (some .int) 1 := ⟨⟨gt_8 (i := 95) rfl rfl, gt_1 (i := 17) (by decide +kernel) rfl, by decide +kernel⟩, gt_8 (i := 94) (by decide +kernel) rfl, gw_of (i := 87) (by decide +kernel) rfl⟩
theorem yv_X12_knownOf : ho_yV yX12_knownOf cX12_knownOf 2 (some .int) 1 := ⟨⟨gt_8 (i := 58) rfl rfl, gt_1 (i := 17) (by decide +kernel) rfl, by decide +kernel⟩, gt_8 (i := 57) (by decide +kernel) rfl, gw_of (i := 82) (by decide +kernel) rfl⟩
theorem ys_X12_qClip : ho_yS yX12_qClip cX12_qClip 2 (some .long) 1 := ⟨⟨gt_8 (i := 130) rfl rfl, gt_1 (i := 17) (by decide +kernel) rfl, by decide +kernel⟩, gt_8 (i := 129) (by decide +kernel) rfl⟩
theorem yv_X12_qPuts : ho_yV yX12_qPuts cX12_qPuts 3 none 1 := ⟨⟨gt_8 (i := 119) rfl rfl, gt_1 (i := 17) (by decide +kernel) rfl, by decide +kernel⟩, gt_8 (i := 118) (by decide +kernel) rfl, gw_of (i := 93) (by decide +kernel) rfl⟩
theorem ys_X12_qFloor : ho_yS yX12_qFloor cX12_qFloor 6 (some .long) 2 := ⟨⟨gt_8 (i := 135) rfl rfl, gt_1 (i := 17) (by decide +kernel) rfl, by decide +kernel⟩, gt_8 (i := 134) (by decide +kernel) rfl⟩
theorem yv_X12_qJoins : ho_yV yX12_qJoins cX12_qJoins 6 none 1 := ⟨⟨gt_8 (i := 127) rfl rfl, gt_1 (i := 17) (by decide +kernel) rfl, by decide +kernel⟩, gt_8 (i := 126) (by decide +kernel) rfl, gw_of (i := 95) (by decide +kernel) rfl⟩
theorem yv_X12_qPartOf : ho_yV yX12_qPartOf cX12_qPartOf 3 (some .long) 2 := ⟨⟨gt_8 (i := 123) rfl rfl, gt_1 (i := 17) (by decide +kernel) rfl, by decide +kernel⟩, gt_8 (i := 122) (by decide +kernel) rfl, gw_of (i := 94) (by decide +kernel) rfl⟩
theorem yv_X12_codesTell : ho_yV yX12_codesTell cX12_codesTell 5 (some .long) 2 := ⟨⟨gt_8 (i := 115) rfl rfl, gt_1 (i := 17) (by decide +kernel) rfl, by decide +kernel⟩, gt_8 (i := 114) (by decide +kernel) rfl, gw_of (i := 92) (by decide +kernel) rfl⟩
theorem yv_X12_seatOf : ho_yV yX12_seatOf cX12_seatOf 2 (some .int) 1 := ⟨⟨gt_8 (i := 107) rfl rfl, gt_1 (i := 17) (by decide +kernel) rfl, by decide +kernel⟩, gt_8 (i := 106) (by decide +kernel) rfl, gw_of (i := 90) (by decide +kernel) rfl⟩
theorem yv_X12_sightBy : ho_yV yX12_sightBy cX12_sightBy 7 (some .int) 3 := ⟨⟨gt_8 (i := 111) rfl rfl, gt_1 (i := 17) (by decide +kernel) rfl, by decide +kernel⟩, gt_8 (i := 110) (by decide +kernel) rfl, gw_of (i := 91) (by decide +kernel) rfl⟩
theorem yv_X12_allTricks : ho_yV yX12_allTricks cX12_allTricks 1 (some .int) 0 := ⟨⟨gt_8 (i := 180) rfl rfl, gt_1 (i := 17) (by decide +kernel) rfl, by decide +kernel⟩, gt_8 (i := 179) (by decide +kernel) rfl, gw_of (i := 102) (by decide +kernel) rfl⟩
theorem yv_X12_throughSet : ho_yV yX12_throughSet cX12_throughSet 3 (some .int) 0 := ⟨⟨gt_8 (i := 50) rfl rfl, gt_1 (i := 17) (by decide +kernel) rfl, by decide +kernel⟩, gt_8 (i := 49) (by decide +kernel) rfl, gw_of (i := 80) (by decide +kernel) rfl⟩
theorem yv_X12_yieldsCome : ho_yV yX12_yieldsCome cX12_yieldsCome 3 none 0 := ⟨⟨gt_8 (i := 168) rfl rfl, gt_1 (i := 17) (by decide +kernel) rfl, by decide +kernel⟩, gt_8 (i := 167) (by decide +kernel) rfl, gw_of (i := 99) (by decide +kernel) rfl⟩
theorem yv_X12_sightOf : ho_yV yX12_sightOf cX12_sightOf 4 (some .int) 1 := ⟨⟨gt_8 (i := 99) rfl rfl, gt_1 (i := 17) (by decide +kernel) rfl, by decide +kernel⟩, gt_8 (i := 98) (by decide +kernel) rfl, gw_of (i := 88) (by decide +kernel) rfl⟩
theorem yv_X12_appearsBy : ho_yV yX12_appearsBy cX12_appearsBy 6 (some .int) 1 := ⟨⟨gt_8 (i := 192) rfl rfl, gt_1 (i := 17) (by decide +kernel) rfl, by decide +kernel⟩, gt_8 (i := 191) (by decide +kernel) rfl, gw_of (i := 105) (by decide +kernel) rfl⟩
theorem yv_X12_sightBySet : ho_yV yX12_sightBySet cX12_sightBySet 4 (some .int) 1 := ⟨⟨gt_8 (i := 196) rfl rfl, gt_1 (i := 17) (by decide +kernel) rfl, by decide +kernel⟩, gt_8 (i := 195) (by decide +kernel) rfl, gw_of (i := 106) (by decide +kernel) rfl⟩
theorem ys_X12_bits : ho_yS yX12_bits cX12_bits 3 (some .int) 1 := ⟨⟨gt_8 (i := 61) rfl rfl, gt_1 (i := 17) (by decide +kernel) rfl, by decide +kernel⟩, gt_8 (i := 60) (by decide +kernel) rfl⟩
theorem yv_X12_laysSights : ho_yV yX12_laysSights cX12_laysSights 2 none 0 := ⟨⟨gt_8 (i := 176) rfl rfl, gt_1 (i := 17) (by decide +kernel) rfl, by decide +kernel⟩, gt_8 (i := 175) (by decide +kernel) rfl, gw_of (i := 101) (by decide +kernel) rfl⟩
theorem yv_X12_canShow : ho_yV yX12_canShow cX12_canShow 2 (some .boolean) 1 := ⟨⟨gt_8 (i := 184) rfl rfl, gt_1 (i := 17) (by decide +kernel) rfl, by decide +kernel⟩, gt_8 (i := 183) (by decide +kernel) rfl, gw_of (i := 103) (by decide +kernel) rfl⟩
theorem yv_X12_isBetter : ho_yV yX12_isBetter cX12_isBetter 7 (some .boolean) 2 := ⟨⟨gt_8 (i := 188) rfl rfl, gt_1 (i := 17) (by decide +kernel) rfl, by decide +kernel⟩, gt_8 (i := 187) (by decide +kernel) rfl, gw_of (i := 104) (by decide +kernel) rfl⟩
theorem yv_X12_isKept : ho_yV yX12_isKept cX12_isKept 3 none 1 := ⟨⟨gt_9 (i := 2) rfl rfl, gt_1 (i := 17) (by decide +kernel) rfl, by decide +kernel⟩, gt_9 (i := 1) (by decide +kernel) rfl, gw_of (i := 115) (by decide +kernel) rfl⟩
theorem yv_X12_isSeenThrough : ho_yV yX12_isSeenThrough cX12_isSeenThrough 4 none 1 := ⟨⟨gt_8 (i := 237) rfl rfl, gt_1 (i := 17) (by decide +kernel) rfl, by decide +kernel⟩, gt_8 (i := 236) (by decide +kernel) rfl, gw_of (i := 114) (by decide +kernel) rfl⟩
theorem yv_X12_showGoes : ho_yV yX12_showGoes cX12_showGoes 4 none 1 := ⟨⟨gt_8 (i := 233) rfl rfl, gt_1 (i := 17) (by decide +kernel) rfl, by decide +kernel⟩, gt_8 (i := 232) (by decide +kernel) rfl, gw_of (i := 113) (by decide +kernel) rfl⟩
theorem yv_X12_debtGoes : ho_yV yX12_debtGoes cX12_debtGoes 4 none 0 := ⟨⟨gt_9 (i := 6) rfl rfl, gt_1 (i := 17) (by decide +kernel) rfl, by decide +kernel⟩, gt_9 (i := 5) (by decide +kernel) rfl, gw_of (i := 116) (by decide +kernel) rfl⟩
theorem yv_X12_bestShow : ho_yV yX12_bestShow cX12_bestShow 3 (some .int) 0 := ⟨⟨gt_8 (i := 172) rfl rfl, gt_1 (i := 17) (by decide +kernel) rfl, by decide +kernel⟩, gt_8 (i := 171) (by decide +kernel) rfl, gw_of (i := 100) (by decide +kernel) rfl⟩
theorem yv_X12_yearEnds : ho_yV yX12_yearEnds cX12_yearEnds 2 none 1 := ⟨⟨gt_8 (i := 229) rfl rfl, gt_1 (i := 17) (by decide +kernel) rfl, by decide +kernel⟩, gt_8 (i := 228) (by decide +kernel) rfl, gw_of (i := 112) (by decide +kernel) rfl⟩
theorem yv_X12_yearGoes : ho_yV yX12_yearGoes cX12_yearGoes 1 none 0 := ⟨⟨gt_8 (i := 225) rfl rfl, gt_1 (i := 17) (by decide +kernel) rfl, by decide +kernel⟩, gt_8 (i := 224) (by decide +kernel) rfl, gw_of (i := 111) (by decide +kernel) rfl⟩
theorem yv_X12_triesAnew : ho_yV yX12_triesAnew cX12_triesAnew 2 none 0 := ⟨⟨gt_9 (i := 17) rfl rfl, gt_1 (i := 17) (by decide +kernel) rfl, by decide +kernel⟩, gt_9 (i := 16) (by decide +kernel) rfl, gw_of (i := 118) (by decide +kernel) rfl⟩
theorem yv_X12_storesAll : ho_yV yX12_storesAll cX12_storesAll 3 (some .int) 0 := ⟨⟨gt_8 (i := 65) rfl rfl, gt_1 (i := 17) (by decide +kernel) rfl, by decide +kernel⟩, gt_8 (i := 64) (by decide +kernel) rfl, gw_of (i := 83) (by decide +kernel) rfl⟩
theorem yv_X12_isProvince : ho_yV yX12_isProvince cX12_isProvince 2 (some .boolean) 1 := ⟨⟨gt_8 (i := 83) rfl rfl, gt_1 (i := 17) (by decide +kernel) rfl, by decide +kernel⟩, gt_8 (i := 82) (by decide +kernel) rfl, gw_of (i := 85) (by decide +kernel) rfl⟩
theorem yv_X12_isTrick : ho_yV yX12_isTrick cX12_isTrick 2 (some .boolean) 1 := ⟨⟨gt_8 (i := 91) rfl rfl, gt_1 (i := 17) (by decide +kernel) rfl, by decide +kernel⟩, gt_8 (i := 90) (by decide +kernel) rfl, gw_of (i := 86) (by decide +kernel) rfl⟩
theorem yv_X12_isWatcher : ho_yV yX12_isWatcher cX12_isWatcher 2 (some .boolean) 1 := ⟨⟨gt_8 (i := 144) rfl rfl, gt_1 (i := 17) (by decide +kernel) rfl, by decide +kernel⟩, gt_8 (i := 143) (by decide +kernel) rfl, gw_of (i := 96) (by decide +kernel) rfl⟩
theorem yv_X12_sightAll : ho_yV yX12_sightAll cX12_sightAll 5 (some .int) 2 := ⟨⟨gt_8 (i := 148) rfl rfl, gt_1 (i := 17) (by decide +kernel) rfl, by decide +kernel⟩, gt_8 (i := 147) (by decide +kernel) rfl, gw_of (i := 97) (by decide +kernel) rfl⟩
theorem yv_X12_yieldsComeNow : ho_yV yX12_yieldsComeNow cX12_yieldsComeNow 2 none 0 := ⟨⟨gt_8 (i := 164) rfl rfl, gt_1 (i := 17) (by decide +kernel) rfl, by decide +kernel⟩, gt_8 (i := 163) (by decide +kernel) rfl, gw_of (i := 98) (by decide +kernel) rfl⟩
theorem yv_X12_yieldsGoBack : ho_yV yX12_yieldsGoBack cX12_yieldsGoBack 2 none 0 := ⟨⟨gt_8 (i := 200) rfl rfl, gt_1 (i := 17) (by decide +kernel) rfl, by decide +kernel⟩, gt_8 (i := 199) (by decide +kernel) rfl, gw_of (i := 107) (by decide +kernel) rfl⟩
theorem yv_X12_isAhead : ho_yV yX12_isAhead cX12_isAhead 4 (some .boolean) 3 := ⟨⟨gt_8 (i := 212) rfl rfl, gt_1 (i := 17) (by decide +kernel) rfl, by decide +kernel⟩, gt_8 (i := 211) (by decide +kernel) rfl, gw_of (i := 108) (by decide +kernel) rfl⟩
theorem yv_X12_putsAside : ho_yV yX12_putsAside cX12_putsAside 2 none 0 := ⟨⟨gt_8 (i := 217) rfl rfl, gt_1 (i := 17) (by decide +kernel) rfl, by decide +kernel⟩, gt_8 (i := 216) (by decide +kernel) rfl, gw_of (i := 109) (by decide +kernel) rfl⟩
theorem yv_X12_yearsGo : ho_yV yX12_yearsGo cX12_yearsGo 3 none 1 := ⟨⟨gt_8 (i := 221) rfl rfl, gt_1 (i := 17) (by decide +kernel) rfl, by decide +kernel⟩, gt_8 (i := 220) (by decide +kernel) rfl, gw_of (i := 110) (by decide +kernel) rfl⟩
theorem yv_X12_takesBack : ho_yV yX12_takesBack cX12_takesBack 1 none 0 := ⟨⟨gt_9 (i := 13) rfl rfl, gt_1 (i := 17) (by decide +kernel) rfl, by decide +kernel⟩, gt_9 (i := 12) (by decide +kernel) rfl, gw_of (i := 117) (by decide +kernel) rfl⟩
theorem yv_X12_refuses : ho_yV yX12_refuses cX12_refuses 2 (some .int) 1 := ⟨⟨gt_9 (i := 37) rfl rfl, gt_1 (i := 17) (by decide +kernel) rfl, by decide +kernel⟩, gt_9 (i := 36) (by decide +kernel) rfl, gw_of (i := 119) (by decide +kernel) rfl⟩
theorem yv_X12_isAsCounted : ho_yV yX12_isAsCounted cX12_isAsCounted 2 (some .boolean) 0 := ⟨⟨gt_9 (i := 49) rfl rfl, gt_1 (i := 17) (by decide +kernel) rfl, by decide +kernel⟩, gt_9 (i := 48) (by decide +kernel) rfl, gw_of (i := 121) (by decide +kernel) rfl⟩
theorem yv_X12_laysShows : ho_yV yX12_laysShows cX12_laysShows 3 none 0 := ⟨⟨gt_9 (i := 45) rfl rfl, gt_1 (i := 17) (by decide +kernel) rfl, by decide +kernel⟩, gt_9 (i := 44) (by decide +kernel) rfl, gw_of (i := 120) (by decide +kernel) rfl⟩
theorem yv_X12_alike : ho_yV yX12_alike cX12_alike 5 (some .int) 2 := ⟨⟨gt_9 (i := 57) rfl rfl, gt_1 (i := 17) (by decide +kernel) rfl, by decide +kernel⟩, gt_9 (i := 56) (by decide +kernel) rfl, gw_of (i := 122) (by decide +kernel) rfl⟩
theorem yv_X12_doWatch : ho_yV yX12_doWatch cX12_doWatch 6 (some .boolean) 2 := ⟨⟨gt_9 (i := 65) rfl rfl, gt_1 (i := 17) (by decide +kernel) rfl, by decide +kernel⟩, gt_9 (i := 64) (by decide +kernel) rfl, gw_of (i := 123) (by decide +kernel) rfl⟩
theorem yv_X12_keeps : ho_yV yX12_keeps cX12_keeps 2 none 0 := ⟨⟨gt_9 (i := 81) rfl rfl, gt_1 (i := 17) (by decide +kernel) rfl, by decide +kernel⟩, gt_9 (i := 80) (by decide +kernel) rfl, gw_of (i := 124) (by decide +kernel) rfl⟩
theorem yv_X12_isRefused : ho_yV yX12_isRefused cX12_isRefused 1 (some .boolean) 0 := ⟨⟨gt_9 (i := 90) rfl rfl, gt_1 (i := 17) (by decide +kernel) rfl, by decide +kernel⟩, gt_9 (i := 89) (by decide +kernel) rfl, gw_of (i := 125) (by decide +kernel) rfl⟩
theorem yv_X12_drawOf : ho_yV yX12_drawOf cX12_drawOf 2 (some .int) 1 := ⟨⟨gt_9 (i := 111) rfl rfl, gt_1 (i := 17) (by decide +kernel) rfl, by decide +kernel⟩, gt_9 (i := 110) (by decide +kernel) rfl, gw_of (i := 126) (by decide +kernel) rfl⟩
theorem yv_X12_qHasSquare : ho_yV yX12_qHasSquare cX12_qHasSquare 2 (some .boolean) 0 := ⟨⟨gt_9 (i := 144) rfl rfl, gt_1 (i := 17) (by decide +kernel) rfl, by decide +kernel⟩, gt_9 (i := 143) (by decide +kernel) rfl, gw_of (i := 132) (by decide +kernel) rfl⟩
theorem yv_X12_qDropsNots : ho_yV yX12_qDropsNots cX12_qDropsNots 1 none 0 := ⟨⟨gt_9 (i := 136) rfl rfl, gt_1 (i := 17) (by decide +kernel) rfl, by decide +kernel⟩, gt_9 (i := 135) (by decide +kernel) rfl, gw_of (i := 130) (by decide +kernel) rfl⟩
theorem yv_X12_qFact : ho_yV yX12_qFact cX12_qFact 2 none 0 := ⟨⟨gt_9 (i := 132) rfl rfl, gt_1 (i := 17) (by decide +kernel) rfl, by decide +kernel⟩, gt_9 (i := 131) (by decide +kernel) rfl, gw_of (i := 129) (by decide +kernel) rfl⟩
theorem yv_X12_qGoesOnTest : ho_yV yX12_qGoesOnTest cX12_qGoesOnTest 1 (some .boolean) 0 := ⟨⟨gt_9 (i := 140) rfl rfl, gt_1 (i := 17) (by decide +kernel) rfl, by decide +kernel⟩, gt_9 (i := 139) (by decide +kernel) rfl, gw_of (i := 131) (by decide +kernel) rfl⟩
theorem yv_X12_qOf : ho_yV yX12_qOf cX12_qOf 5 (some .long) 3 := ⟨⟨gt_9 (i := 153) rfl rfl, gt_1 (i := 17) (by decide +kernel) rfl, by decide +kernel⟩, gt_9 (i := 152) (by decide +kernel) rfl, gw_of (i := 134) (by decide +kernel) rfl⟩
theorem yv_X12_qKind : ho_yV yX12_qKind cX12_qKind 2 (some .int) 0 := ⟨⟨gt_9 (i := 124) rfl rfl, gt_1 (i := 17) (by decide +kernel) rfl, by decide +kernel⟩, gt_9 (i := 123) (by decide +kernel) rfl, gw_of (i := 127) (by decide +kernel) rfl⟩
theorem yv_X12_qTold : ho_yV yX12_qTold cX12_qTold 4 (some .long) 1 := ⟨⟨gt_9 (i := 149) rfl rfl, gt_1 (i := 17) (by decide +kernel) rfl, by decide +kernel⟩, gt_9 (i := 148) (by decide +kernel) rfl, gw_of (i := 133) (by decide +kernel) rfl⟩
theorem yv_X12_qTakes : ho_yV yX12_qTakes cX12_qTakes 6 none 3 := ⟨⟨gt_9 (i := 157) rfl rfl, gt_1 (i := 17) (by decide +kernel) rfl, by decide +kernel⟩, gt_9 (i := 156) (by decide +kernel) rfl, gw_of (i := 135) (by decide +kernel) rfl⟩
theorem yv_X12_qTest : ho_yV yX12_qTest cX12_qTest 3 none 0 := ⟨⟨gt_9 (i := 128) rfl rfl, gt_1 (i := 17) (by decide +kernel) rfl, by decide +kernel⟩, gt_9 (i := 127) (by decide +kernel) rfl, gw_of (i := 128) (by decide +kernel) rfl⟩
theorem yv_X12_writes : ho_yV yX12_writes cX12_writes 2 none 1 := ⟨⟨gt_9 (i := 169) rfl rfl, gt_1 (i := 17) (by decide +kernel) rfl, by decide +kernel⟩, gt_9 (i := 168) (by decide +kernel) rfl, gw_of (i := 137) (by decide +kernel) rfl⟩
theorem yv_X12_writesTwo : ho_yV yX12_writesTwo cX12_writesTwo 2 none 1 := ⟨⟨gt_9 (i := 165) rfl rfl, gt_1 (i := 17) (by decide +kernel) rfl, by decide +kernel⟩, gt_9 (i := 164) (by decide +kernel) rfl, gw_of (i := 136) (by decide +kernel) rfl⟩
theorem ys_X12_checked : ho_yS yX12_checked cX12_checked 4 (some .int) 2 := ⟨⟨gt_9 (i := 173) rfl rfl, gt_1 (i := 17) (by decide +kernel) rfl, by decide +kernel⟩, gt_9 (i := 172) (by decide +kernel) rfl⟩
theorem yv_X12_twoAt : ho_yV yX12_twoAt cX12_twoAt 2 (some .int) 1 := ⟨⟨gt_9 (i := 189) rfl rfl, gt_1 (i := 17) (by decide +kernel) rfl, by decide +kernel⟩, gt_9 (i := 188) (by decide +kernel) rfl, gw_of (i := 139) (by decide +kernel) rfl⟩
theorem yv_X12_isImage : ho_yV yX12_isImage cX12_isImage 5 (some .boolean) 1 := ⟨⟨gt_9 (i := 185) rfl rfl, gt_1 (i := 17) (by decide +kernel) rfl, by decide +kernel⟩, gt_9 (i := 184) (by decide +kernel) rfl, gw_of (i := 138) (by decide +kernel) rfl⟩
theorem lk_RX12_276 : Cond.methodLink RX12 276 yX12_look0 ∈ gw := gt_7 (i := 141) (by decide +kernel) rfl
theorem lk_RX12_280 : Cond.methodLink RX12 280 yX12_isLetter ∈ gw := gt_7 (i := 145) (by decide +kernel) rfl
theorem lk_RX12_287 : Cond.methodLink RX12 287 yX12_isHere ∈ gw := gt_7 (i := 137) (by decide +kernel) rfl
theorem lk_RX12_291 : Cond.methodLink RX12 291 yX12_takes ∈ gw := gt_7 (i := 133) (by decide +kernel) rfl
theorem lk_RX12_294 : Cond.methodLink RX12 294 yX12_fail ∈ gw := gt_7 (i := 148) (by decide +kernel) rfl
theorem lk_RX12_298 : Cond.methodLink RX12 298 yX12_takesSign ∈ gw := gt_7 (i := 166) (by decide +kernel) rfl
theorem lk_RX12_301 : Cond.methodLink RX12 301 yX12_isDigit ∈ gw := gt_7 (i := 156) (by decide +kernel) rfl
theorem lk_RX12_304 : Cond.methodLink RX12 304 yX12_isIn ∈ gw := gt_7 (i := 159) (by decide +kernel) rfl
theorem lk_RX12_308 : Cond.methodLink RX12 308 yX12_isOwnHere ∈ gw := gt_7 (i := 190) (by decide +kernel) rfl
theorem lk_RX12_322 : Cond.methodLink RX12 322 yX12_name ∈ gw := gt_7 (i := 186) (by decide +kernel) rfl
theorem lk_RX12_326 : Cond.methodLink RX12 326 yX12_nameOf ∈ gw := gt_7 (i := 196) (by decide +kernel) rfl
theorem lk_RX12_330 : Cond.methodLink RX12 330 yX12_asks ∈ gw := gt_7 (i := 129) (by decide +kernel) rfl
theorem lk_RX12_334 : Cond.methodLink RX12 334 yX12_number ∈ gw := gt_7 (i := 152) (by decide +kernel) rfl
theorem lk_RX12_338 : Cond.methodLink RX12 338 yX12_asksSign ∈ gw := gt_7 (i := 162) (by decide +kernel) rfl
theorem lk_RX12_342 : Cond.methodLink RX12 342 yX12_isFull ∈ gw := gt_7 (i := 178) (by decide +kernel) rfl
theorem lk_RX12_346 : Cond.methodLink RX12 346 yX12_newName ∈ gw := gt_7 (i := 182) (by decide +kernel) rfl
theorem lk_RX12_349 : Cond.methodLink RX12 349 yX12_adds ∈ gw := gt_7 (i := 200) (by decide +kernel) rfl
theorem lk_RX12_364 : Cond.methodLink RX12 364 yX12_qSums ∈ gw := gt_7 (i := 216) (by decide +kernel) rfl
theorem lk_RX12_373 : Cond.methodLink RX12 373 yX12_provinceTold ∈ gw := gt_7 (i := 174) (by decide +kernel) rfl
theorem lk_RX12_376 : Cond.methodLink RX12 376 yX12_trickTold ∈ gw := gt_7 (i := 204) (by decide +kernel) rfl
theorem lk_RX12_379 : Cond.methodLink RX12 379 yX12_watcherTold ∈ gw := gt_7 (i := 208) (by decide +kernel) rfl
theorem lk_RX12_382 : Cond.methodLink RX12 382 yX12_codesTold ∈ gw := gt_7 (i := 212) (by decide +kernel) rfl
theorem lk_RX12_385 : Cond.methodLink RX12 385 yX12_chestTold ∈ gw := gt_7 (i := 125) (by decide +kernel) rfl
theorem lk_RX12_388 : Cond.methodLink RX12 388 yX12_statementTold ∈ gw := gt_7 (i := 170) (by decide +kernel) rfl
theorem lk_RX12_394 : Cond.methodLink RX12 394 yX12_stands ∈ gw := gt_8 (i := 35) (by decide +kernel) rfl
theorem lk_RX12_407 : Cond.methodLink RX12 407 yX12_provinceMany ∈ gw := gt_8 (i := 66) (by decide +kernel) rfl
theorem lk_RX12_410 : Cond.methodLink RX12 410 yX12_trickMany ∈ gw := gt_8 (i := 51) (by decide +kernel) rfl
theorem lk_RX12_413 : Cond.methodLink RX12 413 yX12_watcherMany ∈ gw := gt_8 (i := 100) (by decide +kernel) rfl
theorem lk_RX12_419 : Cond.methodLink RX12 419 yX12_qPuts ∈ gw := gt_8 (i := 116) (by decide +kernel) rfl
theorem lk_RX12_423 : Cond.methodLink RX12 423 yX12_qPartOf ∈ gw := gt_8 (i := 120) (by decide +kernel) rfl
theorem lk_RX12_427 : Cond.methodLink RX12 427 yX12_qJoins ∈ gw := gt_8 (i := 124) (by decide +kernel) rfl
theorem lk_RX12_436 : Cond.methodLink RX12 436 yX12_codesTell ∈ gw := gt_8 (i := 112) (by decide +kernel) rfl
theorem lk_RX12_441 : Cond.methodLink RX12 441 yX12_seatOf ∈ gw := gt_8 (i := 104) (by decide +kernel) rfl
theorem lk_RX12_445 : Cond.methodLink RX12 445 yX12_sightBy ∈ gw := gt_8 (i := 108) (by decide +kernel) rfl
theorem lk_RX12_449 : Cond.methodLink RX12 449 yX12_knownOf ∈ gw := gt_8 (i := 55) (by decide +kernel) rfl
theorem lk_RX12_452 : Cond.methodLink RX12 452 yX12_allTricks ∈ gw := gt_8 (i := 177) (by decide +kernel) rfl
theorem lk_RX12_455 : Cond.methodLink RX12 455 yX12_throughSet ∈ gw := gt_8 (i := 47) (by decide +kernel) rfl
theorem lk_RX12_458 : Cond.methodLink RX12 458 yX12_yieldsCome ∈ gw := gt_8 (i := 165) (by decide +kernel) rfl
theorem lk_RX12_461 : Cond.methodLink RX12 461 yX12_sightOf ∈ gw := gt_8 (i := 96) (by decide +kernel) rfl
theorem lk_RX12_464 : Cond.methodLink RX12 464 yX12_appearsBy ∈ gw := gt_8 (i := 189) (by decide +kernel) rfl
theorem lk_RX12_467 : Cond.methodLink RX12 467 yX12_sightBySet ∈ gw := gt_8 (i := 193) (by decide +kernel) rfl
theorem lk_RX12_470 : Cond.methodLink RX12 470 yX12_bits ∈ gw := gt_8 (i := 59) (by decide +kernel) rfl
theorem lk_RX12_473 : Cond.methodLink RX12 473 yX12_laysSights ∈ gw := gt_8 (i := 173) (by decide +kernel) rfl
theorem lk_RX12_476 : Cond.methodLink RX12 476 yX12_canShow ∈ gw := gt_8 (i := 181) (by decide +kernel) rfl
theorem lk_RX12_479 : Cond.methodLink RX12 479 yX12_isBetter ∈ gw := gt_8 (i := 185) (by decide +kernel) rfl
theorem lk_RX12_488 : Cond.methodLink RX12 488 yX12_isKept ∈ gw := gt_8 (i := 239) (by decide +kernel) rfl
theorem lk_RX12_494 : Cond.methodLink RX12 494 yX12_isSeenThrough ∈ gw := gt_8 (i := 234) (by decide +kernel) rfl
theorem lk_RX12_505 : Cond.methodLink RX12 505 yX12_showGoes ∈ gw := gt_8 (i := 230) (by decide +kernel) rfl
theorem lk_RX12_508 : Cond.methodLink RX12 508 yX12_debtGoes ∈ gw := gt_9 (i := 3) (by decide +kernel) rfl
theorem lk_RX12_511 : Cond.methodLink RX12 511 yX12_bestShow ∈ gw := gt_8 (i := 169) (by decide +kernel) rfl
theorem lk_RX12_514 : Cond.methodLink RX12 514 yX12_yearEnds ∈ gw := gt_8 (i := 226) (by decide +kernel) rfl
theorem lk_RX12_517 : Cond.methodLink RX12 517 yX12_yearGoes ∈ gw := gt_8 (i := 222) (by decide +kernel) rfl
theorem lk_RX12_520 : Cond.methodLink RX12 520 yX12_triesAnew ∈ gw := gt_9 (i := 14) (by decide +kernel) rfl
theorem lk_RX12_523 : Cond.methodLink RX12 523 yX12_storesAll ∈ gw := gt_8 (i := 62) (by decide +kernel) rfl
theorem lk_RX12_530 : Cond.methodLink RX12 530 yX12_isProvince ∈ gw := gt_8 (i := 80) (by decide +kernel) rfl
theorem lk_RX12_533 : Cond.methodLink RX12 533 yX12_isTrick ∈ gw := gt_8 (i := 88) (by decide +kernel) rfl
theorem lk_RX12_536 : Cond.methodLink RX12 536 yX12_timesOf ∈ gw := gt_8 (i := 92) (by decide +kernel) rfl
theorem lk_RX12_539 : Cond.methodLink RX12 539 yX12_isWatcher ∈ gw := gt_8 (i := 141) (by decide +kernel) rfl
theorem lk_RX12_542 : Cond.methodLink RX12 542 yX12_sightAll ∈ gw := gt_8 (i := 145) (by decide +kernel) rfl
theorem lk_RX12_545 : Cond.methodLink RX12 545 yX12_yieldsComeNow ∈ gw := gt_8 (i := 161) (by decide +kernel) rfl
theorem lk_RX12_548 : Cond.methodLink RX12 548 yX12_yieldsGoBack ∈ gw := gt_8 (i := 197) (by decide +kernel) rfl
theorem lk_RX12_551 : Cond.methodLink RX12 551 yX12_isAhead ∈ gw := gt_8 (i := 209) (by decide +kernel) rfl
theorem lk_RX12_556 : Cond.methodLink RX12 556 yX12_putsAside ∈ gw := gt_8 (i := 214) (by decide +kernel) rfl
theorem lk_RX12_559 : Cond.methodLink RX12 559 yX12_yearsGo ∈ gw := gt_8 (i := 218) (by decide +kernel) rfl
theorem lk_RX12_562 : Cond.methodLink RX12 562 yX12_takesBack ∈ gw := gt_9 (i := 10) (by decide +kernel) rfl
theorem lk_RX12_565 : Cond.methodLink RX12 565 yX12_refuses ∈ gw := gt_9 (i := 34) (by decide +kernel) rfl
theorem lk_RX12_571 : Cond.methodLink RX12 571 yX12_isAsCounted ∈ gw := gt_9 (i := 46) (by decide +kernel) rfl
theorem lk_RX12_574 : Cond.methodLink RX12 574 yX12_laysShows ∈ gw := gt_9 (i := 42) (by decide +kernel) rfl
theorem lk_RX12_577 : Cond.methodLink RX12 577 yX12_alike ∈ gw := gt_9 (i := 54) (by decide +kernel) rfl
theorem lk_RX12_580 : Cond.methodLink RX12 580 yX12_doWatch ∈ gw := gt_9 (i := 62) (by decide +kernel) rfl
theorem lk_RX12_586 : Cond.methodLink RX12 586 yX12_keeps ∈ gw := gt_9 (i := 78) (by decide +kernel) rfl
theorem lk_RX12_591 : Cond.methodLink RX12 591 yX12_isRefused ∈ gw := gt_9 (i := 87) (by decide +kernel) rfl
theorem lk_RX12_604 : Cond.methodLink RX12 604 yX12_drawOf ∈ gw := gt_9 (i := 108) (by decide +kernel) rfl
theorem lk_RX12_607 : Cond.methodLink RX12 607 yX12_qCode ∈ gw := gt_8 (i := 4) (by decide +kernel) rfl
theorem lk_RX12_610 : Cond.methodLink RX12 610 yX12_qIsBracket ∈ gw := gt_8 (i := 24) (by decide +kernel) rfl
theorem lk_RX12_613 : Cond.methodLink RX12 613 yX12_qDrops ∈ gw := gt_8 (i := 12) (by decide +kernel) rfl
theorem lk_RX12_616 : Cond.methodLink RX12 616 yX12_qWordHere ∈ gw := gt_7 (i := 228) (by decide +kernel) rfl
theorem lk_RX12_619 : Cond.methodLink RX12 619 yX12_isAllowed ∈ gw := gt_7 (i := 232) (by decide +kernel) rfl
theorem lk_RX12_622 : Cond.methodLink RX12 622 yX12_qWordOf ∈ gw := gt_7 (i := 224) (by decide +kernel) rfl
theorem lk_RX12_625 : Cond.methodLink RX12 625 yX12_qOpens ∈ gw := gt_7 (i := 236) (by decide +kernel) rfl
theorem lk_RX12_628 : Cond.methodLink RX12 628 yX12_qAsksWord ∈ gw := gt_8 (i := 0) (by decide +kernel) rfl
theorem lk_RX12_631 : Cond.methodLink RX12 631 yX12_qEndsPart ∈ gw := gt_8 (i := 8) (by decide +kernel) rfl
theorem lk_RX12_634 : Cond.methodLink RX12 634 yX12_qBracket ∈ gw := gt_8 (i := 20) (by decide +kernel) rfl
theorem lk_RX12_637 : Cond.methodLink RX12 637 yX12_qDropsToBracket ∈ gw := gt_8 (i := 27) (by decide +kernel) rfl
theorem lk_RX12_640 : Cond.methodLink RX12 640 yX12_qIsOn ∈ gw := gt_8 (i := 31) (by decide +kernel) rfl
theorem lk_RX12_643 : Cond.methodLink RX12 643 yX12_qPartTold ∈ gw := gt_7 (i := 220) (by decide +kernel) rfl
theorem lk_RX12_646 : Cond.methodLink RX12 646 yX12_qGoesOn ∈ gw := gt_8 (i := 16) (by decide +kernel) rfl
theorem lk_RX12_649 : Cond.methodLink RX12 649 yX12_qFact ∈ gw := gt_9 (i := 129) (by decide +kernel) rfl
theorem lk_RX12_652 : Cond.methodLink RX12 652 yX12_qDropsNots ∈ gw := gt_9 (i := 133) (by decide +kernel) rfl
theorem lk_RX12_655 : Cond.methodLink RX12 655 yX12_qGoesOnTest ∈ gw := gt_9 (i := 137) (by decide +kernel) rfl
theorem lk_RX12_658 : Cond.methodLink RX12 658 yX12_qHasSquare ∈ gw := gt_9 (i := 141) (by decide +kernel) rfl
theorem lk_RX12_665 : Cond.methodLink RX12 665 yX12_qClip ∈ gw := gt_8 (i := 128) (by decide +kernel) rfl
theorem lk_RX12_669 : Cond.methodLink RX12 669 yX12_qFloor ∈ gw := gt_8 (i := 133) (by decide +kernel) rfl
theorem lk_RX12_673 : Cond.methodLink RX12 673 yX12_qOf ∈ gw := gt_9 (i := 150) (by decide +kernel) rfl
theorem lk_RX12_687 : Cond.methodLink RX12 687 yX12_qKind ∈ gw := gt_9 (i := 121) (by decide +kernel) rfl
theorem lk_RX12_690 : Cond.methodLink RX12 690 yX12_qTest ∈ gw := gt_9 (i := 125) (by decide +kernel) rfl
theorem lk_RX12_693 : Cond.methodLink RX12 693 yX12_qTold ∈ gw := gt_9 (i := 146) (by decide +kernel) rfl
theorem lk_RX12_697 : Cond.methodLink RX12 697 yX12_qTakes ∈ gw := gt_9 (i := 154) (by decide +kernel) rfl
theorem lk_RX12_704 : Cond.methodLink RX12 704 yX12_writes ∈ gw := gt_9 (i := 166) (by decide +kernel) rfl
theorem lk_RX12_707 : Cond.methodLink RX12 707 yX12_writesTwo ∈ gw := gt_9 (i := 162) (by decide +kernel) rfl
theorem lk_RX12_711 : Cond.methodLink RX12 711 yX12_checked ∈ gw := gt_9 (i := 171) (by decide +kernel) rfl
theorem lk_RX12_715 : Cond.methodLink RX12 715 yX12_twoAt ∈ gw := gt_9 (i := 186) (by decide +kernel) rfl
theorem lk_RX12_718 : Cond.methodLink RX12 718 yX12_isImage ∈ gw := gt_9 (i := 182) (by decide +kernel) rfl
