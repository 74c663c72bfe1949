-- where the words of the fields stand
def mv_ly0 : List Nat := [359, 361, 363, 365, 367, 369, 371, 373, 375, 377, 379, 381, 383, 385, 387, 389, 391, 393]
set_option maxRecDepth 100000 in
theorem mv_lyk0 : (List.range 18).all (fun k => decide (lw_tbl[(mv_ly0[k]?.getD 0)]? = some (u_lay RX0 TX0 k))) = true := by decide +kernel
def mv_ly1 : List Nat := [408, 410, 412, 414, 416, 418]
set_option maxRecDepth 100000 in
theorem mv_lyk1 : (List.range 6).all (fun k => decide (lw_tbl[(mv_ly1[k]?.getD 0)]? = some (u_lay RX1 TX1 k))) = true := by decide +kernel
def mv_ly2 : List Nat := [453, 455, 457, 459, 461, 463, 465]
set_option maxRecDepth 100000 in
theorem mv_lyk2 : (List.range 7).all (fun k => decide (lw_tbl[(mv_ly2[k]?.getD 0)]? = some (u_lay RX2 TX2 k))) = true := by decide +kernel
def mv_ly3 : List Nat := [478, 480, 482, 484]
set_option maxRecDepth 100000 in
theorem mv_lyk3 : (List.range 4).all (fun k => decide (lw_tbl[(mv_ly3[k]?.getD 0)]? = some (u_lay RX3 TX3 k))) = true := by decide +kernel
def mv_ly4 : List Nat := [514, 516, 518, 520, 522, 524, 526, 528, 530, 532, 534, 536, 538, 540, 542]
set_option maxRecDepth 100000 in
theorem mv_lyk4 : (List.range 15).all (fun k => decide (lw_tbl[(mv_ly4[k]?.getD 0)]? = some (u_lay RX4 TX4 k))) = true := by decide +kernel
def mv_ly5 : List Nat := [618, 620, 622, 624]
set_option maxRecDepth 100000 in
theorem mv_lyk5 : (List.range 4).all (fun k => decide (lw_tbl[(mv_ly5[k]?.getD 0)]? = some (u_lay RX5 TX5 k))) = true := by decide +kernel
def mv_ly6 : List Nat := [643, 645, 647, 649, 651, 653, 655, 657]
set_option maxRecDepth 100000 in
theorem mv_lyk6 : (List.range 8).all (fun k => decide (lw_tbl[(mv_ly6[k]?.getD 0)]? = some (u_lay RX6 TX6 k))) = true := by decide +kernel
def mv_ly7 : List Nat := [575, 577, 579, 581, 583, 585, 587, 589, 591, 593, 595, 597, 599, 601, 603, 605]
set_option maxRecDepth 100000 in
theorem mv_lyk7 : (List.range 16).all (fun k => decide (lw_tbl[(mv_ly7[k]?.getD 0)]? = some (u_lay RX7 TX7 k))) = true := by decide +kernel
def mv_ly8 : List Nat := [689, 691, 693, 695, 697, 699, 701, 703, 705]
set_option maxRecDepth 100000 in
theorem mv_lyk8 : (List.range 9).all (fun k => decide (lw_tbl[(mv_ly8[k]?.getD 0)]? = some (u_lay RX8 TX8 k))) = true := by decide +kernel
def mv_ly9 : List Nat := [268, 270, 272, 274, 276, 278, 280, 282, 284, 286, 288, 290, 292]
set_option maxRecDepth 100000 in
theorem mv_lyk9 : (List.range 13).all (fun k => decide (lw_tbl[(mv_ly9[k]?.getD 0)]? = some (u_lay RX9 TX9 k))) = true := by decide +kernel
def mv_ly10 : List Nat := [217, 219, 221, 223, 225, 227, 229, 231]
set_option maxRecDepth 100000 in
theorem mv_lyk10 : (List.range 8).all (fun k => decide (lw_tbl[(mv_ly10[k]?.getD 0)]? = some (u_lay RX10 TX10 k))) = true := by decide +kernel
def mv_ly11 : List Nat := [729, 731, 733, 735, 737, 739, 741, 743, 745, 747, 749, 751, 753, 755, 757, 759, 761, 763, 765, 767, 769]
set_option maxRecDepth 100000 in
theorem mv_lyk11 : (List.range 21).all (fun k => decide (lw_tbl[(mv_ly11[k]?.getD 0)]? = some (u_lay RX11 TX11 k))) = true := by decide +kernel
def mv_ly12 : List Nat := [1642, 1644, 1646, 1648, 1650, 1652, 1654, 1656, 1658, 1660, 1662, 1664, 1666, 1668, 1670, 1672, 1674, 1676, 1678, 1680, 1682, 1684, 1686, 1688, 1690, 1692, 1694, 1696, 1698, 1700, 1702, 1704, 1706, 1708, 1710, 1712, 1714, 1716, 1718, 1720, 1722, 1724, 1726, 1728, 1730, 1732, 1734, 1736, 1738, 1740, 1742, 1744, 1746, 1748, 1750, 1752, 1754, 1756, 1758, 1760, 1762, 1764, 1766, 1768, 1770, 1772, 1774, 1776, 1778, 1780, 1782, 1784, 1786, 1788, 1790, 1792, 1794, 1796, 1798, 1800, 1802, 1804, 1806, 1808, 1810, 1812, 1814, 1816, 1818, 1820, 1822, 1824, 1826, 1828, 1830, 1832, 1834, 1836, 1838, 1840, 1842, 1844, 1846, 1848, 1850, 1852, 1854, 1856, 1858, 1860, 1862, 1864]
set_option maxRecDepth 100000 in
theorem mv_lyk12 : (List.range 112).all (fun k => decide (lw_tbl[(mv_ly12[k]?.getD 0)]? = some (u_lay RX12 TX12 k))) = true := by decide +kernel
theorem mv_ly_of {C : String} {T : u_T} {N : Nat} {g : Nat → Nat} (h : (List.range N).all (fun k => decide (lw_tbl[g k]? = some (u_lay C T k))) = true) : ∀ w ∈ u_ws C T N, w ∈ mv_tbl := by
  intro w hw
  obtain ⟨k, hk, rfl⟩ := List.mem_map.mp hw
  have h1 := List.all_eq_true.mp h k hk
  exact mv_tbl_of (of_decide_eq_true h1) (by unfold u_lay; split <;> rfl)
theorem mv_CKt : mv_CK mv_tbl := by
  intro ci C T N h
  match ci, h with
  | 0, h => cases h; exact mv_ly_of mv_lyk0
  | 1, h => cases h; exact mv_ly_of mv_lyk1
  | 2, h => cases h; exact mv_ly_of mv_lyk2
  | 3, h => cases h; exact mv_ly_of mv_lyk3
  | 4, h => cases h; exact mv_ly_of mv_lyk4
  | 5, h => cases h; exact mv_ly_of mv_lyk5
  | 6, h => cases h; exact mv_ly_of mv_lyk6
  | 7, h => cases h; exact mv_ly_of mv_lyk7
  | 8, h => cases h; exact mv_ly_of mv_lyk8
  | 9, h => cases h; exact mv_ly_of mv_lyk9
  | 10, h => cases h; exact mv_ly_of mv_lyk10
  | 11, h => cases h; exact mv_ly_of mv_lyk11
  | 12, h => cases h; exact mv_ly_of mv_lyk12
  | k + 13, h => cases h
