/-! the classes' words, by their places; then the step rows of fields, statics, arrays and new cells -/
theorem x_inps {ws : List Cond} (ps : List Nat) (hp : ws = ps.filterMap (fun i => lw_tbl[i]?)) : ∀ w ∈ ws, w ∈ lw_tbl := by
  intro w hw
  rw [hp] at hw
  obtain ⟨i, -, hi⟩ := List.mem_filterMap.mp hw
  exact List.mem_of_getElem? hi
theorem x_in0 : ∀ w ∈ u_ws RX0 TX0 3, w ∈ lw_tbl := x_inps [376, 378, 380] (by decide +kernel)
theorem x_in1 : ∀ w ∈ u_ws RX1 TX1 8, w ∈ lw_tbl := x_inps [223, 225, 227, 229, 231, 233, 235, 237] (by decide +kernel)
theorem x_in2 : ∀ w ∈ u_ws RX2 TX2 9, w ∈ lw_tbl := x_inps [256, 258, 260, 262, 264, 266, 268, 270, 272] (by decide +kernel)
theorem x_in3 : ∀ w ∈ u_ws RX3 TX3 10, w ∈ lw_tbl := x_inps [473, 475, 477, 479, 481, 483, 485, 487, 489, 491] (by decide +kernel)
theorem x_in4 : ∀ w ∈ u_ws RX4 TX4 11, w ∈ lw_tbl := x_inps [516, 518, 520, 522, 524, 526, 528, 530, 532, 534, 536] (by decide +kernel)
theorem x_in5 : ∀ w ∈ u_ws RX5 TX5 5, w ∈ lw_tbl := x_inps [550, 552, 554, 556, 558] (by decide +kernel)
theorem x_in6 : ∀ w ∈ u_ws RX6 TX6 8, w ∈ lw_tbl := x_inps [290, 292, 294, 296, 298, 300, 302, 304] (by decide +kernel)
theorem x_in7 : ∀ w ∈ u_ws RX7 TX7 3, w ∈ lw_tbl := x_inps [328, 330, 332] (by decide +kernel)
theorem x_in8 : ∀ w ∈ u_ws RX8 TX8 7, w ∈ lw_tbl := x_inps [351, 353, 355, 357, 359, 361, 363] (by decide +kernel)
theorem x_in9 : ∀ w ∈ u_ws RX9 TX9 9, w ∈ lw_tbl := x_inps [167, 169, 171, 173, 175, 177, 179, 181, 183] (by decide +kernel)
theorem x_in10 : ∀ w ∈ u_ws RX10 TX10 20, w ∈ lw_tbl := x_inps [416, 418, 420, 422, 424, 426, 428, 430, 432, 434, 436, 438, 440, 442, 444, 446, 448, 450, 452, 454] (by decide +kernel)
theorem x_in11 : ∀ w ∈ u_ws RX11 TX11 15, w ∈ lw_tbl := x_inps [576, 578, 580, 582, 584, 586, 588, 590, 592, 594, 596, 598, 600, 602, 604] (by decide +kernel)
theorem x_in12 : ∀ w ∈ u_ws RX12 TX12 74, w ∈ lw_tbl := x_inps [1573, 1575, 1577, 1579, 1581, 1583, 1585, 1587, 1589, 1591, 1593, 1595, 1597, 1599, 1601, 1603, 1605, 1607, 1609, 1611, 1613, 1615, 1617, 1619, 1621, 1623, 1625, 1627, 1629, 1631, 1633, 1635, 1637, 1639, 1641, 1643, 1645, 1647, 1649, 1651, 1653, 1655, 1657, 1659, 1661, 1663, 1665, 1667, 1669, 1671, 1673, 1675, 1677, 1679, 1681, 1683, 1685, 1687, 1689, 1691, 1693, 1695, 1697, 1699, 1701, 1703, 1705, 1707, 1709, 1711, 1713, 1715, 1717, 1719] (by decide +kernel)
/-- what the tables say of a class of ours -/
def xKc (C : String) (T : u_T) (N ci : Nat) : Prop := (∀ w ∈ u_ws C T N, w ∈ lw_tbl) ∧ N = xnf ci ∧ C = xcn ci ∧ ∃ ty0 : Nat → FieldType, (∀ k, k < N → parseFieldDescriptor (T k).2.2.1 = some (ty0 k)) ∧ (∀ a, a < N → ∀ b, b < N → a ≠ b → (T a).2.1 ≠ (T b).2.1) ∧ (∀ k, k < N → xtt (xtc ci k) (ty0 k) = true)
theorem x_cls {ci : Nat} {C : String} {T : u_T} {N : Nat} (h : vwCl[ci]? = some (C, T, N)) : xKc C T N ci := by
  match ci, h with
  | 0, h => cases h; exact ⟨x_in0, rfl, rfl, tyX0, tyX0_ok, nmX0, by decide +kernel⟩
  | 1, h => cases h; exact ⟨x_in1, rfl, rfl, tyX1, tyX1_ok, nmX1, by decide +kernel⟩
  | 2, h => cases h; exact ⟨x_in2, rfl, rfl, tyX2, tyX2_ok, nmX2, by decide +kernel⟩
  | 3, h => cases h; exact ⟨x_in3, rfl, rfl, tyX3, tyX3_ok, nmX3, by decide +kernel⟩
  | 4, h => cases h; exact ⟨x_in4, rfl, rfl, tyX4, tyX4_ok, nmX4, by decide +kernel⟩
  | 5, h => cases h; exact ⟨x_in5, rfl, rfl, tyX5, tyX5_ok, nmX5, by decide +kernel⟩
  | 6, h => cases h; exact ⟨x_in6, rfl, rfl, tyX6, tyX6_ok, nmX6, by decide +kernel⟩
  | 7, h => cases h; exact ⟨x_in7, rfl, rfl, tyX7, tyX7_ok, nmX7, by decide +kernel⟩
  | 8, h => cases h; exact ⟨x_in8, rfl, rfl, tyX8, tyX8_ok, nmX8, by decide +kernel⟩
  | 9, h => cases h; exact ⟨x_in9, rfl, rfl, tyX9, tyX9_ok, nmX9, by decide +kernel⟩
  | 10, h => cases h; exact ⟨x_in10, rfl, rfl, tyX10, tyX10_ok, nmX10, by decide +kernel⟩
  | 11, h => cases h; exact ⟨x_in11, rfl, rfl, tyX11, tyX11_ok, nmX11, by decide +kernel⟩
  | 12, h => cases h; exact ⟨x_in12, rfl, rfl, tyX12, tyX12_ok, nmX12, by decide +kernel⟩
  | n + 13, h => simp [vwCl] at h
theorem x_good {ci : Nat} {C : String} {T : u_T} {N : Nat} : ∀ w ∈ u_ws C T N, xgw w = true := by
  intro w hw
  unfold u_ws at hw
  obtain ⟨k, -, rfl⟩ := List.mem_map.mp hw
  unfold u_lay
  split <;> rfl
