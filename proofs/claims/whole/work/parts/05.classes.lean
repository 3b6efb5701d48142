/-! what the tables say of the thirteen classes -/
def clP0 : List (Nat × Nat) := [(2, 2), (2, 4), (2, 6), (2, 8), (2, 10)]
theorem clB0 : (List.range 5).all (fun k => wk (clP0.getD k (9, 0)).1 (clP0.getD k (9, 0)).2 (u_lay RX0 TX0 k)) = true := by decide +kernel
theorem clW0 : ∀ w ∈ u_ws RX0 TX0 5, w ∈ TBL := by
  intro w hw
  obtain ⟨j, hj, rfl⟩ := List.mem_map.mp hw
  exact wk_tbl (List.all_eq_true.mp clB0 j hj)
def clP1 : List (Nat × Nat) := [(1, 220), (1, 222), (1, 224), (1, 226)]
theorem clB1 : (List.range 4).all (fun k => wk (clP1.getD k (9, 0)).1 (clP1.getD k (9, 0)).2 (u_lay RX1 TX1 k)) = true := by decide +kernel
theorem clW1 : ∀ w ∈ u_ws RX1 TX1 4, w ∈ TBL := by
  intro w hw
  obtain ⟨j, hj, rfl⟩ := List.mem_map.mp hw
  exact wk_tbl (List.all_eq_true.mp clB1 j hj)
def clP2 : List (Nat × Nat) := [(1, 58), (1, 60), (1, 62)]
theorem clB2 : (List.range 3).all (fun k => wk (clP2.getD k (9, 0)).1 (clP2.getD k (9, 0)).2 (u_lay RX2 TX2 k)) = true := by decide +kernel
theorem clW2 : ∀ w ∈ u_ws RX2 TX2 3, w ∈ TBL := by
  intro w hw
  obtain ⟨j, hj, rfl⟩ := List.mem_map.mp hw
  exact wk_tbl (List.all_eq_true.mp clB2 j hj)
def clP3 : List (Nat × Nat) := [(1, 81), (1, 83), (1, 85), (1, 87), (1, 89), (1, 91), (1, 93), (1, 95), (1, 97), (1, 99)]
theorem clB3 : (List.range 10).all (fun k => wk (clP3.getD k (9, 0)).1 (clP3.getD k (9, 0)).2 (u_lay RX3 TX3 k)) = true := by decide +kernel
theorem clW3 : ∀ w ∈ u_ws RX3 TX3 10, w ∈ TBL := by
  intro w hw
  obtain ⟨j, hj, rfl⟩ := List.mem_map.mp hw
  exact wk_tbl (List.all_eq_true.mp clB3 j hj)
def clP4 : List (Nat × Nat) := [(1, 162), (1, 164), (1, 166), (1, 168), (1, 170)]
theorem clB4 : (List.range 5).all (fun k => wk (clP4.getD k (9, 0)).1 (clP4.getD k (9, 0)).2 (u_lay RX4 TX4 k)) = true := by decide +kernel
theorem clW4 : ∀ w ∈ u_ws RX4 TX4 5, w ∈ TBL := by
  intro w hw
  obtain ⟨j, hj, rfl⟩ := List.mem_map.mp hw
  exact wk_tbl (List.all_eq_true.mp clB4 j hj)
def clP5 : List (Nat × Nat) := [(2, 23), (2, 25), (2, 27), (2, 29)]
theorem clB5 : (List.range 4).all (fun k => wk (clP5.getD k (9, 0)).1 (clP5.getD k (9, 0)).2 (u_lay RX5 TX5 k)) = true := by decide +kernel
theorem clW5 : ∀ w ∈ u_ws RX5 TX5 4, w ∈ TBL := by
  intro w hw
  obtain ⟨j, hj, rfl⟩ := List.mem_map.mp hw
  exact wk_tbl (List.all_eq_true.mp clB5 j hj)
def clP6 : List (Nat × Nat) := [(1, 130), (1, 132)]
theorem clB6 : (List.range 2).all (fun k => wk (clP6.getD k (9, 0)).1 (clP6.getD k (9, 0)).2 (u_lay RX6 TX6 k)) = true := by decide +kernel
theorem clW6 : ∀ w ∈ u_ws RX6 TX6 2, w ∈ TBL := by
  intro w hw
  obtain ⟨j, hj, rfl⟩ := List.mem_map.mp hw
  exact wk_tbl (List.all_eq_true.mp clB6 j hj)
def clP7 : List (Nat × Nat) := [(1, 150), (1, 152), (1, 154)]
theorem clB7 : (List.range 3).all (fun k => wk (clP7.getD k (9, 0)).1 (clP7.getD k (9, 0)).2 (u_lay RX7 TX7 k)) = true := by decide +kernel
theorem clW7 : ∀ w ∈ u_ws RX7 TX7 3, w ∈ TBL := by
  intro w hw
  obtain ⟨j, hj, rfl⟩ := List.mem_map.mp hw
  exact wk_tbl (List.all_eq_true.mp clB7 j hj)
def clP8 : List (Nat × Nat) := [(1, 113), (1, 115), (1, 117), (1, 119)]
theorem clB8 : (List.range 4).all (fun k => wk (clP8.getD k (9, 0)).1 (clP8.getD k (9, 0)).2 (u_lay RX8 TX8 k)) = true := by decide +kernel
theorem clW8 : ∀ w ∈ u_ws RX8 TX8 4, w ∈ TBL := by
  intro w hw
  obtain ⟨j, hj, rfl⟩ := List.mem_map.mp hw
  exact wk_tbl (List.all_eq_true.mp clB8 j hj)
def clP9 : List (Nat × Nat) := [(1, 189), (1, 191), (1, 193), (1, 195), (1, 197), (1, 199), (1, 201), (1, 203), (1, 205), (1, 207)]
theorem clB9 : (List.range 10).all (fun k => wk (clP9.getD k (9, 0)).1 (clP9.getD k (9, 0)).2 (u_lay RX9 TX9 k)) = true := by decide +kernel
theorem clW9 : ∀ w ∈ u_ws RX9 TX9 10, w ∈ TBL := by
  intro w hw
  obtain ⟨j, hj, rfl⟩ := List.mem_map.mp hw
  exact wk_tbl (List.all_eq_true.mp clB9 j hj)
def clP10 : List (Nat × Nat) := [(1, 40), (1, 42)]
theorem clB10 : (List.range 2).all (fun k => wk (clP10.getD k (9, 0)).1 (clP10.getD k (9, 0)).2 (u_lay RX10 TX10 k)) = true := by decide +kernel
theorem clW10 : ∀ w ∈ u_ws RX10 TX10 2, w ∈ TBL := by
  intro w hw
  obtain ⟨j, hj, rfl⟩ := List.mem_map.mp hw
  exact wk_tbl (List.all_eq_true.mp clB10 j hj)
def clP11 : List (Nat × Nat) := [(2, 47), (2, 49), (2, 51), (2, 53), (2, 55), (2, 57), (2, 59), (2, 61), (2, 63), (2, 65), (2, 67), (2, 69), (2, 71), (2, 73), (2, 75)]
theorem clB11 : (List.range 15).all (fun k => wk (clP11.getD k (9, 0)).1 (clP11.getD k (9, 0)).2 (u_lay RX11 TX11 k)) = true := by decide +kernel
theorem clW11 : ∀ w ∈ u_ws RX11 TX11 15, w ∈ TBL := by
  intro w hw
  obtain ⟨j, hj, rfl⟩ := List.mem_map.mp hw
  exact wk_tbl (List.all_eq_true.mp clB11 j hj)
def clP12 : List (Nat × Nat) := [(5, 159), (5, 161), (5, 163), (5, 165), (5, 167), (5, 169), (5, 171), (5, 173), (5, 175), (5, 177), (5, 179), (5, 181), (5, 183), (5, 185), (5, 187), (5, 189), (5, 191), (5, 193), (5, 195), (5, 197), (5, 199), (5, 201), (5, 203), (5, 205), (5, 207), (5, 209), (5, 211), (5, 213), (5, 215), (5, 217), (5, 219), (5, 221), (5, 223)]
theorem clB12 : (List.range 33).all (fun k => wk (clP12.getD k (9, 0)).1 (clP12.getD k (9, 0)).2 (u_lay RX12 TX12 k)) = true := by decide +kernel
theorem clW12 : ∀ w ∈ u_ws RX12 TX12 33, w ∈ TBL := by
  intro w hw
  obtain ⟨j, hj, rfl⟩ := List.mem_map.mp hw
  exact wk_tbl (List.all_eq_true.mp clB12 j hj)
/-- of each class: its words, its fields' types and names -/
theorem cl_ok : ∀ (ci : Nat) (q : vw_C), vwCl[ci]? = some q → (∀ w ∈ u_ws q.1 q.2.1 q.2.2, w ∈ TBL) ∧ (∃ ty : Nat → FieldType, ∀ k, k < q.2.2 → parseFieldDescriptor (q.2.1 k).2.2.1 = some (ty k)) ∧ (∀ a, a < q.2.2 → ∀ b, b < q.2.2 → a ≠ b → (q.2.1 a).2.1 ≠ (q.2.1 b).2.1) ∧ q.2.2 = nfl ci ∧ ci < 13 := by
  intro ci q h
  match ci, h with
  | 0, h => cases h; exact ⟨clW0, ⟨tyX0, tyX0_ok⟩, nmX0, by decide, by decide⟩
  | 1, h => cases h; exact ⟨clW1, ⟨tyX1, tyX1_ok⟩, nmX1, by decide, by decide⟩
  | 2, h => cases h; exact ⟨clW2, ⟨tyX2, tyX2_ok⟩, nmX2, by decide, by decide⟩
  | 3, h => cases h; exact ⟨clW3, ⟨tyX3, tyX3_ok⟩, nmX3, by decide, by decide⟩
  | 4, h => cases h; exact ⟨clW4, ⟨tyX4, tyX4_ok⟩, nmX4, by decide, by decide⟩
  | 5, h => cases h; exact ⟨clW5, ⟨tyX5, tyX5_ok⟩, nmX5, by decide, by decide⟩
  | 6, h => cases h; exact ⟨clW6, ⟨tyX6, tyX6_ok⟩, nmX6, by decide, by decide⟩
  | 7, h => cases h; exact ⟨clW7, ⟨tyX7, tyX7_ok⟩, nmX7, by decide, by decide⟩
  | 8, h => cases h; exact ⟨clW8, ⟨tyX8, tyX8_ok⟩, nmX8, by decide, by decide⟩
  | 9, h => cases h; exact ⟨clW9, ⟨tyX9, tyX9_ok⟩, nmX9, by decide, by decide⟩
  | 10, h => cases h; exact ⟨clW10, ⟨tyX10, tyX10_ok⟩, nmX10, by decide, by decide⟩
  | 11, h => cases h; exact ⟨clW11, ⟨tyX11, tyX11_ok⟩, nmX11, by decide, by decide⟩
  | 12, h => cases h; exact ⟨clW12, ⟨tyX12, tyX12_ok⟩, nmX12, by decide, by decide⟩
  | k + 13, h => simp at h
