theorem zw_c0 : ∀ w ∈ u_ws RX0 TX0 4, w ∈ zgw := by
  intro w hw
  obtain ⟨k, hk, rfl⟩ := List.mem_map.mp hw
  have hk := List.mem_range.mp hk
  have key : ∀ k, k < 4 → u_lay RX0 TX0 k ∈ tables_1 ∧ goodWord (u_lay RX0 TX0 k) = true := by
    intro k hk
    match k, hk with
    | 0, _ => exact ⟨List.mem_of_getElem? (i := 236) (by decide +kernel), rfl⟩
    | 1, _ => exact ⟨List.mem_of_getElem? (i := 238) (by decide +kernel), rfl⟩
    | 2, _ => exact ⟨List.mem_of_getElem? (i := 240) (by decide +kernel), rfl⟩
    | 3, _ => exact ⟨List.mem_of_getElem? (i := 242) (by decide +kernel), rfl⟩
    | k + 4, h => exact absurd h (by omega)
  exact zgw_of (key k hk).1 (key k hk).2
theorem zw_c1 : ∀ w ∈ u_ws RX1 TX1 6, w ∈ zgw := by
  intro w hw
  obtain ⟨k, hk, rfl⟩ := List.mem_map.mp hw
  have hk := List.mem_range.mp hk
  have key : ∀ k, k < 6 → u_lay RX1 TX1 k ∈ tables_1 ∧ goodWord (u_lay RX1 TX1 k) = true := by
    intro k hk
    match k, hk with
    | 0, _ => exact ⟨List.mem_of_getElem? (i := 260) (by decide +kernel), rfl⟩
    | 1, _ => exact ⟨List.mem_of_getElem? (i := 262) (by decide +kernel), rfl⟩
    | 2, _ => exact ⟨List.mem_of_getElem? (i := 264) (by decide +kernel), rfl⟩
    | 3, _ => exact ⟨List.mem_of_getElem? (i := 266) (by decide +kernel), rfl⟩
    | 4, _ => exact ⟨List.mem_of_getElem? (i := 268) (by decide +kernel), rfl⟩
    | 5, _ => exact ⟨List.mem_of_getElem? (i := 270) (by decide +kernel), rfl⟩
    | k + 6, h => exact absurd h (by omega)
  exact zgw_of (key k hk).1 (key k hk).2
theorem zw_c2 : ∀ w ∈ u_ws RX2 TX2 3, w ∈ zgw := by
  intro w hw
  obtain ⟨k, hk, rfl⟩ := List.mem_map.mp hw
  have hk := List.mem_range.mp hk
  have key : ∀ k, k < 3 → u_lay RX2 TX2 k ∈ tables_1 ∧ goodWord (u_lay RX2 TX2 k) = true := by
    intro k hk
    match k, hk with
    | 0, _ => exact ⟨List.mem_of_getElem? (i := 286) (by decide +kernel), rfl⟩
    | 1, _ => exact ⟨List.mem_of_getElem? (i := 288) (by decide +kernel), rfl⟩
    | 2, _ => exact ⟨List.mem_of_getElem? (i := 290) (by decide +kernel), rfl⟩
    | k + 3, h => exact absurd h (by omega)
  exact zgw_of (key k hk).1 (key k hk).2
theorem zw_c3 : ∀ w ∈ u_ws RX3 TX3 8, w ∈ zgw := by
  intro w hw
  obtain ⟨k, hk, rfl⟩ := List.mem_map.mp hw
  have hk := List.mem_range.mp hk
  have key : ∀ k, k < 8 → u_lay RX3 TX3 k ∈ tables_1 ∧ goodWord (u_lay RX3 TX3 k) = true := by
    intro k hk
    match k, hk with
    | 0, _ => exact ⟨List.mem_of_getElem? (i := 105) (by decide +kernel), rfl⟩
    | 1, _ => exact ⟨List.mem_of_getElem? (i := 107) (by decide +kernel), rfl⟩
    | 2, _ => exact ⟨List.mem_of_getElem? (i := 109) (by decide +kernel), rfl⟩
    | 3, _ => exact ⟨List.mem_of_getElem? (i := 111) (by decide +kernel), rfl⟩
    | 4, _ => exact ⟨List.mem_of_getElem? (i := 113) (by decide +kernel), rfl⟩
    | 5, _ => exact ⟨List.mem_of_getElem? (i := 115) (by decide +kernel), rfl⟩
    | 6, _ => exact ⟨List.mem_of_getElem? (i := 117) (by decide +kernel), rfl⟩
    | 7, _ => exact ⟨List.mem_of_getElem? (i := 119) (by decide +kernel), rfl⟩
    | k + 8, h => exact absurd h (by omega)
  exact zgw_of (key k hk).1 (key k hk).2
theorem zw_c4 : ∀ w ∈ u_ws RX4 TX4 12, w ∈ zgw := by
  intro w hw
  obtain ⟨k, hk, rfl⟩ := List.mem_map.mp hw
  have hk := List.mem_range.mp hk
  have key : ∀ k, k < 12 → u_lay RX4 TX4 k ∈ tables_1 ∧ goodWord (u_lay RX4 TX4 k) = true := by
    intro k hk
    match k, hk with
    | 0, _ => exact ⟨List.mem_of_getElem? (i := 53) (by decide +kernel), rfl⟩
    | 1, _ => exact ⟨List.mem_of_getElem? (i := 55) (by decide +kernel), rfl⟩
    | 2, _ => exact ⟨List.mem_of_getElem? (i := 57) (by decide +kernel), rfl⟩
    | 3, _ => exact ⟨List.mem_of_getElem? (i := 59) (by decide +kernel), rfl⟩
    | 4, _ => exact ⟨List.mem_of_getElem? (i := 61) (by decide +kernel), rfl⟩
    | 5, _ => exact ⟨List.mem_of_getElem? (i := 63) (by decide +kernel), rfl⟩
    | 6, _ => exact ⟨List.mem_of_getElem? (i := 65) (by decide +kernel), rfl⟩
    | 7, _ => exact ⟨List.mem_of_getElem? (i := 67) (by decide +kernel), rfl⟩
    | 8, _ => exact ⟨List.mem_of_getElem? (i := 69) (by decide +kernel), rfl⟩
    | 9, _ => exact ⟨List.mem_of_getElem? (i := 71) (by decide +kernel), rfl⟩
    | 10, _ => exact ⟨List.mem_of_getElem? (i := 73) (by decide +kernel), rfl⟩
    | 11, _ => exact ⟨List.mem_of_getElem? (i := 75) (by decide +kernel), rfl⟩
    | k + 12, h => exact absurd h (by omega)
  exact zgw_of (key k hk).1 (key k hk).2
theorem zw_c5 : ∀ w ∈ u_ws RX5 TX5 4, w ∈ zgw := by
  intro w hw
  obtain ⟨k, hk, rfl⟩ := List.mem_map.mp hw
  have hk := List.mem_range.mp hk
  have key : ∀ k, k < 4 → u_lay RX5 TX5 k ∈ tables_1 ∧ goodWord (u_lay RX5 TX5 k) = true := by
    intro k hk
    match k, hk with
    | 0, _ => exact ⟨List.mem_of_getElem? (i := 306) (by decide +kernel), rfl⟩
    | 1, _ => exact ⟨List.mem_of_getElem? (i := 308) (by decide +kernel), rfl⟩
    | 2, _ => exact ⟨List.mem_of_getElem? (i := 310) (by decide +kernel), rfl⟩
    | 3, _ => exact ⟨List.mem_of_getElem? (i := 312) (by decide +kernel), rfl⟩
    | k + 4, h => exact absurd h (by omega)
  exact zgw_of (key k hk).1 (key k hk).2
theorem zw_c6 : ∀ w ∈ u_ws RX6 TX6 9, w ∈ zgw := by
  intro w hw
  obtain ⟨k, hk, rfl⟩ := List.mem_map.mp hw
  have hk := List.mem_range.mp hk
  have key : ∀ k, k < 9 → u_lay RX6 TX6 k ∈ tables_1 ∧ goodWord (u_lay RX6 TX6 k) = true := by
    intro k hk
    match k, hk with
    | 0, _ => exact ⟨List.mem_of_getElem? (i := 204) (by decide +kernel), rfl⟩
    | 1, _ => exact ⟨List.mem_of_getElem? (i := 206) (by decide +kernel), rfl⟩
    | 2, _ => exact ⟨List.mem_of_getElem? (i := 208) (by decide +kernel), rfl⟩
    | 3, _ => exact ⟨List.mem_of_getElem? (i := 210) (by decide +kernel), rfl⟩
    | 4, _ => exact ⟨List.mem_of_getElem? (i := 212) (by decide +kernel), rfl⟩
    | 5, _ => exact ⟨List.mem_of_getElem? (i := 214) (by decide +kernel), rfl⟩
    | 6, _ => exact ⟨List.mem_of_getElem? (i := 216) (by decide +kernel), rfl⟩
    | 7, _ => exact ⟨List.mem_of_getElem? (i := 218) (by decide +kernel), rfl⟩
    | 8, _ => exact ⟨List.mem_of_getElem? (i := 220) (by decide +kernel), rfl⟩
    | k + 9, h => exact absurd h (by omega)
  exact zgw_of (key k hk).1 (key k hk).2
theorem zw_c7 : ∀ w ∈ u_ws RX7 TX7 6, w ∈ zgw := by
  intro w hw
  obtain ⟨k, hk, rfl⟩ := List.mem_map.mp hw
  have hk := List.mem_range.mp hk
  have key : ∀ k, k < 6 → u_lay RX7 TX7 k ∈ tables_1 ∧ goodWord (u_lay RX7 TX7 k) = true := by
    intro k hk
    match k, hk with
    | 0, _ => exact ⟨List.mem_of_getElem? (i := 152) (by decide +kernel), rfl⟩
    | 1, _ => exact ⟨List.mem_of_getElem? (i := 154) (by decide +kernel), rfl⟩
    | 2, _ => exact ⟨List.mem_of_getElem? (i := 156) (by decide +kernel), rfl⟩
    | 3, _ => exact ⟨List.mem_of_getElem? (i := 158) (by decide +kernel), rfl⟩
    | 4, _ => exact ⟨List.mem_of_getElem? (i := 160) (by decide +kernel), rfl⟩
    | 5, _ => exact ⟨List.mem_of_getElem? (i := 162) (by decide +kernel), rfl⟩
    | k + 6, h => exact absurd h (by omega)
  exact zgw_of (key k hk).1 (key k hk).2
theorem zw_c8 : ∀ w ∈ u_ws RX8 TX8 11, w ∈ zgw := by
  intro w hw
  obtain ⟨k, hk, rfl⟩ := List.mem_map.mp hw
  have hk := List.mem_range.mp hk
  have key : ∀ k, k < 11 → u_lay RX8 TX8 k ∈ tables_1 ∧ goodWord (u_lay RX8 TX8 k) = true := by
    intro k hk
    match k, hk with
    | 0, _ => exact ⟨List.mem_of_getElem? (i := 327) (by decide +kernel), rfl⟩
    | 1, _ => exact ⟨List.mem_of_getElem? (i := 329) (by decide +kernel), rfl⟩
    | 2, _ => exact ⟨List.mem_of_getElem? (i := 331) (by decide +kernel), rfl⟩
    | 3, _ => exact ⟨List.mem_of_getElem? (i := 333) (by decide +kernel), rfl⟩
    | 4, _ => exact ⟨List.mem_of_getElem? (i := 335) (by decide +kernel), rfl⟩
    | 5, _ => exact ⟨List.mem_of_getElem? (i := 337) (by decide +kernel), rfl⟩
    | 6, _ => exact ⟨List.mem_of_getElem? (i := 339) (by decide +kernel), rfl⟩
    | 7, _ => exact ⟨List.mem_of_getElem? (i := 341) (by decide +kernel), rfl⟩
    | 8, _ => exact ⟨List.mem_of_getElem? (i := 343) (by decide +kernel), rfl⟩
    | 9, _ => exact ⟨List.mem_of_getElem? (i := 345) (by decide +kernel), rfl⟩
    | 10, _ => exact ⟨List.mem_of_getElem? (i := 347) (by decide +kernel), rfl⟩
    | k + 11, h => exact absurd h (by omega)
  exact zgw_of (key k hk).1 (key k hk).2
theorem zw_c9 : ∀ w ∈ u_ws RX9 TX9 32, w ∈ zgw := by
  intro w hw
  obtain ⟨k, hk, rfl⟩ := List.mem_map.mp hw
  have hk := List.mem_range.mp hk
  have key : ∀ k, k < 32 → u_lay RX9 TX9 k ∈ tables_1 ∧ goodWord (u_lay RX9 TX9 k) = true := by
    intro k hk
    match k, hk with
    | 0, _ => exact ⟨List.mem_of_getElem? (i := 884) (by decide +kernel), rfl⟩
    | 1, _ => exact ⟨List.mem_of_getElem? (i := 886) (by decide +kernel), rfl⟩
    | 2, _ => exact ⟨List.mem_of_getElem? (i := 888) (by decide +kernel), rfl⟩
    | 3, _ => exact ⟨List.mem_of_getElem? (i := 890) (by decide +kernel), rfl⟩
    | 4, _ => exact ⟨List.mem_of_getElem? (i := 892) (by decide +kernel), rfl⟩
    | 5, _ => exact ⟨List.mem_of_getElem? (i := 894) (by decide +kernel), rfl⟩
    | 6, _ => exact ⟨List.mem_of_getElem? (i := 896) (by decide +kernel), rfl⟩
    | 7, _ => exact ⟨List.mem_of_getElem? (i := 898) (by decide +kernel), rfl⟩
    | 8, _ => exact ⟨List.mem_of_getElem? (i := 900) (by decide +kernel), rfl⟩
    | 9, _ => exact ⟨List.mem_of_getElem? (i := 902) (by decide +kernel), rfl⟩
    | 10, _ => exact ⟨List.mem_of_getElem? (i := 904) (by decide +kernel), rfl⟩
    | 11, _ => exact ⟨List.mem_of_getElem? (i := 906) (by decide +kernel), rfl⟩
    | 12, _ => exact ⟨List.mem_of_getElem? (i := 908) (by decide +kernel), rfl⟩
    | 13, _ => exact ⟨List.mem_of_getElem? (i := 910) (by decide +kernel), rfl⟩
    | 14, _ => exact ⟨List.mem_of_getElem? (i := 912) (by decide +kernel), rfl⟩
    | 15, _ => exact ⟨List.mem_of_getElem? (i := 914) (by decide +kernel), rfl⟩
    | 16, _ => exact ⟨List.mem_of_getElem? (i := 916) (by decide +kernel), rfl⟩
    | 17, _ => exact ⟨List.mem_of_getElem? (i := 918) (by decide +kernel), rfl⟩
    | 18, _ => exact ⟨List.mem_of_getElem? (i := 920) (by decide +kernel), rfl⟩
    | 19, _ => exact ⟨List.mem_of_getElem? (i := 922) (by decide +kernel), rfl⟩
    | 20, _ => exact ⟨List.mem_of_getElem? (i := 924) (by decide +kernel), rfl⟩
    | 21, _ => exact ⟨List.mem_of_getElem? (i := 926) (by decide +kernel), rfl⟩
    | 22, _ => exact ⟨List.mem_of_getElem? (i := 928) (by decide +kernel), rfl⟩
    | 23, _ => exact ⟨List.mem_of_getElem? (i := 930) (by decide +kernel), rfl⟩
    | 24, _ => exact ⟨List.mem_of_getElem? (i := 932) (by decide +kernel), rfl⟩
    | 25, _ => exact ⟨List.mem_of_getElem? (i := 934) (by decide +kernel), rfl⟩
    | 26, _ => exact ⟨List.mem_of_getElem? (i := 936) (by decide +kernel), rfl⟩
    | 27, _ => exact ⟨List.mem_of_getElem? (i := 938) (by decide +kernel), rfl⟩
    | 28, _ => exact ⟨List.mem_of_getElem? (i := 940) (by decide +kernel), rfl⟩
    | 29, _ => exact ⟨List.mem_of_getElem? (i := 942) (by decide +kernel), rfl⟩
    | 30, _ => exact ⟨List.mem_of_getElem? (i := 944) (by decide +kernel), rfl⟩
    | 31, _ => exact ⟨List.mem_of_getElem? (i := 946) (by decide +kernel), rfl⟩
    | k + 32, h => exact absurd h (by omega)
  exact zgw_of (key k hk).1 (key k hk).2
