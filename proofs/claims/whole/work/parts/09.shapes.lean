/-- the cells of a WeftStore, in the order in which its constructor makes them -/
def shpC : List Sh := [.inl (9, [4, 13, 19, 23, 26, 41, 56, 59, 80, 123, 0, 0]),
  .inl (6, [5, 6, 0, 7, 8, 9, 10, 11, 12, 0, 0]),
  .inr (0, 60, fun _ => 0),
  .inr (0, 60, fun _ => 0),
  .inr (0, 24, fun _ => 0),
  .inr (0, 24, fun _ => 0),
  .inr (0, 24, fun _ => 0),
  .inr (0, 512, fun _ => 0),
  .inr (0, 512, fun _ => 0),
  .inr (0, 512, fun _ => 0),
  .inl (0, [14, 15, 0, 16, 17, 18]),
  .inr (0, 60, fun _ => 0),
  .inr (0, 60, fun _ => 0),
  .inr (0, 60, fun _ => 0),
  .inr (0, 60, fun _ => 0),
  .inr (0, 60, fun _ => 0),
  .inl (2, [4, 20, 21, 22]),
  .inr (1, 4, fun _ => 0),
  .inr (0, 4, fun _ => 0),
  .inr (0, 4, fun _ => 0),
  .inl (3, [4, 13, 24, 25]),
  .inr (0, 24, fun _ => 0),
  .inr (1, 3, fun _ => 0),
  .inl (1, [13, 27, 28, 29, 30, 31, 36, 0]),
  .inr (0, 6, fun _ => 0),
  .inr (0, 6, fun _ => 0),
  .inr (0, 6, fun _ => 0),
  .inr (1, 6, fun _ => 0),
  .inr (2, 4, fun j => 29 + j + 3),
  .inr (0, 24, fun _ => 0),
  .inr (0, 24, fun _ => 0),
  .inr (0, 24, fun _ => 0),
  .inr (0, 24, fun _ => 0),
  .inr (2, 4, fun j => 34 + j + 3),
  .inr (0, 24, fun _ => 0),
  .inr (0, 24, fun _ => 0),
  .inr (0, 24, fun _ => 0),
  .inr (0, 24, fun _ => 0),
  .inl (5, [4, 26, 42, 55]),
  .inr (2, 12, fun j => 40 + j + 3),
  .inr (0, 24, fun _ => 0),
  .inr (0, 24, fun _ => 0),
  .inr (0, 24, fun _ => 0),
  .inr (0, 24, fun _ => 0),
  .inr (0, 24, fun _ => 0),
  .inr (0, 24, fun _ => 0),
  .inr (0, 24, fun _ => 0),
  .inr (0, 24, fun _ => 0),
  .inr (0, 24, fun _ => 0),
  .inr (0, 24, fun _ => 0),
  .inr (0, 24, fun _ => 0),
  .inr (0, 24, fun _ => 0),
  .inr (0, 24, fun _ => 0),
  .inl (4, [13, 57, 58, 0]),
  .inr (0, 24, fun _ => 0),
  .inr (0, 24, fun _ => 0),
  .inr (3, 4, fun j => 57 + 5 * j + 3),
  .inl (8, [61, 62, 63, 64, 0, 0, 0, 0, 1]),
  .inr (0, 24, fun _ => 0),
  .inr (0, 8, fun _ => 0),
  .inr (0, 8, fun _ => 0),
  .inr (0, 8, fun _ => 0),
  .inl (8, [66, 67, 68, 69, 0, 0, 0, 0, 1]),
  .inr (0, 24, fun _ => 0),
  .inr (0, 8, fun _ => 0),
  .inr (0, 8, fun _ => 0),
  .inr (0, 8, fun _ => 0),
  .inl (8, [71, 72, 73, 74, 0, 0, 0, 0, 1]),
  .inr (0, 24, fun _ => 0),
  .inr (0, 8, fun _ => 0),
  .inr (0, 8, fun _ => 0),
  .inr (0, 8, fun _ => 0),
  .inl (8, [76, 77, 78, 79, 0, 0, 0, 0, 1]),
  .inr (0, 24, fun _ => 0),
  .inr (0, 8, fun _ => 0),
  .inr (0, 8, fun _ => 0),
  .inr (0, 8, fun _ => 0),
  .inr (4, 7, fun j => 78 + 6 * j + 3),
  .inl (7, [82, 83, 84, 85, 86, 0, 0]),
  .inr (0, 12, fun _ => 0),
  .inr (0, 12, fun _ => 0),
  .inr (0, 12, fun _ => 0),
  .inr (0, 12, fun _ => 0),
  .inr (0, 12, fun _ => 0),
  .inl (7, [88, 89, 90, 91, 92, 0, 0]),
  .inr (0, 12, fun _ => 0),
  .inr (0, 12, fun _ => 0),
  .inr (0, 12, fun _ => 0),
  .inr (0, 12, fun _ => 0),
  .inr (0, 12, fun _ => 0),
  .inl (7, [94, 95, 96, 97, 98, 0, 0]),
  .inr (0, 12, fun _ => 0),
  .inr (0, 12, fun _ => 0),
  .inr (0, 12, fun _ => 0),
  .inr (0, 12, fun _ => 0),
  .inr (0, 12, fun _ => 0),
  .inl (7, [100, 101, 102, 103, 104, 0, 0]),
  .inr (0, 12, fun _ => 0),
  .inr (0, 12, fun _ => 0),
  .inr (0, 12, fun _ => 0),
  .inr (0, 12, fun _ => 0),
  .inr (0, 12, fun _ => 0),
  .inl (7, [106, 107, 108, 109, 110, 0, 0]),
  .inr (0, 12, fun _ => 0),
  .inr (0, 12, fun _ => 0),
  .inr (0, 12, fun _ => 0),
  .inr (0, 12, fun _ => 0),
  .inr (0, 12, fun _ => 0),
  .inl (7, [112, 113, 114, 115, 116, 0, 0]),
  .inr (0, 12, fun _ => 0),
  .inr (0, 12, fun _ => 0),
  .inr (0, 12, fun _ => 0),
  .inr (0, 12, fun _ => 0),
  .inr (0, 12, fun _ => 0),
  .inl (7, [118, 119, 120, 121, 122, 0, 0]),
  .inr (0, 12, fun _ => 0),
  .inr (0, 12, fun _ => 0),
  .inr (0, 12, fun _ => 0),
  .inr (0, 12, fun _ => 0),
  .inr (0, 12, fun _ => 0),
  .inr (0, 24, fun _ => 0)]
theorem shC_0 : shpC[0]? = some (.inl (9, [4, 13, 19, 23, 26, 41, 56, 59, 80, 123, 0, 0])) := rfl
theorem shC_1 : shpC[1]? = some (.inl (6, [5, 6, 0, 7, 8, 9, 10, 11, 12, 0, 0])) := rfl
theorem shC_2 : shpC[2]? = some (.inr (0, 60, fun _ => 0)) := rfl
theorem shC_3 : shpC[3]? = some (.inr (0, 60, fun _ => 0)) := rfl
theorem shC_4 : shpC[4]? = some (.inr (0, 24, fun _ => 0)) := rfl
theorem shC_5 : shpC[5]? = some (.inr (0, 24, fun _ => 0)) := rfl
theorem shC_6 : shpC[6]? = some (.inr (0, 24, fun _ => 0)) := rfl
theorem shC_7 : shpC[7]? = some (.inr (0, 512, fun _ => 0)) := rfl
theorem shC_8 : shpC[8]? = some (.inr (0, 512, fun _ => 0)) := rfl
theorem shC_9 : shpC[9]? = some (.inr (0, 512, fun _ => 0)) := rfl
theorem shC_10 : shpC[10]? = some (.inl (0, [14, 15, 0, 16, 17, 18])) := rfl
theorem shC_11 : shpC[11]? = some (.inr (0, 60, fun _ => 0)) := rfl
theorem shC_12 : shpC[12]? = some (.inr (0, 60, fun _ => 0)) := rfl
theorem shC_13 : shpC[13]? = some (.inr (0, 60, fun _ => 0)) := rfl
theorem shC_14 : shpC[14]? = some (.inr (0, 60, fun _ => 0)) := rfl
theorem shC_15 : shpC[15]? = some (.inr (0, 60, fun _ => 0)) := rfl
theorem shC_16 : shpC[16]? = some (.inl (2, [4, 20, 21, 22])) := rfl
theorem shC_17 : shpC[17]? = some (.inr (1, 4, fun _ => 0)) := rfl
theorem shC_18 : shpC[18]? = some (.inr (0, 4, fun _ => 0)) := rfl
theorem shC_19 : shpC[19]? = some (.inr (0, 4, fun _ => 0)) := rfl
theorem shC_20 : shpC[20]? = some (.inl (3, [4, 13, 24, 25])) := rfl
theorem shC_21 : shpC[21]? = some (.inr (0, 24, fun _ => 0)) := rfl
theorem shC_22 : shpC[22]? = some (.inr (1, 3, fun _ => 0)) := rfl
theorem shC_23 : shpC[23]? = some (.inl (1, [13, 27, 28, 29, 30, 31, 36, 0])) := rfl
theorem shC_24 : shpC[24]? = some (.inr (0, 6, fun _ => 0)) := rfl
theorem shC_25 : shpC[25]? = some (.inr (0, 6, fun _ => 0)) := rfl
theorem shC_26 : shpC[26]? = some (.inr (0, 6, fun _ => 0)) := rfl
theorem shC_27 : shpC[27]? = some (.inr (1, 6, fun _ => 0)) := rfl
theorem shC_28 : shpC[28]? = some (.inr (2, 4, fun j => 29 + j + 3)) := rfl
theorem shC_33 : shpC[33]? = some (.inr (2, 4, fun j => 34 + j + 3)) := rfl
theorem shC_38 : shpC[38]? = some (.inl (5, [4, 26, 42, 55])) := rfl
theorem shC_39 : shpC[39]? = some (.inr (2, 12, fun j => 40 + j + 3)) := rfl
theorem shC_52 : shpC[52]? = some (.inr (0, 24, fun _ => 0)) := rfl
theorem shC_53 : shpC[53]? = some (.inl (4, [13, 57, 58, 0])) := rfl
theorem shC_54 : shpC[54]? = some (.inr (0, 24, fun _ => 0)) := rfl
theorem shC_55 : shpC[55]? = some (.inr (0, 24, fun _ => 0)) := rfl
theorem shC_56 : shpC[56]? = some (.inr (3, 4, fun j => 57 + 5 * j + 3)) := rfl
theorem shC_77 : shpC[77]? = some (.inr (4, 7, fun j => 78 + 6 * j + 3)) := rfl
theorem shC_120 : shpC[120]? = some (.inr (0, 24, fun _ => 0)) := rfl
theorem shC_TOLD (u : Nat) (h : u < 4) : shpC[29 + u]? = some (.inr (0, 24, fun _ => 0)) := by
  match u, h with
  | 0, _ => rfl
  | 1, _ => rfl
  | 2, _ => rfl
  | 3, _ => rfl
  | u + 4, h => exact absurd h (by omega)
theorem shC_KNOWN (u : Nat) (h : u < 4) : shpC[34 + u]? = some (.inr (0, 24, fun _ => 0)) := by
  match u, h with
  | 0, _ => rfl
  | 1, _ => rfl
  | 2, _ => rfl
  | 3, _ => rfl
  | u + 4, h => exact absurd h (by omega)
theorem shC_REL (u : Nat) (h : u < 13) : shpC[40 + u]? = some (.inr (0, 24, fun _ => 0)) := by
  match u, h with
  | 0, _ => rfl
  | 1, _ => rfl
  | 2, _ => rfl
  | 3, _ => rfl
  | 4, _ => rfl
  | 5, _ => rfl
  | 6, _ => rfl
  | 7, _ => rfl
  | 8, _ => rfl
  | 9, _ => rfl
  | 10, _ => rfl
  | 11, _ => rfl
  | 12, _ => rfl
  | u + 13, h => exact absurd h (by omega)
theorem shC_TR (u : Nat) (h : u < 4) : shpC[57 + 5 * u]? = some (.inl (8, [58 + 5 * u + 3, 59 + 5 * u + 3, 60 + 5 * u + 3, 61 + 5 * u + 3, 0, 0, 0, 0, 1])) := by
  match u, h with
  | 0, _ => rfl
  | 1, _ => rfl
  | 2, _ => rfl
  | 3, _ => rfl
  | u + 4, h => exact absurd h (by omega)
theorem shC_TR_0 (u : Nat) (h : u < 4) : shpC[58 + 5 * u]? = some (.inr (0, 24, fun _ => 0)) := by
  match u, h with
  | 0, _ => rfl
  | 1, _ => rfl
  | 2, _ => rfl
  | 3, _ => rfl
  | u + 4, h => exact absurd h (by omega)
theorem shC_TR_1 (u : Nat) (h : u < 4) : shpC[59 + 5 * u]? = some (.inr (0, 8, fun _ => 0)) := by
  match u, h with
  | 0, _ => rfl
  | 1, _ => rfl
  | 2, _ => rfl
  | 3, _ => rfl
  | u + 4, h => exact absurd h (by omega)
theorem shC_TR_2 (u : Nat) (h : u < 4) : shpC[60 + 5 * u]? = some (.inr (0, 8, fun _ => 0)) := by
  match u, h with
  | 0, _ => rfl
  | 1, _ => rfl
  | 2, _ => rfl
  | 3, _ => rfl
  | u + 4, h => exact absurd h (by omega)
theorem shC_TR_3 (u : Nat) (h : u < 4) : shpC[61 + 5 * u]? = some (.inr (0, 8, fun _ => 0)) := by
  match u, h with
  | 0, _ => rfl
  | 1, _ => rfl
  | 2, _ => rfl
  | 3, _ => rfl
  | u + 4, h => exact absurd h (by omega)
theorem shC_PT (u : Nat) (h : u < 7) : shpC[78 + 6 * u]? = some (.inl (7, [79 + 6 * u + 3, 80 + 6 * u + 3, 81 + 6 * u + 3, 82 + 6 * u + 3, 83 + 6 * u + 3, 0, 0])) := by
  match u, h with
  | 0, _ => rfl
  | 1, _ => rfl
  | 2, _ => rfl
  | 3, _ => rfl
  | 4, _ => rfl
  | 5, _ => rfl
  | 6, _ => rfl
  | u + 7, h => exact absurd h (by omega)
theorem shC_PT_0 (u : Nat) (h : u < 7) : shpC[79 + 6 * u]? = some (.inr (0, 12, fun _ => 0)) := by
  match u, h with
  | 0, _ => rfl
  | 1, _ => rfl
  | 2, _ => rfl
  | 3, _ => rfl
  | 4, _ => rfl
  | 5, _ => rfl
  | 6, _ => rfl
  | u + 7, h => exact absurd h (by omega)
theorem shC_PT_1 (u : Nat) (h : u < 7) : shpC[80 + 6 * u]? = some (.inr (0, 12, fun _ => 0)) := by
  match u, h with
  | 0, _ => rfl
  | 1, _ => rfl
  | 2, _ => rfl
  | 3, _ => rfl
  | 4, _ => rfl
  | 5, _ => rfl
  | 6, _ => rfl
  | u + 7, h => exact absurd h (by omega)
theorem shC_PT_2 (u : Nat) (h : u < 7) : shpC[81 + 6 * u]? = some (.inr (0, 12, fun _ => 0)) := by
  match u, h with
  | 0, _ => rfl
  | 1, _ => rfl
  | 2, _ => rfl
  | 3, _ => rfl
  | 4, _ => rfl
  | 5, _ => rfl
  | 6, _ => rfl
  | u + 7, h => exact absurd h (by omega)
theorem shC_PT_3 (u : Nat) (h : u < 7) : shpC[82 + 6 * u]? = some (.inr (0, 12, fun _ => 0)) := by
  match u, h with
  | 0, _ => rfl
  | 1, _ => rfl
  | 2, _ => rfl
  | 3, _ => rfl
  | 4, _ => rfl
  | 5, _ => rfl
  | 6, _ => rfl
  | u + 7, h => exact absurd h (by omega)
theorem shC_PT_4 (u : Nat) (h : u < 7) : shpC[83 + 6 * u]? = some (.inr (0, 12, fun _ => 0)) := by
  match u, h with
  | 0, _ => rfl
  | 1, _ => rfl
  | 2, _ => rfl
  | 3, _ => rfl
  | 4, _ => rfl
  | 5, _ => rfl
  | 6, _ => rfl
  | u + 7, h => exact absurd h (by omega)
/-- the cells of a WeftStoreModel -/
def shpR : List Sh := [.inl (10, [0, 0, 4, 5, 6, 7, 8, 9, 10, 11, 12, 0, 13, 14, 15, 0, 16, 17, 18, 19, 20, 21, 22, 23, 24, 25, 26, 27, 28, 29, 30, 31, 32, 33, 0, 0, 34, 35, 0, 36, 37, 38, 0, 39, 40, 41, 42, 43, 44, 45, 0]),
  .inr (0, 24, fun _ => 0),
  .inr (0, 24, fun _ => 0),
  .inr (0, 24, fun _ => 0),
  .inr (0, 24, fun _ => 0),
  .inr (0, 24, fun _ => 0),
  .inr (0, 24, fun _ => 0),
  .inr (0, 24, fun _ => 0),
  .inr (1, 24, fun _ => 0),
  .inr (1, 24, fun _ => 0),
  .inr (0, 65536, fun _ => 0),
  .inr (0, 65536, fun _ => 0),
  .inr (0, 65536, fun _ => 0),
  .inr (0, 60, fun _ => 0),
  .inr (0, 60, fun _ => 0),
  .inr (0, 60, fun _ => 0),
  .inr (0, 60, fun _ => 0),
  .inr (0, 60, fun _ => 0),
  .inr (1, 4, fun _ => 0),
  .inr (0, 4, fun _ => 0),
  .inr (0, 4, fun _ => 0),
  .inr (1, 3, fun _ => 0),
  .inr (1, 4, fun _ => 0),
  .inr (0, 4, fun _ => 0),
  .inr (1, 96, fun _ => 0),
  .inr (0, 96, fun _ => 0),
  .inr (0, 4, fun _ => 0),
  .inr (0, 32, fun _ => 0),
  .inr (0, 32, fun _ => 0),
  .inr (0, 32, fun _ => 0),
  .inr (1, 240, fun _ => 0),
  .inr (0, 12, fun _ => 0),
  .inr (0, 12, fun _ => 0),
  .inr (0, 6, fun _ => 0),
  .inr (0, 72, fun _ => 0),
  .inr (0, 72, fun _ => 0),
  .inr (0, 6, fun _ => 0),
  .inr (0, 6, fun _ => 0),
  .inr (0, 6, fun _ => 0),
  .inr (1, 6, fun _ => 0),
  .inr (0, 96, fun _ => 0),
  .inr (0, 96, fun _ => 0),
  .inr (0, 288, fun _ => 0)]
theorem shR_0 : shpR[0]? = some (.inl (10, [0, 0, 4, 5, 6, 7, 8, 9, 10, 11, 12, 0, 13, 14, 15, 0, 16, 17, 18, 19, 20, 21, 22, 23, 24, 25, 26, 27, 28, 29, 30, 31, 32, 33, 0, 0, 34, 35, 0, 36, 37, 38, 0, 39, 40, 41, 42, 43, 44, 45, 0])) := rfl
theorem shR_1 : shpR[1]? = some (.inr (0, 24, fun _ => 0)) := rfl
theorem shR_2 : shpR[2]? = some (.inr (0, 24, fun _ => 0)) := rfl
theorem shR_3 : shpR[3]? = some (.inr (0, 24, fun _ => 0)) := rfl
theorem shR_4 : shpR[4]? = some (.inr (0, 24, fun _ => 0)) := rfl
theorem shR_5 : shpR[5]? = some (.inr (0, 24, fun _ => 0)) := rfl
theorem shR_6 : shpR[6]? = some (.inr (0, 24, fun _ => 0)) := rfl
theorem shR_7 : shpR[7]? = some (.inr (0, 24, fun _ => 0)) := rfl
theorem shR_8 : shpR[8]? = some (.inr (1, 24, fun _ => 0)) := rfl
theorem shR_9 : shpR[9]? = some (.inr (1, 24, fun _ => 0)) := rfl
theorem shR_10 : shpR[10]? = some (.inr (0, 65536, fun _ => 0)) := rfl
theorem shR_11 : shpR[11]? = some (.inr (0, 65536, fun _ => 0)) := rfl
theorem shR_12 : shpR[12]? = some (.inr (0, 65536, fun _ => 0)) := rfl
theorem shR_13 : shpR[13]? = some (.inr (0, 60, fun _ => 0)) := rfl
theorem shR_14 : shpR[14]? = some (.inr (0, 60, fun _ => 0)) := rfl
theorem shR_15 : shpR[15]? = some (.inr (0, 60, fun _ => 0)) := rfl
theorem shR_16 : shpR[16]? = some (.inr (0, 60, fun _ => 0)) := rfl
theorem shR_17 : shpR[17]? = some (.inr (0, 60, fun _ => 0)) := rfl
theorem shR_18 : shpR[18]? = some (.inr (1, 4, fun _ => 0)) := rfl
theorem shR_19 : shpR[19]? = some (.inr (0, 4, fun _ => 0)) := rfl
theorem shR_20 : shpR[20]? = some (.inr (0, 4, fun _ => 0)) := rfl
theorem shR_21 : shpR[21]? = some (.inr (1, 3, fun _ => 0)) := rfl
theorem shR_22 : shpR[22]? = some (.inr (1, 4, fun _ => 0)) := rfl
theorem shR_23 : shpR[23]? = some (.inr (0, 4, fun _ => 0)) := rfl
theorem shR_24 : shpR[24]? = some (.inr (1, 96, fun _ => 0)) := rfl
theorem shR_25 : shpR[25]? = some (.inr (0, 96, fun _ => 0)) := rfl
theorem shR_26 : shpR[26]? = some (.inr (0, 4, fun _ => 0)) := rfl
theorem shR_27 : shpR[27]? = some (.inr (0, 32, fun _ => 0)) := rfl
theorem shR_28 : shpR[28]? = some (.inr (0, 32, fun _ => 0)) := rfl
theorem shR_29 : shpR[29]? = some (.inr (0, 32, fun _ => 0)) := rfl
theorem shR_30 : shpR[30]? = some (.inr (1, 240, fun _ => 0)) := rfl
theorem shR_31 : shpR[31]? = some (.inr (0, 12, fun _ => 0)) := rfl
theorem shR_32 : shpR[32]? = some (.inr (0, 12, fun _ => 0)) := rfl
theorem shR_33 : shpR[33]? = some (.inr (0, 6, fun _ => 0)) := rfl
theorem shR_34 : shpR[34]? = some (.inr (0, 72, fun _ => 0)) := rfl
theorem shR_35 : shpR[35]? = some (.inr (0, 72, fun _ => 0)) := rfl
theorem shR_36 : shpR[36]? = some (.inr (0, 6, fun _ => 0)) := rfl
theorem shR_37 : shpR[37]? = some (.inr (0, 6, fun _ => 0)) := rfl
theorem shR_38 : shpR[38]? = some (.inr (0, 6, fun _ => 0)) := rfl
theorem shR_39 : shpR[39]? = some (.inr (1, 6, fun _ => 0)) := rfl
theorem shR_40 : shpR[40]? = some (.inr (0, 96, fun _ => 0)) := rfl
theorem shR_41 : shpR[41]? = some (.inr (0, 96, fun _ => 0)) := rfl
theorem shR_42 : shpR[42]? = some (.inr (0, 288, fun _ => 0)) := rfl
theorem nar_0 : narrow .boolean (.int (0 : Int32)) = .int 0 := rfl
theorem nar_1 : narrow .boolean (.int (1 : Int32)) = .int 1 := rfl
theorem nar_z {x : Int32} (h : x &&& 1 = x) : narrow .boolean (.int x) = .int x := by
  show Value.int (x &&& 1) = .int x
  rw [h]
/-- a name -/
def lt {α β : Type} (x : α) (f : α → Option β) : Option β := f x
theorem lt_some {α β : Type} {x : α} {f : α → Option β} {z : β} (h : lt x f = some z) : ∃ y, y = x ∧ f y = some z := ⟨x, rfl, h⟩
theorem k_sig {X : Type} {Rp : X → Heap → Prop} {A : Nat → Prop} {nL mc ms : Nat} {Q : State → Prop} {p : Program} {l : Launch} {e : Env} {R : Room} {s : State} {m : MethodId} {args : Array Value} {below : List Frame} {meth : Method} {c : Code} {bc bs pc : Nat} {L : List (Option Value)} {st : List Value} {σ σ1 : X} (hs : σ1 = σ) (k : KJ Rp A nL mc ms Q p l e R s m args below meth c bc bs pc L st σ1) : KJ Rp A nL mc ms Q p l e R s m args below meth c bc bs pc L st σ := hs ▸ k
/-- a guard -/
def gd {α : Type} (c : Prop) [Decidable c] (x : Option α) : Option α := if c then x else none
theorem gd_some {α : Type} {c : Prop} [Decidable c] {x : Option α} {z : α} (h : gd c x = some z) : c ∧ x = some z := ite_some h
