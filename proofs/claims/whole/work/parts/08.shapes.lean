/-! the world: cells 0 .. 48 are the class, from 49 on the reference (printed by wip/whole/gen/gen.py) -/
abbrev SS : List Shp := [.inr (10, [1 + 2, 19 + 2, 25 + 2, 38 + 2, 34 + 2, 35 + 2, 37 + 2, 39 + 2, 48 + 2, 0]), .inr (3, [0, 0, 2 + 2, 3 + 2, 4 + 2, 5 + 2, 6 + 2, 7 + 2, 8 + 2]), .inl (0, 16), .inl (0, 16), .inl (0, 64), .inl (0, 64), .inl (0, 64), .inl (0, 256), .inl (0, 24), .inr (1, [10 + 2, 11 + 2, 12 + 2, 13 + 2, 0, 1, 1]), .inl (0, 8), .inl (1, 8), .inl (1, 8), .inl (0, 8), .inr (1, [15 + 2, 16 + 2, 17 + 2, 18 + 2, 0, 1, 1]), .inl (0, 8), .inl (1, 8), .inl (1, 8), .inl (0, 8), .inr (8, [1 + 2, 9 + 2, 14 + 2, 20 + 2, 21 + 2, 22 + 2, 0, 0, 23 + 2, 24 + 2]), .inl (2, 64), .inl (0, 64), .inl (0, 10), .inl (1, 7), .inl (0, 7), .inr (6, [1 + 2, 14 + 2, 26 + 2, 27 + 2, 28 + 2, 0, 29 + 2, 1]), .inl (0, 64), .inl (0, 256), .inl (0, 8), .inl (1, 64), .inr (7, [31 + 2, 0]), .inl (0, 8), .inr (7, [33 + 2, 0]), .inl (0, 60), .inr (4, [30 + 2]), .inr (9, [32 + 2, 36 + 2, 0, 0]), .inl (0, 10), .inr (2, [1 + 2, 34 + 2, 35 + 2, 0]), .inl (3, 2), .inl (4, 4), .inr (5, [0, 0, 0, 41 + 2]), .inl (0, 48), .inr (5, [0, 0, 0, 43 + 2]), .inl (0, 48), .inr (5, [0, 0, 0, 45 + 2]), .inl (0, 48), .inr (5, [0, 0, 0, 47 + 2]), .inl (0, 48), .inr (0, [1, 1]), .inr (11, [0, 50 + 2, 51 + 2, 0, 52 + 2, 53 + 2, 54 + 2, 55 + 2, 56 + 2, 57 + 2, 58 + 2, 59 + 2, 60 + 2, 1, 1, 61 + 2, 62 + 2, 63 + 2, 64 + 2, 65 + 2, 66 + 2, 67 + 2, 68 + 2, 0, 0, 0, 0, 0, 69 + 2, 70 + 2, 71 + 2, 72 + 2, 73 + 2, 0]), .inl (0, 16), .inl (0, 16), .inl (0, 64), .inl (0, 64), .inl (0, 64), .inl (0, 256), .inl (0, 24), .inl (1, 8), .inl (1, 8), .inl (1, 8), .inl (1, 8), .inl (1, 8), .inl (0, 8), .inl (0, 64), .inl (0, 256), .inl (0, 120), .inl (0, 2), .inl (0, 8), .inl (0, 8), .inl (2, 4), .inl (0, 4), .inl (0, 4), .inl (0, 192), .inl (0, 48)]
theorem s_0 : SS[0]? = some (.inr (10, [1 + 2, 19 + 2, 25 + 2, 38 + 2, 34 + 2, 35 + 2, 37 + 2, 39 + 2, 48 + 2, 0])) := rfl
theorem s_1 : SS[1]? = some (.inr (3, [0, 0, 2 + 2, 3 + 2, 4 + 2, 5 + 2, 6 + 2, 7 + 2, 8 + 2])) := rfl
theorem s_2 : SS[2]? = some (.inl (0, 16)) := rfl
theorem s_3 : SS[3]? = some (.inl (0, 16)) := rfl
theorem s_4 : SS[4]? = some (.inl (0, 64)) := rfl
theorem s_5 : SS[5]? = some (.inl (0, 64)) := rfl
theorem s_6 : SS[6]? = some (.inl (0, 64)) := rfl
theorem s_7 : SS[7]? = some (.inl (0, 256)) := rfl
theorem s_8 : SS[8]? = some (.inl (0, 24)) := rfl
theorem s_9 : SS[9]? = some (.inr (1, [10 + 2, 11 + 2, 12 + 2, 13 + 2, 0, 1, 1])) := rfl
theorem s_10 : SS[10]? = some (.inl (0, 8)) := rfl
theorem s_11 : SS[11]? = some (.inl (1, 8)) := rfl
theorem s_12 : SS[12]? = some (.inl (1, 8)) := rfl
theorem s_13 : SS[13]? = some (.inl (0, 8)) := rfl
theorem s_14 : SS[14]? = some (.inr (1, [15 + 2, 16 + 2, 17 + 2, 18 + 2, 0, 1, 1])) := rfl
theorem s_15 : SS[15]? = some (.inl (0, 8)) := rfl
theorem s_16 : SS[16]? = some (.inl (1, 8)) := rfl
theorem s_17 : SS[17]? = some (.inl (1, 8)) := rfl
theorem s_18 : SS[18]? = some (.inl (0, 8)) := rfl
theorem s_19 : SS[19]? = some (.inr (8, [1 + 2, 9 + 2, 14 + 2, 20 + 2, 21 + 2, 22 + 2, 0, 0, 23 + 2, 24 + 2])) := rfl
theorem s_20 : SS[20]? = some (.inl (2, 64)) := rfl
theorem s_21 : SS[21]? = some (.inl (0, 64)) := rfl
theorem s_22 : SS[22]? = some (.inl (0, 10)) := rfl
theorem s_23 : SS[23]? = some (.inl (1, 7)) := rfl
theorem s_24 : SS[24]? = some (.inl (0, 7)) := rfl
theorem s_25 : SS[25]? = some (.inr (6, [1 + 2, 14 + 2, 26 + 2, 27 + 2, 28 + 2, 0, 29 + 2, 1])) := rfl
theorem s_26 : SS[26]? = some (.inl (0, 64)) := rfl
theorem s_27 : SS[27]? = some (.inl (0, 256)) := rfl
theorem s_28 : SS[28]? = some (.inl (0, 8)) := rfl
theorem s_29 : SS[29]? = some (.inl (1, 64)) := rfl
theorem s_30 : SS[30]? = some (.inr (7, [31 + 2, 0])) := rfl
theorem s_31 : SS[31]? = some (.inl (0, 8)) := rfl
theorem s_32 : SS[32]? = some (.inr (7, [33 + 2, 0])) := rfl
theorem s_33 : SS[33]? = some (.inl (0, 60)) := rfl
theorem s_34 : SS[34]? = some (.inr (4, [30 + 2])) := rfl
theorem s_35 : SS[35]? = some (.inr (9, [32 + 2, 36 + 2, 0, 0])) := rfl
theorem s_36 : SS[36]? = some (.inl (0, 10)) := rfl
theorem s_37 : SS[37]? = some (.inr (2, [1 + 2, 34 + 2, 35 + 2, 0])) := rfl
theorem s_38 : SS[38]? = some (.inl (3, 2)) := rfl
theorem s_39 : SS[39]? = some (.inl (4, 4)) := rfl
theorem s_40 : SS[40]? = some (.inr (5, [0, 0, 0, 41 + 2])) := rfl
theorem s_41 : SS[41]? = some (.inl (0, 48)) := rfl
theorem s_42 : SS[42]? = some (.inr (5, [0, 0, 0, 43 + 2])) := rfl
theorem s_43 : SS[43]? = some (.inl (0, 48)) := rfl
theorem s_44 : SS[44]? = some (.inr (5, [0, 0, 0, 45 + 2])) := rfl
theorem s_45 : SS[45]? = some (.inl (0, 48)) := rfl
theorem s_46 : SS[46]? = some (.inr (5, [0, 0, 0, 47 + 2])) := rfl
theorem s_47 : SS[47]? = some (.inl (0, 48)) := rfl
theorem s_48 : SS[48]? = some (.inr (0, [1, 1])) := rfl
theorem s_49 : SS[49]? = some (.inr (11, [0, 50 + 2, 51 + 2, 0, 52 + 2, 53 + 2, 54 + 2, 55 + 2, 56 + 2, 57 + 2, 58 + 2, 59 + 2, 60 + 2, 1, 1, 61 + 2, 62 + 2, 63 + 2, 64 + 2, 65 + 2, 66 + 2, 67 + 2, 68 + 2, 0, 0, 0, 0, 0, 69 + 2, 70 + 2, 71 + 2, 72 + 2, 73 + 2, 0])) := rfl
theorem s_50 : SS[50]? = some (.inl (0, 16)) := rfl
theorem s_51 : SS[51]? = some (.inl (0, 16)) := rfl
theorem s_52 : SS[52]? = some (.inl (0, 64)) := rfl
theorem s_53 : SS[53]? = some (.inl (0, 64)) := rfl
theorem s_54 : SS[54]? = some (.inl (0, 64)) := rfl
theorem s_55 : SS[55]? = some (.inl (0, 256)) := rfl
theorem s_56 : SS[56]? = some (.inl (0, 24)) := rfl
theorem s_57 : SS[57]? = some (.inl (1, 8)) := rfl
theorem s_58 : SS[58]? = some (.inl (1, 8)) := rfl
theorem s_59 : SS[59]? = some (.inl (1, 8)) := rfl
theorem s_60 : SS[60]? = some (.inl (1, 8)) := rfl
theorem s_61 : SS[61]? = some (.inl (1, 8)) := rfl
theorem s_62 : SS[62]? = some (.inl (0, 8)) := rfl
theorem s_63 : SS[63]? = some (.inl (0, 64)) := rfl
theorem s_64 : SS[64]? = some (.inl (0, 256)) := rfl
theorem s_65 : SS[65]? = some (.inl (0, 120)) := rfl
theorem s_66 : SS[66]? = some (.inl (0, 2)) := rfl
theorem s_67 : SS[67]? = some (.inl (0, 8)) := rfl
theorem s_68 : SS[68]? = some (.inl (0, 8)) := rfl
theorem s_69 : SS[69]? = some (.inl (2, 4)) := rfl
theorem s_70 : SS[70]? = some (.inl (0, 4)) := rfl
theorem s_71 : SS[71]? = some (.inl (0, 4)) := rfl
theorem s_72 : SS[72]? = some (.inl (0, 192)) := rfl
theorem s_73 : SS[73]? = some (.inl (0, 48)) := rfl
def isLv (b : Nat) : Prop := SS[b]? = some (.inr (1, [b + 1 + 2, b + 2 + 2, b + 3 + 2, b + 4 + 2, 0, 1, 1])) ∧ SS[b + 1]? = some (.inl (0, 8)) ∧ SS[b + 2]? = some (.inl (1, 8)) ∧ SS[b + 3]? = some (.inl (1, 8)) ∧ SS[b + 4]? = some (.inl (0, 8))
def isTx (b n : Nat) : Prop := SS[b]? = some (.inr (7, [b + 1 + 2, 0])) ∧ SS[b + 1]? = some (.inl (0, n))
def isSh (b : Nat) : Prop := SS[b]? = some (.inr (5, [0, 0, 0, b + 1 + 2])) ∧ SS[b + 1]? = some (.inl (0, 48))
theorem lv_9 : isLv 9 := ⟨rfl, rfl, rfl, rfl, rfl⟩
theorem lv_14 : isLv 14 := ⟨rfl, rfl, rfl, rfl, rfl⟩
def tlen (k : Nat) : Nat := match k with
  | 0 => 8
  | _ => 60
theorem tx_30 : isTx 30 8 := ⟨rfl, rfl⟩
theorem tx_32 : isTx 32 60 := ⟨rfl, rfl⟩
theorem tx_of {k : Nat} (h : k < 2) : isTx (rix 0 k) (tlen k) := by
  match k, h with
  | 0, _ => exact tx_30
  | 1, _ => exact tx_32
theorem sh_of {k : Nat} (h : k < 4) : isSh (rix 1 k) := by
  match k, h with
  | 0, _ => exact ⟨rfl, rfl⟩
  | 1, _ => exact ⟨rfl, rfl⟩
  | 2, _ => exact ⟨rfl, rfl⟩
  | 3, _ => exact ⟨rfl, rfl⟩
