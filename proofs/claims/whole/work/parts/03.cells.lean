-- the cells of the system, by their numbers; printed by wip/whole/mkworld.py
abbrev xDesc : Type := (Nat × Nat × Nat × Nat) ⊕ (List Nat ⊕ (Nat × List (Nat ⊕ (Nat × Nat))))
def plc : Nat → Nat
  | 0 => 2
  | 1 => 29
  | 2 => 48
  | 3 => 66
  | 4 => 84
  | 5 => 102
  | _ => 136
def SH_0 : List xDesc := [.inr (.inr (8, [.inl 1, .inl 2, .inl 20, .inl 21, .inl 126, .inl 127, .inl 136, .inr (157, 0)])),
  .inr (.inr (5, [.inl 2, .inl 20, .inl 29, .inl 47, .inl 120, .inr (135, 0), .inl 121, .inl 122, .inl 123, .inl 124, .inl 125, .inr (141, 0), .inr (142, 0), .inr (143, 0), .inr (144, 0)])),
  .inr (.inr (6, [.inl 3, .inl 4, .inl 11, .inl 18, .inl 19, .inr (0, 327), .inr (0, 328), .inr (0, 329), .inr (0, 330)])),
  .inl (0, 0, 0, 196),
  .inr (.inr (2, [.inl 5, .inl 6, .inl 7, .inl 8, .inl 9, .inl 10])),
  .inl (1, 0, 196, 12),
  .inl (0, 0, 208, 12),
  .inl (0, 0, 220, 12),
  .inl (0, 0, 232, 12),
  .inl (0, 0, 244, 12),
  .inl (1, 0, 256, 12),
  .inr (.inr (1, [.inl 12, .inl 13, .inl 14, .inl 15, .inl 16, .inl 17])),
  .inl (1, 0, 268, 6),
  .inl (0, 0, 274, 6),
  .inl (0, 0, 280, 6),
  .inl (0, 0, 286, 6),
  .inl (0, 0, 292, 6),
  .inl (1, 0, 298, 6),
  .inl (0, 0, 304, 4),
  .inl (0, 0, 308, 19),
  .inr (.inr (0, [.inl 21, .inl 28, .inr (102, 0)])),
  .inr (.inr (3, [.inl 22, .inl 23, .inr (22, 0), .inl 24, .inl 25, .inl 26, .inr (26, 0), .inl 27, .inr (28, 0), .inr (29, 0)])),
  .inl (0, 20, 0, 240),
  .inl (0, 21, 0, 240),
  .inl (0, 23, 0, 16),
  .inl (0, 24, 0, 16),
  .inl (0, 25, 0, 16),
  .inl (0, 27, 0, 64),
  .inl (0, 101, 0, 15),
  .inr (.inr (6, [.inl 30, .inl 31, .inl 38, .inl 45, .inl 46, .inr (1, 327), .inr (1, 328), .inr (1, 329), .inr (1, 330)])),
  .inl (0, 1, 0, 196),
  .inr (.inr (2, [.inl 32, .inl 33, .inl 34, .inl 35, .inl 36, .inl 37])),
  .inl (1, 1, 196, 12),
  .inl (0, 1, 208, 12),
  .inl (0, 1, 220, 12),
  .inl (0, 1, 232, 12),
  .inl (0, 1, 244, 12),
  .inl (1, 1, 256, 12),
  .inr (.inr (1, [.inl 39, .inl 40, .inl 41, .inl 42, .inl 43, .inl 44])),
  .inl (1, 1, 268, 6),
  .inl (0, 1, 274, 6),
  .inl (0, 1, 280, 6),
  .inl (0, 1, 286, 6),
  .inl (0, 1, 292, 6),
  .inl (1, 1, 298, 6),
  .inl (0, 1, 304, 4),
  .inl (0, 1, 308, 19),
  .inr (.inl [48, 66, 84, 102]),
  .inr (.inr (6, [.inl 49, .inl 50, .inl 57, .inl 64, .inl 65, .inr (2, 327), .inr (2, 328), .inr (2, 329), .inr (2, 330)])),
  .inl (0, 2, 0, 196),
  .inr (.inr (2, [.inl 51, .inl 52, .inl 53, .inl 54, .inl 55, .inl 56])),
  .inl (1, 2, 196, 12),
  .inl (0, 2, 208, 12),
  .inl (0, 2, 220, 12),
  .inl (0, 2, 232, 12),
  .inl (0, 2, 244, 12),
  .inl (1, 2, 256, 12),
  .inr (.inr (1, [.inl 58, .inl 59, .inl 60, .inl 61, .inl 62, .inl 63])),
  .inl (1, 2, 268, 6),
  .inl (0, 2, 274, 6)]
def SH_1 : List xDesc := [.inl (0, 2, 280, 6),
  .inl (0, 2, 286, 6),
  .inl (0, 2, 292, 6),
  .inl (1, 2, 298, 6),
  .inl (0, 2, 304, 4),
  .inl (0, 2, 308, 19),
  .inr (.inr (6, [.inl 67, .inl 68, .inl 75, .inl 82, .inl 83, .inr (3, 327), .inr (3, 328), .inr (3, 329), .inr (3, 330)])),
  .inl (0, 3, 0, 196),
  .inr (.inr (2, [.inl 69, .inl 70, .inl 71, .inl 72, .inl 73, .inl 74])),
  .inl (1, 3, 196, 12),
  .inl (0, 3, 208, 12),
  .inl (0, 3, 220, 12),
  .inl (0, 3, 232, 12),
  .inl (0, 3, 244, 12),
  .inl (1, 3, 256, 12),
  .inr (.inr (1, [.inl 76, .inl 77, .inl 78, .inl 79, .inl 80, .inl 81])),
  .inl (1, 3, 268, 6),
  .inl (0, 3, 274, 6),
  .inl (0, 3, 280, 6),
  .inl (0, 3, 286, 6),
  .inl (0, 3, 292, 6),
  .inl (1, 3, 298, 6),
  .inl (0, 3, 304, 4),
  .inl (0, 3, 308, 19),
  .inr (.inr (6, [.inl 85, .inl 86, .inl 93, .inl 100, .inl 101, .inr (4, 327), .inr (4, 328), .inr (4, 329), .inr (4, 330)])),
  .inl (0, 4, 0, 196),
  .inr (.inr (2, [.inl 87, .inl 88, .inl 89, .inl 90, .inl 91, .inl 92])),
  .inl (1, 4, 196, 12),
  .inl (0, 4, 208, 12),
  .inl (0, 4, 220, 12),
  .inl (0, 4, 232, 12),
  .inl (0, 4, 244, 12),
  .inl (1, 4, 256, 12),
  .inr (.inr (1, [.inl 94, .inl 95, .inl 96, .inl 97, .inl 98, .inl 99])),
  .inl (1, 4, 268, 6),
  .inl (0, 4, 274, 6),
  .inl (0, 4, 280, 6),
  .inl (0, 4, 286, 6),
  .inl (0, 4, 292, 6),
  .inl (1, 4, 298, 6),
  .inl (0, 4, 304, 4),
  .inl (0, 4, 308, 19),
  .inr (.inr (6, [.inl 103, .inl 104, .inl 111, .inl 118, .inl 119, .inr (5, 327), .inr (5, 328), .inr (5, 329), .inr (5, 330)])),
  .inl (0, 5, 0, 196),
  .inr (.inr (2, [.inl 105, .inl 106, .inl 107, .inl 108, .inl 109, .inl 110])),
  .inl (1, 5, 196, 12),
  .inl (0, 5, 208, 12),
  .inl (0, 5, 220, 12),
  .inl (0, 5, 232, 12),
  .inl (0, 5, 244, 12),
  .inl (1, 5, 256, 12),
  .inr (.inr (1, [.inl 112, .inl 113, .inl 114, .inl 115, .inl 116, .inl 117])),
  .inl (1, 5, 268, 6),
  .inl (0, 5, 274, 6),
  .inl (0, 5, 280, 6),
  .inl (0, 5, 286, 6),
  .inl (0, 5, 292, 6),
  .inl (1, 5, 298, 6),
  .inl (0, 5, 304, 4),
  .inl (0, 5, 308, 19)]
def SH_2 : List xDesc := [.inl (0, 134, 0, 9),
  .inl (0, 136, 0, 512),
  .inl (0, 137, 0, 512),
  .inl (0, 138, 0, 9),
  .inl (0, 139, 0, 25),
  .inl (0, 140, 0, 25),
  .inr (.inr (4, [.inl 127, .inl 129, .inr (112, 0), .inr (113, 0), .inr (114, 0), .inr (115, 0)])),
  .inr (.inr (7, [.inl 128, .inr (121, 0)])),
  .inl (0, 120, 0, 260),
  .inr (.inr (3, [.inl 130, .inl 131, .inr (32, 0), .inl 132, .inl 133, .inl 134, .inr (36, 0), .inl 135, .inr (38, 0), .inr (39, 0)])),
  .inl (0, 30, 0, 240),
  .inl (0, 31, 0, 240),
  .inl (0, 33, 0, 16),
  .inl (0, 34, 0, 16),
  .inl (0, 35, 0, 16),
  .inl (0, 37, 0, 64),
  .inr (.inr (6, [.inl 137, .inl 138, .inl 145, .inl 152, .inl 153, .inr (6, 327), .inr (6, 328), .inr (6, 329), .inr (6, 330)])),
  .inl (0, 6, 0, 196),
  .inr (.inr (2, [.inl 139, .inl 140, .inl 141, .inl 142, .inl 143, .inl 144])),
  .inl (1, 6, 196, 12),
  .inl (0, 6, 208, 12),
  .inl (0, 6, 220, 12),
  .inl (0, 6, 232, 12),
  .inl (0, 6, 244, 12),
  .inl (1, 6, 256, 12),
  .inr (.inr (1, [.inl 146, .inl 147, .inl 148, .inl 149, .inl 150, .inl 151])),
  .inl (1, 6, 268, 6),
  .inl (0, 6, 274, 6),
  .inl (0, 6, 280, 6),
  .inl (0, 6, 286, 6),
  .inl (0, 6, 292, 6),
  .inl (1, 6, 298, 6),
  .inl (0, 6, 304, 4),
  .inl (0, 6, 308, 19),
  .inr (.inr (9, [.inl 155, .inl 156, .inl 157, .inl 158, .inr (164, 0), .inr (165, 0), .inr (166, 0), .inr (167, 0), .inr (168, 0), .inr (169, 0), .inr (170, 0), .inr (171, 0), .inr (172, 0), .inr (173, 0), .inl 159, .inl 160, .inl 161, .inl 162, .inl 163, .inl 164, .inl 165, .inl 166, .inl 167, .inl 168, .inl 169, .inl 170, .inl 171, .inl 172, .inl 173, .inr (189, 0), .inr (190, 0), .inr (191, 0), .inr (192, 0), .inl 174, .inl 175, .inl 176, .inr (196, 0)])),
  .inl (0, 7, 0, 331),
  .inl (0, 8, 0, 331),
  .inl (0, 9, 0, 331),
  .inl (2, 163, 0, 260),
  .inl (0, 174, 0, 260),
  .inl (0, 175, 0, 260),
  .inl (0, 176, 0, 16),
  .inl (0, 177, 0, 16),
  .inl (0, 178, 0, 16),
  .inl (0, 179, 0, 16),
  .inl (0, 180, 0, 260),
  .inl (0, 181, 0, 16),
  .inl (0, 182, 0, 16),
  .inl (0, 183, 0, 16),
  .inl (0, 184, 0, 16),
  .inl (0, 185, 0, 260),
  .inl (0, 186, 0, 15),
  .inl (0, 187, 0, 512),
  .inl (0, 188, 0, 9),
  .inl (0, 193, 0, 25),
  .inl (0, 194, 0, 25),
  .inl (0, 195, 0, 6)]
def SH : List xDesc := SH_0 ++ (SH_1 ++ (SH_2))
abbrev SN : Nat := 177
theorem SH_len : SH.length = SN := by decide +kernel
theorem x7 {P : Nat → Prop} (h0 : P 0) (h1 : P 1) (h2 : P 2) (h3 : P 3) (h4 : P 4) (h5 : P 5) (h6 : P 6) : ∀ p, p < 7 → P p := fun p hp => match p, hp with
  | 0, _ => h0
  | 1, _ => h1
  | 2, _ => h2
  | 3, _ => h3
  | 4, _ => h4
  | 5, _ => h5
  | 6, _ => h6
  | n + 7, h => absurd h (by omega)
theorem sh_0 : SH[0]? = some (.inr (.inr (8, [.inl 1, .inl 2, .inl 20, .inl 21, .inl 126, .inl 127, .inl 136, .inr (157, 0)]))) := rfl
theorem sh_1 : SH[1]? = some (.inr (.inr (5, [.inl 2, .inl 20, .inl 29, .inl 47, .inl 120, .inr (135, 0), .inl 121, .inl 122, .inl 123, .inl 124, .inl 125, .inr (141, 0), .inr (142, 0), .inr (143, 0), .inr (144, 0)]))) := rfl
theorem sh_2 : SH[2]? = some (.inr (.inr (6, [.inl 3, .inl 4, .inl 11, .inl 18, .inl 19, .inr (0, 327), .inr (0, 328), .inr (0, 329), .inr (0, 330)]))) := rfl
theorem sh_3 : SH[3]? = some (.inl (0, 0, 0, 196)) := rfl
theorem sh_4 : SH[4]? = some (.inr (.inr (2, [.inl 5, .inl 6, .inl 7, .inl 8, .inl 9, .inl 10]))) := rfl
theorem sh_5 : SH[5]? = some (.inl (1, 0, 196, 12)) := rfl
theorem sh_6 : SH[6]? = some (.inl (0, 0, 208, 12)) := rfl
theorem sh_7 : SH[7]? = some (.inl (0, 0, 220, 12)) := rfl
theorem sh_8 : SH[8]? = some (.inl (0, 0, 232, 12)) := rfl
theorem sh_9 : SH[9]? = some (.inl (0, 0, 244, 12)) := rfl
theorem sh_10 : SH[10]? = some (.inl (1, 0, 256, 12)) := rfl
theorem sh_11 : SH[11]? = some (.inr (.inr (1, [.inl 12, .inl 13, .inl 14, .inl 15, .inl 16, .inl 17]))) := rfl
theorem sh_12 : SH[12]? = some (.inl (1, 0, 268, 6)) := rfl
theorem sh_13 : SH[13]? = some (.inl (0, 0, 274, 6)) := rfl
theorem sh_14 : SH[14]? = some (.inl (0, 0, 280, 6)) := rfl
theorem sh_15 : SH[15]? = some (.inl (0, 0, 286, 6)) := rfl
theorem sh_16 : SH[16]? = some (.inl (0, 0, 292, 6)) := rfl
theorem sh_17 : SH[17]? = some (.inl (1, 0, 298, 6)) := rfl
theorem sh_18 : SH[18]? = some (.inl (0, 0, 304, 4)) := rfl
theorem sh_19 : SH[19]? = some (.inl (0, 0, 308, 19)) := rfl
theorem sh_20 : SH[20]? = some (.inr (.inr (0, [.inl 21, .inl 28, .inr (102, 0)]))) := rfl
theorem sh_21 : SH[21]? = some (.inr (.inr (3, [.inl 22, .inl 23, .inr (22, 0), .inl 24, .inl 25, .inl 26, .inr (26, 0), .inl 27, .inr (28, 0), .inr (29, 0)]))) := rfl
theorem sh_22 : SH[22]? = some (.inl (0, 20, 0, 240)) := rfl
theorem sh_23 : SH[23]? = some (.inl (0, 21, 0, 240)) := rfl
theorem sh_24 : SH[24]? = some (.inl (0, 23, 0, 16)) := rfl
theorem sh_25 : SH[25]? = some (.inl (0, 24, 0, 16)) := rfl
theorem sh_26 : SH[26]? = some (.inl (0, 25, 0, 16)) := rfl
theorem sh_27 : SH[27]? = some (.inl (0, 27, 0, 64)) := rfl
theorem sh_28 : SH[28]? = some (.inl (0, 101, 0, 15)) := rfl
theorem sh_29 : SH[29]? = some (.inr (.inr (6, [.inl 30, .inl 31, .inl 38, .inl 45, .inl 46, .inr (1, 327), .inr (1, 328), .inr (1, 329), .inr (1, 330)]))) := rfl
theorem sh_30 : SH[30]? = some (.inl (0, 1, 0, 196)) := rfl
theorem sh_31 : SH[31]? = some (.inr (.inr (2, [.inl 32, .inl 33, .inl 34, .inl 35, .inl 36, .inl 37]))) := rfl
theorem sh_32 : SH[32]? = some (.inl (1, 1, 196, 12)) := rfl
theorem sh_33 : SH[33]? = some (.inl (0, 1, 208, 12)) := rfl
theorem sh_34 : SH[34]? = some (.inl (0, 1, 220, 12)) := rfl
theorem sh_35 : SH[35]? = some (.inl (0, 1, 232, 12)) := rfl
theorem sh_36 : SH[36]? = some (.inl (0, 1, 244, 12)) := rfl
theorem sh_37 : SH[37]? = some (.inl (1, 1, 256, 12)) := rfl
theorem sh_38 : SH[38]? = some (.inr (.inr (1, [.inl 39, .inl 40, .inl 41, .inl 42, .inl 43, .inl 44]))) := rfl
theorem sh_39 : SH[39]? = some (.inl (1, 1, 268, 6)) := rfl
theorem sh_40 : SH[40]? = some (.inl (0, 1, 274, 6)) := rfl
theorem sh_41 : SH[41]? = some (.inl (0, 1, 280, 6)) := rfl
theorem sh_42 : SH[42]? = some (.inl (0, 1, 286, 6)) := rfl
theorem sh_43 : SH[43]? = some (.inl (0, 1, 292, 6)) := rfl
theorem sh_44 : SH[44]? = some (.inl (1, 1, 298, 6)) := rfl
theorem sh_45 : SH[45]? = some (.inl (0, 1, 304, 4)) := rfl
theorem sh_46 : SH[46]? = some (.inl (0, 1, 308, 19)) := rfl
theorem sh_47 : SH[47]? = some (.inr (.inl [48, 66, 84, 102])) := rfl
theorem sh_48 : SH[48]? = some (.inr (.inr (6, [.inl 49, .inl 50, .inl 57, .inl 64, .inl 65, .inr (2, 327), .inr (2, 328), .inr (2, 329), .inr (2, 330)]))) := rfl
theorem sh_49 : SH[49]? = some (.inl (0, 2, 0, 196)) := rfl
theorem sh_50 : SH[50]? = some (.inr (.inr (2, [.inl 51, .inl 52, .inl 53, .inl 54, .inl 55, .inl 56]))) := rfl
theorem sh_51 : SH[51]? = some (.inl (1, 2, 196, 12)) := rfl
theorem sh_52 : SH[52]? = some (.inl (0, 2, 208, 12)) := rfl
theorem sh_53 : SH[53]? = some (.inl (0, 2, 220, 12)) := rfl
theorem sh_54 : SH[54]? = some (.inl (0, 2, 232, 12)) := rfl
theorem sh_55 : SH[55]? = some (.inl (0, 2, 244, 12)) := rfl
theorem sh_56 : SH[56]? = some (.inl (1, 2, 256, 12)) := rfl
theorem sh_57 : SH[57]? = some (.inr (.inr (1, [.inl 58, .inl 59, .inl 60, .inl 61, .inl 62, .inl 63]))) := rfl
theorem sh_58 : SH[58]? = some (.inl (1, 2, 268, 6)) := rfl
theorem sh_59 : SH[59]? = some (.inl (0, 2, 274, 6)) := rfl
theorem sh_60 : SH[60]? = some (.inl (0, 2, 280, 6)) := rfl
theorem sh_61 : SH[61]? = some (.inl (0, 2, 286, 6)) := rfl
theorem sh_62 : SH[62]? = some (.inl (0, 2, 292, 6)) := rfl
theorem sh_63 : SH[63]? = some (.inl (1, 2, 298, 6)) := rfl
theorem sh_64 : SH[64]? = some (.inl (0, 2, 304, 4)) := rfl
theorem sh_65 : SH[65]? = some (.inl (0, 2, 308, 19)) := rfl
theorem sh_66 : SH[66]? = some (.inr (.inr (6, [.inl 67, .inl 68, .inl 75, .inl 82, .inl 83, .inr (3, 327), .inr (3, 328), .inr (3, 329), .inr (3, 330)]))) := rfl
theorem sh_67 : SH[67]? = some (.inl (0, 3, 0, 196)) := rfl
theorem sh_68 : SH[68]? = some (.inr (.inr (2, [.inl 69, .inl 70, .inl 71, .inl 72, .inl 73, .inl 74]))) := rfl
theorem sh_69 : SH[69]? = some (.inl (1, 3, 196, 12)) := rfl
theorem sh_70 : SH[70]? = some (.inl (0, 3, 208, 12)) := rfl
theorem sh_71 : SH[71]? = some (.inl (0, 3, 220, 12)) := rfl
theorem sh_72 : SH[72]? = some (.inl (0, 3, 232, 12)) := rfl
theorem sh_73 : SH[73]? = some (.inl (0, 3, 244, 12)) := rfl
theorem sh_74 : SH[74]? = some (.inl (1, 3, 256, 12)) := rfl
theorem sh_75 : SH[75]? = some (.inr (.inr (1, [.inl 76, .inl 77, .inl 78, .inl 79, .inl 80, .inl 81]))) := rfl
theorem sh_76 : SH[76]? = some (.inl (1, 3, 268, 6)) := rfl
theorem sh_77 : SH[77]? = some (.inl (0, 3, 274, 6)) := rfl
theorem sh_78 : SH[78]? = some (.inl (0, 3, 280, 6)) := rfl
theorem sh_79 : SH[79]? = some (.inl (0, 3, 286, 6)) := rfl
theorem sh_80 : SH[80]? = some (.inl (0, 3, 292, 6)) := rfl
theorem sh_81 : SH[81]? = some (.inl (1, 3, 298, 6)) := rfl
theorem sh_82 : SH[82]? = some (.inl (0, 3, 304, 4)) := rfl
theorem sh_83 : SH[83]? = some (.inl (0, 3, 308, 19)) := rfl
theorem sh_84 : SH[84]? = some (.inr (.inr (6, [.inl 85, .inl 86, .inl 93, .inl 100, .inl 101, .inr (4, 327), .inr (4, 328), .inr (4, 329), .inr (4, 330)]))) := rfl
theorem sh_85 : SH[85]? = some (.inl (0, 4, 0, 196)) := rfl
theorem sh_86 : SH[86]? = some (.inr (.inr (2, [.inl 87, .inl 88, .inl 89, .inl 90, .inl 91, .inl 92]))) := rfl
theorem sh_87 : SH[87]? = some (.inl (1, 4, 196, 12)) := rfl
theorem sh_88 : SH[88]? = some (.inl (0, 4, 208, 12)) := rfl
theorem sh_89 : SH[89]? = some (.inl (0, 4, 220, 12)) := rfl
theorem sh_90 : SH[90]? = some (.inl (0, 4, 232, 12)) := rfl
theorem sh_91 : SH[91]? = some (.inl (0, 4, 244, 12)) := rfl
theorem sh_92 : SH[92]? = some (.inl (1, 4, 256, 12)) := rfl
theorem sh_93 : SH[93]? = some (.inr (.inr (1, [.inl 94, .inl 95, .inl 96, .inl 97, .inl 98, .inl 99]))) := rfl
theorem sh_94 : SH[94]? = some (.inl (1, 4, 268, 6)) := rfl
theorem sh_95 : SH[95]? = some (.inl (0, 4, 274, 6)) := rfl
theorem sh_96 : SH[96]? = some (.inl (0, 4, 280, 6)) := rfl
theorem sh_97 : SH[97]? = some (.inl (0, 4, 286, 6)) := rfl
theorem sh_98 : SH[98]? = some (.inl (0, 4, 292, 6)) := rfl
theorem sh_99 : SH[99]? = some (.inl (1, 4, 298, 6)) := rfl
theorem sh_100 : SH[100]? = some (.inl (0, 4, 304, 4)) := rfl
theorem sh_101 : SH[101]? = some (.inl (0, 4, 308, 19)) := rfl
theorem sh_102 : SH[102]? = some (.inr (.inr (6, [.inl 103, .inl 104, .inl 111, .inl 118, .inl 119, .inr (5, 327), .inr (5, 328), .inr (5, 329), .inr (5, 330)]))) := rfl
theorem sh_103 : SH[103]? = some (.inl (0, 5, 0, 196)) := rfl
theorem sh_104 : SH[104]? = some (.inr (.inr (2, [.inl 105, .inl 106, .inl 107, .inl 108, .inl 109, .inl 110]))) := rfl
theorem sh_105 : SH[105]? = some (.inl (1, 5, 196, 12)) := rfl
theorem sh_106 : SH[106]? = some (.inl (0, 5, 208, 12)) := rfl
theorem sh_107 : SH[107]? = some (.inl (0, 5, 220, 12)) := rfl
theorem sh_108 : SH[108]? = some (.inl (0, 5, 232, 12)) := rfl
theorem sh_109 : SH[109]? = some (.inl (0, 5, 244, 12)) := rfl
theorem sh_110 : SH[110]? = some (.inl (1, 5, 256, 12)) := rfl
theorem sh_111 : SH[111]? = some (.inr (.inr (1, [.inl 112, .inl 113, .inl 114, .inl 115, .inl 116, .inl 117]))) := rfl
theorem sh_112 : SH[112]? = some (.inl (1, 5, 268, 6)) := rfl
theorem sh_113 : SH[113]? = some (.inl (0, 5, 274, 6)) := rfl
theorem sh_114 : SH[114]? = some (.inl (0, 5, 280, 6)) := rfl
theorem sh_115 : SH[115]? = some (.inl (0, 5, 286, 6)) := rfl
theorem sh_116 : SH[116]? = some (.inl (0, 5, 292, 6)) := rfl
theorem sh_117 : SH[117]? = some (.inl (1, 5, 298, 6)) := rfl
theorem sh_118 : SH[118]? = some (.inl (0, 5, 304, 4)) := rfl
theorem sh_119 : SH[119]? = some (.inl (0, 5, 308, 19)) := rfl
theorem sh_120 : SH[120]? = some (.inl (0, 134, 0, 9)) := rfl
theorem sh_121 : SH[121]? = some (.inl (0, 136, 0, 512)) := rfl
theorem sh_122 : SH[122]? = some (.inl (0, 137, 0, 512)) := rfl
theorem sh_123 : SH[123]? = some (.inl (0, 138, 0, 9)) := rfl
theorem sh_124 : SH[124]? = some (.inl (0, 139, 0, 25)) := rfl
theorem sh_125 : SH[125]? = some (.inl (0, 140, 0, 25)) := rfl
theorem sh_126 : SH[126]? = some (.inr (.inr (4, [.inl 127, .inl 129, .inr (112, 0), .inr (113, 0), .inr (114, 0), .inr (115, 0)]))) := rfl
theorem sh_127 : SH[127]? = some (.inr (.inr (7, [.inl 128, .inr (121, 0)]))) := rfl
theorem sh_128 : SH[128]? = some (.inl (0, 120, 0, 260)) := rfl
theorem sh_129 : SH[129]? = some (.inr (.inr (3, [.inl 130, .inl 131, .inr (32, 0), .inl 132, .inl 133, .inl 134, .inr (36, 0), .inl 135, .inr (38, 0), .inr (39, 0)]))) := rfl
theorem sh_130 : SH[130]? = some (.inl (0, 30, 0, 240)) := rfl
theorem sh_131 : SH[131]? = some (.inl (0, 31, 0, 240)) := rfl
theorem sh_132 : SH[132]? = some (.inl (0, 33, 0, 16)) := rfl
theorem sh_133 : SH[133]? = some (.inl (0, 34, 0, 16)) := rfl
theorem sh_134 : SH[134]? = some (.inl (0, 35, 0, 16)) := rfl
theorem sh_135 : SH[135]? = some (.inl (0, 37, 0, 64)) := rfl
theorem sh_136 : SH[136]? = some (.inr (.inr (6, [.inl 137, .inl 138, .inl 145, .inl 152, .inl 153, .inr (6, 327), .inr (6, 328), .inr (6, 329), .inr (6, 330)]))) := rfl
theorem sh_137 : SH[137]? = some (.inl (0, 6, 0, 196)) := rfl
theorem sh_138 : SH[138]? = some (.inr (.inr (2, [.inl 139, .inl 140, .inl 141, .inl 142, .inl 143, .inl 144]))) := rfl
theorem sh_139 : SH[139]? = some (.inl (1, 6, 196, 12)) := rfl
theorem sh_140 : SH[140]? = some (.inl (0, 6, 208, 12)) := rfl
theorem sh_141 : SH[141]? = some (.inl (0, 6, 220, 12)) := rfl
theorem sh_142 : SH[142]? = some (.inl (0, 6, 232, 12)) := rfl
theorem sh_143 : SH[143]? = some (.inl (0, 6, 244, 12)) := rfl
theorem sh_144 : SH[144]? = some (.inl (1, 6, 256, 12)) := rfl
theorem sh_145 : SH[145]? = some (.inr (.inr (1, [.inl 146, .inl 147, .inl 148, .inl 149, .inl 150, .inl 151]))) := rfl
theorem sh_146 : SH[146]? = some (.inl (1, 6, 268, 6)) := rfl
theorem sh_147 : SH[147]? = some (.inl (0, 6, 274, 6)) := rfl
theorem sh_148 : SH[148]? = some (.inl (0, 6, 280, 6)) := rfl
theorem sh_149 : SH[149]? = some (.inl (0, 6, 286, 6)) := rfl
theorem sh_150 : SH[150]? = some (.inl (0, 6, 292, 6)) := rfl
theorem sh_151 : SH[151]? = some (.inl (1, 6, 298, 6)) := rfl
theorem sh_152 : SH[152]? = some (.inl (0, 6, 304, 4)) := rfl
theorem sh_153 : SH[153]? = some (.inl (0, 6, 308, 19)) := rfl
theorem sh_154 : SH[154]? = some (.inr (.inr (9, [.inl 155, .inl 156, .inl 157, .inl 158, .inr (164, 0), .inr (165, 0), .inr (166, 0), .inr (167, 0), .inr (168, 0), .inr (169, 0), .inr (170, 0), .inr (171, 0), .inr (172, 0), .inr (173, 0), .inl 159, .inl 160, .inl 161, .inl 162, .inl 163, .inl 164, .inl 165, .inl 166, .inl 167, .inl 168, .inl 169, .inl 170, .inl 171, .inl 172, .inl 173, .inr (189, 0), .inr (190, 0), .inr (191, 0), .inr (192, 0), .inl 174, .inl 175, .inl 176, .inr (196, 0)]))) := rfl
theorem sh_155 : SH[155]? = some (.inl (0, 7, 0, 331)) := rfl
theorem sh_156 : SH[156]? = some (.inl (0, 8, 0, 331)) := rfl
theorem sh_157 : SH[157]? = some (.inl (0, 9, 0, 331)) := rfl
theorem sh_158 : SH[158]? = some (.inl (2, 163, 0, 260)) := rfl
theorem sh_159 : SH[159]? = some (.inl (0, 174, 0, 260)) := rfl
theorem sh_160 : SH[160]? = some (.inl (0, 175, 0, 260)) := rfl
theorem sh_161 : SH[161]? = some (.inl (0, 176, 0, 16)) := rfl
theorem sh_162 : SH[162]? = some (.inl (0, 177, 0, 16)) := rfl
theorem sh_163 : SH[163]? = some (.inl (0, 178, 0, 16)) := rfl
theorem sh_164 : SH[164]? = some (.inl (0, 179, 0, 16)) := rfl
theorem sh_165 : SH[165]? = some (.inl (0, 180, 0, 260)) := rfl
theorem sh_166 : SH[166]? = some (.inl (0, 181, 0, 16)) := rfl
theorem sh_167 : SH[167]? = some (.inl (0, 182, 0, 16)) := rfl
theorem sh_168 : SH[168]? = some (.inl (0, 183, 0, 16)) := rfl
theorem sh_169 : SH[169]? = some (.inl (0, 184, 0, 16)) := rfl
theorem sh_170 : SH[170]? = some (.inl (0, 185, 0, 260)) := rfl
theorem sh_171 : SH[171]? = some (.inl (0, 186, 0, 15)) := rfl
theorem sh_172 : SH[172]? = some (.inl (0, 187, 0, 512)) := rfl
theorem sh_173 : SH[173]? = some (.inl (0, 188, 0, 9)) := rfl
theorem sh_174 : SH[174]? = some (.inl (0, 193, 0, 25)) := rfl
theorem sh_175 : SH[175]? = some (.inl (0, 194, 0, 25)) := rfl
theorem sh_176 : SH[176]? = some (.inl (0, 195, 0, 6)) := rfl
theorem shp_0 : ∀ p, p < 7 → SH[plc p + 0]? = some (.inr (.inr (6, [.inl (plc p + 1), .inl (plc p + 2), .inl (plc p + 9), .inl (plc p + 16), .inl (plc p + 17), .inr (p, 327), .inr (p, 328), .inr (p, 329), .inr (p, 330)]))) := x7 rfl rfl rfl rfl rfl rfl rfl
theorem shp_1 : ∀ p, p < 7 → SH[plc p + 1]? = some (.inl (0, p, 0, 196)) := x7 rfl rfl rfl rfl rfl rfl rfl
theorem shp_2 : ∀ p, p < 7 → SH[plc p + 2]? = some (.inr (.inr (2, [.inl (plc p + 3), .inl (plc p + 4), .inl (plc p + 5), .inl (plc p + 6), .inl (plc p + 7), .inl (plc p + 8)]))) := x7 rfl rfl rfl rfl rfl rfl rfl
theorem shp_3 : ∀ p, p < 7 → SH[plc p + 3]? = some (.inl (1, p, 196, 12)) := x7 rfl rfl rfl rfl rfl rfl rfl
theorem shp_4 : ∀ p, p < 7 → SH[plc p + 4]? = some (.inl (0, p, 208, 12)) := x7 rfl rfl rfl rfl rfl rfl rfl
theorem shp_5 : ∀ p, p < 7 → SH[plc p + 5]? = some (.inl (0, p, 220, 12)) := x7 rfl rfl rfl rfl rfl rfl rfl
theorem shp_6 : ∀ p, p < 7 → SH[plc p + 6]? = some (.inl (0, p, 232, 12)) := x7 rfl rfl rfl rfl rfl rfl rfl
theorem shp_7 : ∀ p, p < 7 → SH[plc p + 7]? = some (.inl (0, p, 244, 12)) := x7 rfl rfl rfl rfl rfl rfl rfl
theorem shp_8 : ∀ p, p < 7 → SH[plc p + 8]? = some (.inl (1, p, 256, 12)) := x7 rfl rfl rfl rfl rfl rfl rfl
theorem shp_9 : ∀ p, p < 7 → SH[plc p + 9]? = some (.inr (.inr (1, [.inl (plc p + 10), .inl (plc p + 11), .inl (plc p + 12), .inl (plc p + 13), .inl (plc p + 14), .inl (plc p + 15)]))) := x7 rfl rfl rfl rfl rfl rfl rfl
theorem shp_10 : ∀ p, p < 7 → SH[plc p + 10]? = some (.inl (1, p, 268, 6)) := x7 rfl rfl rfl rfl rfl rfl rfl
theorem shp_11 : ∀ p, p < 7 → SH[plc p + 11]? = some (.inl (0, p, 274, 6)) := x7 rfl rfl rfl rfl rfl rfl rfl
theorem shp_12 : ∀ p, p < 7 → SH[plc p + 12]? = some (.inl (0, p, 280, 6)) := x7 rfl rfl rfl rfl rfl rfl rfl
theorem shp_13 : ∀ p, p < 7 → SH[plc p + 13]? = some (.inl (0, p, 286, 6)) := x7 rfl rfl rfl rfl rfl rfl rfl
theorem shp_14 : ∀ p, p < 7 → SH[plc p + 14]? = some (.inl (0, p, 292, 6)) := x7 rfl rfl rfl rfl rfl rfl rfl
theorem shp_15 : ∀ p, p < 7 → SH[plc p + 15]? = some (.inl (1, p, 298, 6)) := x7 rfl rfl rfl rfl rfl rfl rfl
theorem shp_16 : ∀ p, p < 7 → SH[plc p + 16]? = some (.inl (0, p, 304, 4)) := x7 rfl rfl rfl rfl rfl rfl rfl
theorem shp_17 : ∀ p, p < 7 → SH[plc p + 17]? = some (.inl (0, p, 308, 19)) := x7 rfl rfl rfl rfl rfl rfl rfl
