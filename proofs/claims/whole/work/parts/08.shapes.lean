/-! the world: its cells by number -/
def SH : List Shp := [.inr (11, [.inr 0, .inr 1, .inr 1, .inl (1), .inl (5), .inl (7), .inl (11), .inl (16), .inl (21), .inl (28), .inl (30), .inl (32), .inl (37), .inl (39), .inl (46), .inl (59), .inr 0]), .inr (7, [.inl (2), .inl (3), .inl (4)]), .inl (1, 240, []), .inl (0, 4, []), .inl (0, 4, []), .inr (6, [.inl (6), .inr 0, .inr 0, .inr 0, .inr 0, .inr 0, .inr 0, .inr 0, .inr 0]), .inl (0, 600, []), .inr (5, [.inr 0, .inr 0, .inr 0, .inr 0, .inr 0, .inr 0, .inr 0, .inl (8), .inl (9), .inl (10), .inr 1, .inr 0, .inr 0, .inr 0, .inr 0, .inr 0]), .inl (0, 6, []), .inl (0, 64, []), .inl (0, 64, []), .inr (8, [.inr 0, .inr 0, .inl (12), .inl (13), .inl (14), .inl (15)]), .inl (0, 60, []), .inl (0, 60, []), .inl (0, 60, []), .inl (0, 60, []), .inr (0, [.inl (5), .inl (17), .inr 0]), .inr (5, [.inr 0, .inr 0, .inr 0, .inr 0, .inr 0, .inr 0, .inr 0, .inl (18), .inl (19), .inl (20), .inr 1, .inr 0, .inr 0, .inr 0, .inr 0, .inr 0]), .inl (0, 6, []), .inl (0, 64, []), .inl (0, 64, []), .inr (9, [.inl (5), .inl (22), .inl (27), .inr 0]), .inr (8, [.inr 0, .inr 0, .inl (23), .inl (24), .inl (25), .inl (26)]), .inl (0, 60, []), .inl (0, 60, []), .inl (0, 60, []), .inl (0, 60, []), .inl (0, 3, []), .inr (3, [.inl (29), .inr 0, .inr 0, .inr 0, .inr 0, .inr 0, .inr 0]), .inl (1, 488, []), .inr (1, [.inl (31), .inr 0, .inr 1]), .inl (1, 72, []), .inr (2, [.inl (33), .inl (34), .inl (35), .inr 0, .inr 0, .inr 0, .inr 0, .inr 0, .inl (36), .inr 0, .inr 0]), .inl (0, 5, []), .inl (0, 5, []), .inl (0, 5, []), .inl (0, 5, []), .inr (4, [.inl (38), .inr 0, .inr 0, .inr 0]), .inl (0, 60, []), .inr (10, [.inl (40), .inl (41), .inl (42), .inr 0, .inr 0, .inr 0, .inr 0, .inr 0, .inr 0, .inl (43), .inl (44), .inl (45), .inr 0, .inr 0]), .inl (0, 10, []), .inl (0, 1024, []), .inl (0, 8, []), .inl (0, 64, []), .inl (0, 64, []), .inl (0, 64, []), .inl (3, 3, [47, 51, 55]), .inr (5, [.inr 0, .inr 0, .inr 0, .inr 0, .inr 0, .inr 0, .inr 0, .inl (48), .inl (49), .inl (50), .inr 1, .inr 0, .inr 0, .inr 0, .inr 0, .inr 0]), .inl (0, 6, []), .inl (0, 64, []), .inl (0, 64, []), .inr (5, [.inr 0, .inr 0, .inr 0, .inr 0, .inr 0, .inr 0, .inr 0, .inl (52), .inl (53), .inl (54), .inr 1, .inr 0, .inr 0, .inr 0, .inr 0, .inr 0]), .inl (0, 6, []), .inl (0, 64, []), .inl (0, 64, []), .inr (5, [.inr 0, .inr 0, .inr 0, .inr 0, .inr 0, .inr 0, .inr 0, .inl (56), .inl (57), .inl (58), .inr 1, .inr 0, .inr 0, .inr 0, .inr 0, .inr 0]), .inl (0, 6, []), .inl (0, 64, []), .inl (0, 64, []), .inl (4, 3, [60, 65, 70]), .inr (8, [.inr 0, .inr 0, .inl (61), .inl (62), .inl (63), .inl (64)]), .inl (0, 60, []), .inl (0, 60, []), .inl (0, 60, []), .inl (0, 60, []), .inr (8, [.inr 0, .inr 0, .inl (66), .inl (67), .inl (68), .inl (69)]), .inl (0, 60, []), .inl (0, 60, []), .inl (0, 60, []), .inl (0, 60, []), .inr (8, [.inr 0, .inr 0, .inl (71), .inl (72), .inl (73), .inl (74)]), .inl (0, 60, []), .inl (0, 60, []), .inl (0, 60, []), .inl (0, 60, []), .inr (12, [.inl (76), .inr 0, .inr 1, .inr 1, .inl (77), .inl (78), .inl (79), .inl (80), .inl (81), .inr 0, .inr 0, .inr 0, .inr 0, .inr 0, .inr 0, .inr 0, .inr 0, .inr 0, .inr 0, .inl (82), .inl (83), .inr 0, .inr 0, .inr 0, .inr 0, .inr 0, .inr 0, .inr 0, .inr 0, .inl (84), .inl (85), .inl (86), .inl (87), .inr 0, .inl (88), .inr 0, .inr 0, .inr 0, .inr 0, .inr 0, .inl (89), .inl (90), .inl (91), .inl (92), .inr 0, .inr 0, .inr 0, .inr 0, .inr 0, .inr 0, .inr 0, .inl (93), .inl (94), .inl (95), .inl (96), .inl (97), .inr 0, .inr 0]), .inl (0, 2900, []), .inl (0, 4, []), .inl (0, 4, []), .inl (1, 240, []), .inl (2, 600, []), .inl (2, 600, []), .inl (0, 3, []), .inl (0, 60, []), .inl (1, 64, []), .inl (1, 8, []), .inl (1, 256, []), .inl (0, 8, []), .inl (0, 3904, []), .inl (0, 5, []), .inl (0, 5, []), .inl (0, 5, []), .inl (0, 5, []), .inl (0, 64, []), .inl (0, 64, []), .inl (0, 64, []), .inl (0, 9216, []), .inl (0, 8, [])]
theorem sh_0 {G : Gw} (hG : gom G = SH) : (gom G)[0]? = some (.inr (11, [.inr 0, .inr 1, .inr 1, .inl (1), .inl (5), .inl (7), .inl (11), .inl (16), .inl (21), .inl (28), .inl (30), .inl (32), .inl (37), .inl (39), .inl (46), .inl (59), .inr 0])) := by rw [hG]; rfl
theorem sh_1 {G : Gw} (hG : gom G = SH) : (gom G)[1]? = some (.inr (7, [.inl (2), .inl (3), .inl (4)])) := by rw [hG]; rfl
theorem sh_2 {G : Gw} (hG : gom G = SH) : (gom G)[2]? = some (.inl (1, 240, [])) := by rw [hG]; rfl
theorem sh_3 {G : Gw} (hG : gom G = SH) : (gom G)[3]? = some (.inl (0, 4, [])) := by rw [hG]; rfl
theorem sh_4 {G : Gw} (hG : gom G = SH) : (gom G)[4]? = some (.inl (0, 4, [])) := by rw [hG]; rfl
theorem sh_5 {G : Gw} (hG : gom G = SH) : (gom G)[5]? = some (.inr (6, [.inl (6), .inr 0, .inr 0, .inr 0, .inr 0, .inr 0, .inr 0, .inr 0, .inr 0])) := by rw [hG]; rfl
theorem sh_6 {G : Gw} (hG : gom G = SH) : (gom G)[6]? = some (.inl (0, 600, [])) := by rw [hG]; rfl
theorem sh_7 {G : Gw} (hG : gom G = SH) : (gom G)[7]? = some (.inr (5, [.inr 0, .inr 0, .inr 0, .inr 0, .inr 0, .inr 0, .inr 0, .inl (8), .inl (9), .inl (10), .inr 1, .inr 0, .inr 0, .inr 0, .inr 0, .inr 0])) := by rw [hG]; rfl
theorem sh_8 {G : Gw} (hG : gom G = SH) : (gom G)[8]? = some (.inl (0, 6, [])) := by rw [hG]; rfl
theorem sh_9 {G : Gw} (hG : gom G = SH) : (gom G)[9]? = some (.inl (0, 64, [])) := by rw [hG]; rfl
theorem sh_10 {G : Gw} (hG : gom G = SH) : (gom G)[10]? = some (.inl (0, 64, [])) := by rw [hG]; rfl
theorem sh_11 {G : Gw} (hG : gom G = SH) : (gom G)[11]? = some (.inr (8, [.inr 0, .inr 0, .inl (12), .inl (13), .inl (14), .inl (15)])) := by rw [hG]; rfl
theorem sh_12 {G : Gw} (hG : gom G = SH) : (gom G)[12]? = some (.inl (0, 60, [])) := by rw [hG]; rfl
theorem sh_13 {G : Gw} (hG : gom G = SH) : (gom G)[13]? = some (.inl (0, 60, [])) := by rw [hG]; rfl
theorem sh_14 {G : Gw} (hG : gom G = SH) : (gom G)[14]? = some (.inl (0, 60, [])) := by rw [hG]; rfl
theorem sh_15 {G : Gw} (hG : gom G = SH) : (gom G)[15]? = some (.inl (0, 60, [])) := by rw [hG]; rfl
theorem sh_16 {G : Gw} (hG : gom G = SH) : (gom G)[16]? = some (.inr (0, [.inl (5), .inl (17), .inr 0])) := by rw [hG]; rfl
theorem sh_17 {G : Gw} (hG : gom G = SH) : (gom G)[17]? = some (.inr (5, [.inr 0, .inr 0, .inr 0, .inr 0, .inr 0, .inr 0, .inr 0, .inl (18), .inl (19), .inl (20), .inr 1, .inr 0, .inr 0, .inr 0, .inr 0, .inr 0])) := by rw [hG]; rfl
theorem sh_18 {G : Gw} (hG : gom G = SH) : (gom G)[18]? = some (.inl (0, 6, [])) := by rw [hG]; rfl
theorem sh_19 {G : Gw} (hG : gom G = SH) : (gom G)[19]? = some (.inl (0, 64, [])) := by rw [hG]; rfl
theorem sh_20 {G : Gw} (hG : gom G = SH) : (gom G)[20]? = some (.inl (0, 64, [])) := by rw [hG]; rfl
theorem sh_21 {G : Gw} (hG : gom G = SH) : (gom G)[21]? = some (.inr (9, [.inl (5), .inl (22), .inl (27), .inr 0])) := by rw [hG]; rfl
theorem sh_22 {G : Gw} (hG : gom G = SH) : (gom G)[22]? = some (.inr (8, [.inr 0, .inr 0, .inl (23), .inl (24), .inl (25), .inl (26)])) := by rw [hG]; rfl
theorem sh_23 {G : Gw} (hG : gom G = SH) : (gom G)[23]? = some (.inl (0, 60, [])) := by rw [hG]; rfl
theorem sh_24 {G : Gw} (hG : gom G = SH) : (gom G)[24]? = some (.inl (0, 60, [])) := by rw [hG]; rfl
theorem sh_25 {G : Gw} (hG : gom G = SH) : (gom G)[25]? = some (.inl (0, 60, [])) := by rw [hG]; rfl
theorem sh_26 {G : Gw} (hG : gom G = SH) : (gom G)[26]? = some (.inl (0, 60, [])) := by rw [hG]; rfl
theorem sh_27 {G : Gw} (hG : gom G = SH) : (gom G)[27]? = some (.inl (0, 3, [])) := by rw [hG]; rfl
theorem sh_28 {G : Gw} (hG : gom G = SH) : (gom G)[28]? = some (.inr (3, [.inl (29), .inr 0, .inr 0, .inr 0, .inr 0, .inr 0, .inr 0])) := by rw [hG]; rfl
theorem sh_29 {G : Gw} (hG : gom G = SH) : (gom G)[29]? = some (.inl (1, 488, [])) := by rw [hG]; rfl
theorem sh_30 {G : Gw} (hG : gom G = SH) : (gom G)[30]? = some (.inr (1, [.inl (31), .inr 0, .inr 1])) := by rw [hG]; rfl
theorem sh_31 {G : Gw} (hG : gom G = SH) : (gom G)[31]? = some (.inl (1, 72, [])) := by rw [hG]; rfl
theorem sh_32 {G : Gw} (hG : gom G = SH) : (gom G)[32]? = some (.inr (2, [.inl (33), .inl (34), .inl (35), .inr 0, .inr 0, .inr 0, .inr 0, .inr 0, .inl (36), .inr 0, .inr 0])) := by rw [hG]; rfl
theorem sh_33 {G : Gw} (hG : gom G = SH) : (gom G)[33]? = some (.inl (0, 5, [])) := by rw [hG]; rfl
theorem sh_34 {G : Gw} (hG : gom G = SH) : (gom G)[34]? = some (.inl (0, 5, [])) := by rw [hG]; rfl
theorem sh_35 {G : Gw} (hG : gom G = SH) : (gom G)[35]? = some (.inl (0, 5, [])) := by rw [hG]; rfl
theorem sh_36 {G : Gw} (hG : gom G = SH) : (gom G)[36]? = some (.inl (0, 5, [])) := by rw [hG]; rfl
theorem sh_37 {G : Gw} (hG : gom G = SH) : (gom G)[37]? = some (.inr (4, [.inl (38), .inr 0, .inr 0, .inr 0])) := by rw [hG]; rfl
theorem sh_38 {G : Gw} (hG : gom G = SH) : (gom G)[38]? = some (.inl (0, 60, [])) := by rw [hG]; rfl
theorem sh_39 {G : Gw} (hG : gom G = SH) : (gom G)[39]? = some (.inr (10, [.inl (40), .inl (41), .inl (42), .inr 0, .inr 0, .inr 0, .inr 0, .inr 0, .inr 0, .inl (43), .inl (44), .inl (45), .inr 0, .inr 0])) := by rw [hG]; rfl
theorem sh_40 {G : Gw} (hG : gom G = SH) : (gom G)[40]? = some (.inl (0, 10, [])) := by rw [hG]; rfl
theorem sh_41 {G : Gw} (hG : gom G = SH) : (gom G)[41]? = some (.inl (0, 1024, [])) := by rw [hG]; rfl
theorem sh_42 {G : Gw} (hG : gom G = SH) : (gom G)[42]? = some (.inl (0, 8, [])) := by rw [hG]; rfl
theorem sh_43 {G : Gw} (hG : gom G = SH) : (gom G)[43]? = some (.inl (0, 64, [])) := by rw [hG]; rfl
theorem sh_44 {G : Gw} (hG : gom G = SH) : (gom G)[44]? = some (.inl (0, 64, [])) := by rw [hG]; rfl
theorem sh_45 {G : Gw} (hG : gom G = SH) : (gom G)[45]? = some (.inl (0, 64, [])) := by rw [hG]; rfl
theorem sh_46 {G : Gw} (hG : gom G = SH) : (gom G)[46]? = some (.inl (3, 3, [47, 51, 55])) := by rw [hG]; rfl
theorem sh_47 {G : Gw} (hG : gom G = SH) : (gom G)[47]? = some (.inr (5, [.inr 0, .inr 0, .inr 0, .inr 0, .inr 0, .inr 0, .inr 0, .inl (48), .inl (49), .inl (50), .inr 1, .inr 0, .inr 0, .inr 0, .inr 0, .inr 0])) := by rw [hG]; rfl
theorem sh_48 {G : Gw} (hG : gom G = SH) : (gom G)[48]? = some (.inl (0, 6, [])) := by rw [hG]; rfl
theorem sh_49 {G : Gw} (hG : gom G = SH) : (gom G)[49]? = some (.inl (0, 64, [])) := by rw [hG]; rfl
theorem sh_50 {G : Gw} (hG : gom G = SH) : (gom G)[50]? = some (.inl (0, 64, [])) := by rw [hG]; rfl
theorem sh_51 {G : Gw} (hG : gom G = SH) : (gom G)[51]? = some (.inr (5, [.inr 0, .inr 0, .inr 0, .inr 0, .inr 0, .inr 0, .inr 0, .inl (52), .inl (53), .inl (54), .inr 1, .inr 0, .inr 0, .inr 0, .inr 0, .inr 0])) := by rw [hG]; rfl
theorem sh_52 {G : Gw} (hG : gom G = SH) : (gom G)[52]? = some (.inl (0, 6, [])) := by rw [hG]; rfl
theorem sh_53 {G : Gw} (hG : gom G = SH) : (gom G)[53]? = some (.inl (0, 64, [])) := by rw [hG]; rfl
theorem sh_54 {G : Gw} (hG : gom G = SH) : (gom G)[54]? = some (.inl (0, 64, [])) := by rw [hG]; rfl
theorem sh_55 {G : Gw} (hG : gom G = SH) : (gom G)[55]? = some (.inr (5, [.inr 0, .inr 0, .inr 0, .inr 0, .inr 0, .inr 0, .inr 0, .inl (56), .inl (57), .inl (58), .inr 1, .inr 0, .inr 0, .inr 0, .inr 0, .inr 0])) := by rw [hG]; rfl
theorem sh_56 {G : Gw} (hG : gom G = SH) : (gom G)[56]? = some (.inl (0, 6, [])) := by rw [hG]; rfl
theorem sh_57 {G : Gw} (hG : gom G = SH) : (gom G)[57]? = some (.inl (0, 64, [])) := by rw [hG]; rfl
theorem sh_58 {G : Gw} (hG : gom G = SH) : (gom G)[58]? = some (.inl (0, 64, [])) := by rw [hG]; rfl
theorem sh_59 {G : Gw} (hG : gom G = SH) : (gom G)[59]? = some (.inl (4, 3, [60, 65, 70])) := by rw [hG]; rfl
theorem sh_60 {G : Gw} (hG : gom G = SH) : (gom G)[60]? = some (.inr (8, [.inr 0, .inr 0, .inl (61), .inl (62), .inl (63), .inl (64)])) := by rw [hG]; rfl
theorem sh_61 {G : Gw} (hG : gom G = SH) : (gom G)[61]? = some (.inl (0, 60, [])) := by rw [hG]; rfl
theorem sh_62 {G : Gw} (hG : gom G = SH) : (gom G)[62]? = some (.inl (0, 60, [])) := by rw [hG]; rfl
theorem sh_63 {G : Gw} (hG : gom G = SH) : (gom G)[63]? = some (.inl (0, 60, [])) := by rw [hG]; rfl
theorem sh_64 {G : Gw} (hG : gom G = SH) : (gom G)[64]? = some (.inl (0, 60, [])) := by rw [hG]; rfl
theorem sh_65 {G : Gw} (hG : gom G = SH) : (gom G)[65]? = some (.inr (8, [.inr 0, .inr 0, .inl (66), .inl (67), .inl (68), .inl (69)])) := by rw [hG]; rfl
theorem sh_66 {G : Gw} (hG : gom G = SH) : (gom G)[66]? = some (.inl (0, 60, [])) := by rw [hG]; rfl
theorem sh_67 {G : Gw} (hG : gom G = SH) : (gom G)[67]? = some (.inl (0, 60, [])) := by rw [hG]; rfl
theorem sh_68 {G : Gw} (hG : gom G = SH) : (gom G)[68]? = some (.inl (0, 60, [])) := by rw [hG]; rfl
theorem sh_69 {G : Gw} (hG : gom G = SH) : (gom G)[69]? = some (.inl (0, 60, [])) := by rw [hG]; rfl
theorem sh_70 {G : Gw} (hG : gom G = SH) : (gom G)[70]? = some (.inr (8, [.inr 0, .inr 0, .inl (71), .inl (72), .inl (73), .inl (74)])) := by rw [hG]; rfl
theorem sh_71 {G : Gw} (hG : gom G = SH) : (gom G)[71]? = some (.inl (0, 60, [])) := by rw [hG]; rfl
theorem sh_72 {G : Gw} (hG : gom G = SH) : (gom G)[72]? = some (.inl (0, 60, [])) := by rw [hG]; rfl
theorem sh_73 {G : Gw} (hG : gom G = SH) : (gom G)[73]? = some (.inl (0, 60, [])) := by rw [hG]; rfl
theorem sh_74 {G : Gw} (hG : gom G = SH) : (gom G)[74]? = some (.inl (0, 60, [])) := by rw [hG]; rfl
theorem sh_75 {G : Gw} (hG : gom G = SH) : (gom G)[75]? = some (.inr (12, [.inl (76), .inr 0, .inr 1, .inr 1, .inl (77), .inl (78), .inl (79), .inl (80), .inl (81), .inr 0, .inr 0, .inr 0, .inr 0, .inr 0, .inr 0, .inr 0, .inr 0, .inr 0, .inr 0, .inl (82), .inl (83), .inr 0, .inr 0, .inr 0, .inr 0, .inr 0, .inr 0, .inr 0, .inr 0, .inl (84), .inl (85), .inl (86), .inl (87), .inr 0, .inl (88), .inr 0, .inr 0, .inr 0, .inr 0, .inr 0, .inl (89), .inl (90), .inl (91), .inl (92), .inr 0, .inr 0, .inr 0, .inr 0, .inr 0, .inr 0, .inr 0, .inl (93), .inl (94), .inl (95), .inl (96), .inl (97), .inr 0, .inr 0])) := by rw [hG]; rfl
theorem sh_76 {G : Gw} (hG : gom G = SH) : (gom G)[76]? = some (.inl (0, 2900, [])) := by rw [hG]; rfl
theorem sh_77 {G : Gw} (hG : gom G = SH) : (gom G)[77]? = some (.inl (0, 4, [])) := by rw [hG]; rfl
theorem sh_78 {G : Gw} (hG : gom G = SH) : (gom G)[78]? = some (.inl (0, 4, [])) := by rw [hG]; rfl
theorem sh_79 {G : Gw} (hG : gom G = SH) : (gom G)[79]? = some (.inl (1, 240, [])) := by rw [hG]; rfl
theorem sh_80 {G : Gw} (hG : gom G = SH) : (gom G)[80]? = some (.inl (2, 600, [])) := by rw [hG]; rfl
theorem sh_81 {G : Gw} (hG : gom G = SH) : (gom G)[81]? = some (.inl (2, 600, [])) := by rw [hG]; rfl
theorem sh_82 {G : Gw} (hG : gom G = SH) : (gom G)[82]? = some (.inl (0, 3, [])) := by rw [hG]; rfl
theorem sh_83 {G : Gw} (hG : gom G = SH) : (gom G)[83]? = some (.inl (0, 60, [])) := by rw [hG]; rfl
theorem sh_84 {G : Gw} (hG : gom G = SH) : (gom G)[84]? = some (.inl (1, 64, [])) := by rw [hG]; rfl
theorem sh_85 {G : Gw} (hG : gom G = SH) : (gom G)[85]? = some (.inl (1, 8, [])) := by rw [hG]; rfl
theorem sh_86 {G : Gw} (hG : gom G = SH) : (gom G)[86]? = some (.inl (1, 256, [])) := by rw [hG]; rfl
theorem sh_87 {G : Gw} (hG : gom G = SH) : (gom G)[87]? = some (.inl (0, 8, [])) := by rw [hG]; rfl
theorem sh_88 {G : Gw} (hG : gom G = SH) : (gom G)[88]? = some (.inl (0, 3904, [])) := by rw [hG]; rfl
theorem sh_89 {G : Gw} (hG : gom G = SH) : (gom G)[89]? = some (.inl (0, 5, [])) := by rw [hG]; rfl
theorem sh_90 {G : Gw} (hG : gom G = SH) : (gom G)[90]? = some (.inl (0, 5, [])) := by rw [hG]; rfl
theorem sh_91 {G : Gw} (hG : gom G = SH) : (gom G)[91]? = some (.inl (0, 5, [])) := by rw [hG]; rfl
theorem sh_92 {G : Gw} (hG : gom G = SH) : (gom G)[92]? = some (.inl (0, 5, [])) := by rw [hG]; rfl
theorem sh_93 {G : Gw} (hG : gom G = SH) : (gom G)[93]? = some (.inl (0, 64, [])) := by rw [hG]; rfl
theorem sh_94 {G : Gw} (hG : gom G = SH) : (gom G)[94]? = some (.inl (0, 64, [])) := by rw [hG]; rfl
theorem sh_95 {G : Gw} (hG : gom G = SH) : (gom G)[95]? = some (.inl (0, 64, [])) := by rw [hG]; rfl
theorem sh_96 {G : Gw} (hG : gom G = SH) : (gom G)[96]? = some (.inl (0, 9216, [])) := by rw [hG]; rfl
theorem sh_97 {G : Gw} (hG : gom G = SH) : (gom G)[97]? = some (.inl (0, 8, [])) := by rw [hG]; rfl
def ShS (G : Gw) (c : Nat) : Prop := (gom G)[c]? = some (.inr (5, [.inr 0, .inr 0, .inr 0, .inr 0, .inr 0, .inr 0, .inr 0, .inl (c + 1), .inl (c + 2), .inl (c + 3), .inr 1, .inr 0, .inr 0, .inr 0, .inr 0, .inr 0])) ∧ (gom G)[c + 1]? = some (.inl (0, 6, [])) ∧ (gom G)[c + 2]? = some (.inl (0, 64, [])) ∧ (gom G)[c + 3]? = some (.inl (0, 64, []))
def ShW (G : Gw) (c : Nat) : Prop := (gom G)[c]? = some (.inr (8, [.inr 0, .inr 0, .inl (c + 1), .inl (c + 2), .inl (c + 3), .inl (c + 4)])) ∧ (gom G)[c + 1]? = some (.inl (0, 60, [])) ∧ (gom G)[c + 2]? = some (.inl (0, 60, [])) ∧ (gom G)[c + 3]? = some (.inl (0, 60, [])) ∧ (gom G)[c + 4]? = some (.inl (0, 60, []))
theorem shS_7 {G : Gw} (hG : gom G = SH) : ShS G 7 := ⟨sh_7 hG, sh_8 hG, sh_9 hG, sh_10 hG⟩
theorem shW_11 {G : Gw} (hG : gom G = SH) : ShW G 11 := ⟨sh_11 hG, sh_12 hG, sh_13 hG, sh_14 hG, sh_15 hG⟩
theorem shS_17 {G : Gw} (hG : gom G = SH) : ShS G 17 := ⟨sh_17 hG, sh_18 hG, sh_19 hG, sh_20 hG⟩
theorem shW_22 {G : Gw} (hG : gom G = SH) : ShW G 22 := ⟨sh_22 hG, sh_23 hG, sh_24 hG, sh_25 hG, sh_26 hG⟩
theorem shS_47 {G : Gw} (hG : gom G = SH) : ShS G 47 := ⟨sh_47 hG, sh_48 hG, sh_49 hG, sh_50 hG⟩
theorem shS_51 {G : Gw} (hG : gom G = SH) : ShS G 51 := ⟨sh_51 hG, sh_52 hG, sh_53 hG, sh_54 hG⟩
theorem shS_55 {G : Gw} (hG : gom G = SH) : ShS G 55 := ⟨sh_55 hG, sh_56 hG, sh_57 hG, sh_58 hG⟩
theorem shW_60 {G : Gw} (hG : gom G = SH) : ShW G 60 := ⟨sh_60 hG, sh_61 hG, sh_62 hG, sh_63 hG, sh_64 hG⟩
theorem shW_65 {G : Gw} (hG : gom G = SH) : ShW G 65 := ⟨sh_65 hG, sh_66 hG, sh_67 hG, sh_68 hG, sh_69 hG⟩
theorem shW_70 {G : Gw} (hG : gom G = SH) : ShW G 70 := ⟨sh_70 hG, sh_71 hG, sh_72 hG, sh_73 hG, sh_74 hG⟩
def ShM (G : Gw) (c : Nat) (ks : List (Nat ⊕ Nat)) : Prop := (gom G)[c]? = some (.inr (12, ks)) ∧ ks[0]? = some (.inl (c + 1)) ∧ (gom G)[c + 1]? = some (.inl (0, 2900, []))
theorem shM_75 {G : Gw} (hG : gom G = SH) : ShM G 75 [.inl (76), .inr 0, .inr 1, .inr 1, .inl (77), .inl (78), .inl (79), .inl (80), .inl (81), .inr 0, .inr 0, .inr 0, .inr 0, .inr 0, .inr 0, .inr 0, .inr 0, .inr 0, .inr 0, .inl (82), .inl (83), .inr 0, .inr 0, .inr 0, .inr 0, .inr 0, .inr 0, .inr 0, .inr 0, .inl (84), .inl (85), .inl (86), .inl (87), .inr 0, .inl (88), .inr 0, .inr 0, .inr 0, .inr 0, .inr 0, .inl (89), .inl (90), .inl (91), .inl (92), .inr 0, .inr 0, .inr 0, .inr 0, .inr 0, .inr 0, .inr 0, .inl (93), .inl (94), .inl (95), .inl (96), .inl (97), .inr 0, .inr 0] := ⟨sh_75 hG, rfl, sh_76 hG⟩
def FU : Nat := 20000
theorem FU_eq : FU = 20000 := rfl
theorem wl_m1 : w32 (-1) = (-1) := by decide +kernel
theorem wl_0 : w32 0 = 0 := by decide +kernel
theorem wl_1 : w32 1 = 1 := by decide +kernel
theorem wl_2 : w32 2 = 2 := by decide +kernel
theorem wl_3 : w32 3 = 3 := by decide +kernel
theorem wl_4 : w32 4 = 4 := by decide +kernel
theorem wl_5 : w32 5 = 5 := by decide +kernel
theorem wl_6 : w32 6 = 6 := by decide +kernel
theorem wl_7 : w32 7 = 7 := by decide +kernel
theorem wl_8 : w32 8 = 8 := by decide +kernel
theorem wl_9 : w32 9 = 9 := by decide +kernel
theorem wl_10 : w32 10 = 10 := by decide +kernel
theorem wl_11 : w32 11 = 11 := by decide +kernel
theorem wl_14 : w32 14 = 14 := by decide +kernel
theorem wl_20 : w32 20 = 20 := by decide +kernel
theorem wl_30 : w32 30 = 30 := by decide +kernel
theorem wl_32 : w32 32 = 32 := by decide +kernel
theorem wl_40 : w32 40 = 40 := by decide +kernel
theorem wl_48 : w32 48 = 48 := by decide +kernel
theorem wl_50 : w32 50 = 50 := by decide +kernel
theorem wl_57 : w32 57 = 57 := by decide +kernel
theorem wl_59 : w32 59 = 59 := by decide +kernel
theorem wl_60 : w32 60 = 60 := by decide +kernel
theorem wl_64 : w32 64 = 64 := by decide +kernel
theorem wl_72 : w32 72 = 72 := by decide +kernel
theorem wl_97 : w32 97 = 97 := by decide +kernel
theorem wl_99 : w32 99 = 99 := by decide +kernel
theorem wl_100 : w32 100 = 100 := by decide +kernel
theorem wl_122 : w32 122 = 122 := by decide +kernel
theorem wl_200 : w32 200 = 200 := by decide +kernel
theorem wl_208 : w32 208 = 208 := by decide +kernel
theorem wl_240 : w32 240 = 240 := by decide +kernel
theorem wl_300 : w32 300 = 300 := by decide +kernel
theorem wl_488 : w32 488 = 488 := by decide +kernel
theorem wl_580 : w32 580 = 580 := by decide +kernel
theorem wl_600 : w32 600 = 600 := by decide +kernel
theorem wl_999 : w32 999 = 999 := by decide +kernel
theorem wl_1024 : w32 1024 = 1024 := by decide +kernel
theorem wl_2000 : w32 2000 = 2000 := by decide +kernel
theorem wl_2320 : w32 2320 = 2320 := by decide +kernel
theorem wl_2321 : w32 2321 = 2321 := by decide +kernel
theorem wl_2326 : w32 2326 = 2326 := by decide +kernel
theorem wl_2334 : w32 2334 = 2334 := by decide +kernel
theorem wl_9999 : w32 9999 = 9999 := by decide +kernel
theorem wl_65536 : w32 65536 = 65536 := by decide +kernel
theorem wl_1073741824 : w32 1073741824 = 1073741824 := by decide +kernel
theorem wm_0 : w64 0 = 0 := by decide +kernel
theorem wm_1 : w64 1 = 1 := by decide +kernel
theorem wm_8 : w64 8 = 8 := by decide +kernel
theorem wm_64 : w64 64 = 64 := by decide +kernel
theorem wm_1000 : w64 1000 = 1000 := by decide +kernel
theorem ly_X0 : ∀ k, k < 3 → u_lay RX0 TX0 k ∈ wt
  | 0, _ => mw_1_212
  | 1, _ => mw_1_214
  | 2, _ => mw_1_216
  | n + 3, h => absurd h (by omega)
theorem in_X0 : ∀ w ∈ u_ws RX0 TX0 3, w ∈ wt := fun w h => by
  obtain ⟨k, hk, e⟩ := List.mem_map.mp h
  rw [← e]; exact ly_X0 k (List.mem_range.mp hk)
theorem cf_X0 : CF 0 := ⟨RX0, TX0, 3, tyX0, rfl, tyX0_ok, nmX0⟩
theorem ly_X1 : ∀ k, k < 3 → u_lay RX1 TX1 k ∈ wt
  | 0, _ => mw_2_42
  | 1, _ => mw_2_44
  | 2, _ => mw_2_46
  | n + 3, h => absurd h (by omega)
theorem in_X1 : ∀ w ∈ u_ws RX1 TX1 3, w ∈ wt := fun w h => by
  obtain ⟨k, hk, e⟩ := List.mem_map.mp h
  rw [← e]; exact ly_X1 k (List.mem_range.mp hk)
theorem cf_X1 : CF 1 := ⟨RX1, TX1, 3, tyX1, rfl, tyX1_ok, nmX1⟩
theorem ly_X2 : ∀ k, k < 11 → u_lay RX2 TX2 k ∈ wt
  | 0, _ => mw_2_71
  | 1, _ => mw_2_73
  | 2, _ => mw_2_75
  | 3, _ => mw_2_77
  | 4, _ => mw_2_79
  | 5, _ => mw_2_81
  | 6, _ => mw_2_83
  | 7, _ => mw_2_85
  | 8, _ => mw_2_87
  | 9, _ => mw_2_89
  | 10, _ => mw_2_91
  | n + 11, h => absurd h (by omega)
theorem in_X2 : ∀ w ∈ u_ws RX2 TX2 11, w ∈ wt := fun w h => by
  obtain ⟨k, hk, e⟩ := List.mem_map.mp h
  rw [← e]; exact ly_X2 k (List.mem_range.mp hk)
theorem cf_X2 : CF 2 := ⟨RX2, TX2, 11, tyX2, rfl, tyX2_ok, nmX2⟩
theorem ly_X3 : ∀ k, k < 7 → u_lay RX3 TX3 k ∈ wt
  | 0, _ => mw_2_17
  | 1, _ => mw_2_19
  | 2, _ => mw_2_21
  | 3, _ => mw_2_23
  | 4, _ => mw_2_25
  | 5, _ => mw_2_27
  | 6, _ => mw_2_29
  | n + 7, h => absurd h (by omega)
theorem in_X3 : ∀ w ∈ u_ws RX3 TX3 7, w ∈ wt := fun w h => by
  obtain ⟨k, hk, e⟩ := List.mem_map.mp h
  rw [← e]; exact ly_X3 k (List.mem_range.mp hk)
theorem cf_X3 : CF 3 := ⟨RX3, TX3, 7, tyX3, rfl, tyX3_ok, nmX3⟩
theorem ly_X4 : ∀ k, k < 4 → u_lay RX4 TX4 k ∈ wt
  | 0, _ => mw_2_107
  | 1, _ => mw_2_109
  | 2, _ => mw_2_111
  | 3, _ => mw_2_113
  | n + 4, h => absurd h (by omega)
theorem in_X4 : ∀ w ∈ u_ws RX4 TX4 4, w ∈ wt := fun w h => by
  obtain ⟨k, hk, e⟩ := List.mem_map.mp h
  rw [← e]; exact ly_X4 k (List.mem_range.mp hk)
theorem cf_X4 : CF 4 := ⟨RX4, TX4, 4, tyX4, rfl, tyX4_ok, nmX4⟩
theorem ly_X5 : ∀ k, k < 16 → u_lay RX5 TX5 k ∈ wt
  | 0, _ => mw_1_138
  | 1, _ => mw_1_140
  | 2, _ => mw_1_142
  | 3, _ => mw_1_144
  | 4, _ => mw_1_146
  | 5, _ => mw_1_148
  | 6, _ => mw_1_150
  | 7, _ => mw_1_152
  | 8, _ => mw_1_154
  | 9, _ => mw_1_156
  | 10, _ => mw_1_158
  | 11, _ => mw_1_160
  | 12, _ => mw_1_162
  | 13, _ => mw_1_164
  | 14, _ => mw_1_166
  | 15, _ => mw_1_168
  | n + 16, h => absurd h (by omega)
theorem in_X5 : ∀ w ∈ u_ws RX5 TX5 16, w ∈ wt := fun w h => by
  obtain ⟨k, hk, e⟩ := List.mem_map.mp h
  rw [← e]; exact ly_X5 k (List.mem_range.mp hk)
theorem cf_X5 : CF 5 := ⟨RX5, TX5, 16, tyX5, rfl, tyX5_ok, nmX5⟩
theorem ly_X6 : ∀ k, k < 9 → u_lay RX6 TX6 k ∈ wt
  | 0, _ => mw_1_69
  | 1, _ => mw_1_71
  | 2, _ => mw_1_73
  | 3, _ => mw_1_75
  | 4, _ => mw_1_77
  | 5, _ => mw_1_79
  | 6, _ => mw_1_81
  | 7, _ => mw_1_83
  | 8, _ => mw_1_85
  | n + 9, h => absurd h (by omega)
theorem in_X6 : ∀ w ∈ u_ws RX6 TX6 9, w ∈ wt := fun w h => by
  obtain ⟨k, hk, e⟩ := List.mem_map.mp h
  rw [← e]; exact ly_X6 k (List.mem_range.mp hk)
theorem cf_X6 : CF 6 := ⟨RX6, TX6, 9, tyX6, rfl, tyX6_ok, nmX6⟩
theorem ly_X7 : ∀ k, k < 3 → u_lay RX7 TX7 k ∈ wt
  | 0, _ => mw_1_38
  | 1, _ => mw_1_40
  | 2, _ => mw_1_42
  | n + 3, h => absurd h (by omega)
theorem in_X7 : ∀ w ∈ u_ws RX7 TX7 3, w ∈ wt := fun w h => by
  obtain ⟨k, hk, e⟩ := List.mem_map.mp h
  rw [← e]; exact ly_X7 k (List.mem_range.mp hk)
theorem cf_X7 : CF 7 := ⟨RX7, TX7, 3, tyX7, rfl, tyX7_ok, nmX7⟩
theorem ly_X8 : ∀ k, k < 6 → u_lay RX8 TX8 k ∈ wt
  | 0, _ => mw_1_187
  | 1, _ => mw_1_189
  | 2, _ => mw_1_191
  | 3, _ => mw_1_193
  | 4, _ => mw_1_195
  | 5, _ => mw_1_197
  | n + 6, h => absurd h (by omega)
theorem in_X8 : ∀ w ∈ u_ws RX8 TX8 6, w ∈ wt := fun w h => by
  obtain ⟨k, hk, e⟩ := List.mem_map.mp h
  rw [← e]; exact ly_X8 k (List.mem_range.mp hk)
theorem cf_X8 : CF 8 := ⟨RX8, TX8, 6, tyX8, rfl, tyX8_ok, nmX8⟩
theorem ly_X9 : ∀ k, k < 4 → u_lay RX9 TX9 k ∈ wt
  | 0, _ => mw_1_232
  | 1, _ => mw_1_234
  | 2, _ => mw_1_236
  | 3, _ => mw_1_238
  | n + 4, h => absurd h (by omega)
theorem in_X9 : ∀ w ∈ u_ws RX9 TX9 4, w ∈ wt := fun w h => by
  obtain ⟨k, hk, e⟩ := List.mem_map.mp h
  rw [← e]; exact ly_X9 k (List.mem_range.mp hk)
theorem cf_X9 : CF 9 := ⟨RX9, TX9, 4, tyX9, rfl, tyX9_ok, nmX9⟩
theorem ly_X10 : ∀ k, k < 14 → u_lay RX10 TX10 k ∈ wt
  | 0, _ => mw_2_142
  | 1, _ => mw_2_144
  | 2, _ => mw_2_146
  | 3, _ => mw_2_148
  | 4, _ => mw_2_150
  | 5, _ => mw_2_152
  | 6, _ => mw_2_154
  | 7, _ => mw_2_156
  | 8, _ => mw_2_158
  | 9, _ => mw_2_160
  | 10, _ => mw_2_162
  | 11, _ => mw_2_164
  | 12, _ => mw_2_166
  | 13, _ => mw_2_168
  | n + 14, h => absurd h (by omega)
theorem in_X10 : ∀ w ∈ u_ws RX10 TX10 14, w ∈ wt := fun w h => by
  obtain ⟨k, hk, e⟩ := List.mem_map.mp h
  rw [← e]; exact ly_X10 k (List.mem_range.mp hk)
theorem cf_X10 : CF 10 := ⟨RX10, TX10, 14, tyX10, rfl, tyX10_ok, nmX10⟩
theorem ly_X11 : ∀ k, k < 17 → u_lay RX11 TX11 k ∈ wt
  | 0, _ => mw_2_190
  | 1, _ => mw_2_192
  | 2, _ => mw_2_194
  | 3, _ => mw_2_196
  | 4, _ => mw_2_198
  | 5, _ => mw_2_200
  | 6, _ => mw_2_202
  | 7, _ => mw_2_204
  | 8, _ => mw_2_206
  | 9, _ => mw_2_208
  | 10, _ => mw_2_210
  | 11, _ => mw_2_212
  | 12, _ => mw_2_214
  | 13, _ => mw_2_216
  | 14, _ => mw_2_218
  | 15, _ => mw_2_220
  | 16, _ => mw_2_222
  | n + 17, h => absurd h (by omega)
theorem in_X11 : ∀ w ∈ u_ws RX11 TX11 17, w ∈ wt := fun w h => by
  obtain ⟨k, hk, e⟩ := List.mem_map.mp h
  rw [← e]; exact ly_X11 k (List.mem_range.mp hk)
theorem cf_X11 : CF 11 := ⟨RX11, TX11, 17, tyX11, rfl, tyX11_ok, nmX11⟩
theorem ly_X12 : ∀ k, k < 58 → u_lay RX12 TX12 k ∈ wt
  | 0, _ => mw_7_113
  | 1, _ => mw_7_115
  | 2, _ => mw_7_117
  | 3, _ => mw_7_119
  | 4, _ => mw_7_121
  | 5, _ => mw_7_123
  | 6, _ => mw_7_125
  | 7, _ => mw_7_127
  | 8, _ => mw_7_129
  | 9, _ => mw_7_131
  | 10, _ => mw_7_133
  | 11, _ => mw_7_135
  | 12, _ => mw_7_137
  | 13, _ => mw_7_139
  | 14, _ => mw_7_141
  | 15, _ => mw_7_143
  | 16, _ => mw_7_145
  | 17, _ => mw_7_147
  | 18, _ => mw_7_149
  | 19, _ => mw_7_151
  | 20, _ => mw_7_153
  | 21, _ => mw_7_155
  | 22, _ => mw_7_157
  | 23, _ => mw_7_159
  | 24, _ => mw_7_161
  | 25, _ => mw_7_163
  | 26, _ => mw_7_165
  | 27, _ => mw_7_167
  | 28, _ => mw_7_169
  | 29, _ => mw_7_171
  | 30, _ => mw_7_173
  | 31, _ => mw_7_175
  | 32, _ => mw_7_177
  | 33, _ => mw_7_179
  | 34, _ => mw_7_181
  | 35, _ => mw_7_183
  | 36, _ => mw_7_185
  | 37, _ => mw_7_187
  | 38, _ => mw_7_189
  | 39, _ => mw_7_191
  | 40, _ => mw_7_193
  | 41, _ => mw_7_195
  | 42, _ => mw_7_197
  | 43, _ => mw_7_199
  | 44, _ => mw_7_201
  | 45, _ => mw_7_203
  | 46, _ => mw_7_205
  | 47, _ => mw_7_207
  | 48, _ => mw_7_209
  | 49, _ => mw_7_211
  | 50, _ => mw_7_213
  | 51, _ => mw_7_215
  | 52, _ => mw_7_217
  | 53, _ => mw_7_219
  | 54, _ => mw_7_221
  | 55, _ => mw_7_223
  | 56, _ => mw_7_225
  | 57, _ => mw_7_227
  | n + 58, h => absurd h (by omega)
theorem in_X12 : ∀ w ∈ u_ws RX12 TX12 58, w ∈ wt := fun w h => by
  obtain ⟨k, hk, e⟩ := List.mem_map.mp h
  rw [← e]; exact ly_X12 k (List.mem_range.mp hk)
theorem cf_X12 : CF 12 := ⟨RX12, TX12, 58, tyX12, rfl, tyX12_ok, nmX12⟩
theorem fl_X11_7 : FL RX11 7 11 2 := ⟨RX11, TX11, 17, rfl, by decide, rfl, mw_2_175, in_X11⟩
theorem fl_X11_16 : FL RX11 16 11 3 := ⟨RX11, TX11, 17, rfl, by decide, rfl, mw_2_176, in_X11⟩
theorem fl_X11_23 : FL RX11 23 11 4 := ⟨RX11, TX11, 17, rfl, by decide, rfl, mw_2_177, in_X11⟩
theorem fl_X11_30 : FL RX11 30 11 5 := ⟨RX11, TX11, 17, rfl, by decide, rfl, mw_2_178, in_X11⟩
theorem fl_X11_37 : FL RX11 37 11 6 := ⟨RX11, TX11, 17, rfl, by decide, rfl, mw_2_179, in_X11⟩
theorem fl_X11_46 : FL RX11 46 11 7 := ⟨RX11, TX11, 17, rfl, by decide, rfl, mw_2_180, in_X11⟩
theorem fl_X11_53 : FL RX11 53 11 8 := ⟨RX11, TX11, 17, rfl, by decide, rfl, mw_2_181, in_X11⟩
theorem fl_X11_60 : FL RX11 60 11 9 := ⟨RX11, TX11, 17, rfl, by decide, rfl, mw_2_182, in_X11⟩
theorem fl_X11_67 : FL RX11 67 11 10 := ⟨RX11, TX11, 17, rfl, by decide, rfl, mw_2_183, in_X11⟩
theorem fl_X11_74 : FL RX11 74 11 11 := ⟨RX11, TX11, 17, rfl, by decide, rfl, mw_2_184, in_X11⟩
theorem fl_X11_81 : FL RX11 81 11 12 := ⟨RX11, TX11, 17, rfl, by decide, rfl, mw_2_185, in_X11⟩
theorem fl_X11_88 : FL RX11 88 11 13 := ⟨RX11, TX11, 17, rfl, by decide, rfl, mw_2_186, in_X11⟩
theorem fl_X11_92 : FL RX11 92 11 14 := ⟨RX11, TX11, 17, rfl, by decide, rfl, mw_2_187, in_X11⟩
theorem fl_X11_96 : FL RX11 96 11 15 := ⟨RX11, TX11, 17, rfl, by decide, rfl, mw_2_188, in_X11⟩
theorem fl_X11_100 : FL RX11 100 11 0 := ⟨RX11, TX11, 17, rfl, by decide, rfl, mw_2_173, in_X11⟩
theorem fl_X11_104 : FL RX11 104 11 1 := ⟨RX11, TX11, 17, rfl, by decide, rfl, mw_2_174, in_X11⟩
theorem fl_X11_161 : FL RX11 161 6 1 := ⟨RX6, TX6, 9, rfl, by decide, rfl, mw_1_55, in_X6⟩
theorem fl_X11_171 : FL RX11 171 0 1 := ⟨RX0, TX0, 3, rfl, by decide, rfl, mw_1_210, in_X0⟩
theorem fl_X11_176 : FL RX11 176 5 0 := ⟨RX5, TX5, 16, rfl, by decide, rfl, mw_1_101, in_X5⟩
theorem fl_X11_182 : FL RX11 182 6 7 := ⟨RX6, TX6, 9, rfl, by decide, rfl, mw_1_66, in_X6⟩
theorem fl_X11_185 : FL RX11 185 6 8 := ⟨RX6, TX6, 9, rfl, by decide, rfl, mw_1_68, in_X6⟩
theorem fl_X11_188 : FL RX11 188 5 1 := ⟨RX5, TX5, 16, rfl, by decide, rfl, mw_1_105, in_X5⟩
theorem fl_X11_191 : FL RX11 191 5 2 := ⟨RX5, TX5, 16, rfl, by decide, rfl, mw_1_108, in_X5⟩
theorem fl_X11_194 : FL RX11 194 5 3 := ⟨RX5, TX5, 16, rfl, by decide, rfl, mw_1_111, in_X5⟩
theorem fl_X11_197 : FL RX11 197 5 4 := ⟨RX5, TX5, 16, rfl, by decide, rfl, mw_1_114, in_X5⟩
theorem fl_X11_200 : FL RX11 200 5 5 := ⟨RX5, TX5, 16, rfl, by decide, rfl, mw_1_117, in_X5⟩
theorem fl_X11_203 : FL RX11 203 5 6 := ⟨RX5, TX5, 16, rfl, by decide, rfl, mw_1_121, in_X5⟩
theorem fl_X11_206 : FL RX11 206 5 7 := ⟨RX5, TX5, 16, rfl, by decide, rfl, mw_1_124, in_X5⟩
theorem fl_X11_268 : FL RX11 268 5 11 := ⟨RX5, TX5, 16, rfl, by decide, rfl, mw_1_128, in_X5⟩
theorem fl_X11_271 : FL RX11 271 5 12 := ⟨RX5, TX5, 16, rfl, by decide, rfl, mw_1_130, in_X5⟩
theorem fl_X11_274 : FL RX11 274 5 13 := ⟨RX5, TX5, 16, rfl, by decide, rfl, mw_1_132, in_X5⟩
theorem fl_X11_295 : FL RX11 295 1 2 := ⟨RX1, TX1, 3, rfl, by decide, rfl, mw_2_41, in_X1⟩
theorem fl_X11_307 : FL RX11 307 3 4 := ⟨RX3, TX3, 7, rfl, by decide, rfl, mw_2_12, in_X3⟩
theorem fl_X11_310 : FL RX11 310 3 5 := ⟨RX3, TX3, 7, rfl, by decide, rfl, mw_2_14, in_X3⟩
theorem fl_X11_313 : FL RX11 313 3 6 := ⟨RX3, TX3, 7, rfl, by decide, rfl, mw_2_16, in_X3⟩
theorem fl_X11_329 : FL RX11 329 2 6 := ⟨RX2, TX2, 11, rfl, by decide, rfl, mw_2_62, in_X2⟩
theorem fl_X11_332 : FL RX11 332 2 7 := ⟨RX2, TX2, 11, rfl, by decide, rfl, mw_2_64, in_X2⟩
theorem fl_X11_335 : FL RX11 335 2 8 := ⟨RX2, TX2, 11, rfl, by decide, rfl, mw_2_66, in_X2⟩
theorem fl_X11_341 : FL RX11 341 2 9 := ⟨RX2, TX2, 11, rfl, by decide, rfl, mw_2_68, in_X2⟩
theorem fl_X11_344 : FL RX11 344 2 10 := ⟨RX2, TX2, 11, rfl, by decide, rfl, mw_2_70, in_X2⟩
theorem fl_X11_348 : FL RX11 348 9 1 := ⟨RX9, TX9, 4, rfl, by decide, rfl, mw_1_229, in_X9⟩
theorem fl_X11_352 : FL RX11 352 8 1 := ⟨RX8, TX8, 6, rfl, by decide, rfl, mw_1_182, in_X8⟩
theorem fl_X11_358 : FL RX11 358 4 1 := ⟨RX4, TX4, 4, rfl, by decide, rfl, mw_2_102, in_X4⟩
theorem fl_X11_361 : FL RX11 361 4 3 := ⟨RX4, TX4, 4, rfl, by decide, rfl, mw_2_106, in_X4⟩
theorem fl_X11_364 : FL RX11 364 4 2 := ⟨RX4, TX4, 4, rfl, by decide, rfl, mw_2_104, in_X4⟩
theorem fl_X11_392 : FL RX11 392 10 3 := ⟨RX10, TX10, 14, rfl, by decide, rfl, mw_2_127, in_X10⟩
theorem fl_X11_395 : FL RX11 395 10 2 := ⟨RX10, TX10, 14, rfl, by decide, rfl, mw_2_125, in_X10⟩
theorem fl_X11_415 : FL RX11 415 10 4 := ⟨RX10, TX10, 14, rfl, by decide, rfl, mw_2_129, in_X10⟩
theorem fl_X11_418 : FL RX11 418 10 5 := ⟨RX10, TX10, 14, rfl, by decide, rfl, mw_2_131, in_X10⟩
theorem fl_X11_449 : FL RX11 449 10 12 := ⟨RX10, TX10, 14, rfl, by decide, rfl, mw_2_139, in_X10⟩
theorem fl_X11_452 : FL RX11 452 10 13 := ⟨RX10, TX10, 14, rfl, by decide, rfl, mw_2_141, in_X10⟩
theorem fl_X11_472 : FL RX11 472 11 16 := ⟨RX11, TX11, 17, rfl, by decide, rfl, mw_2_189, in_X11⟩
theorem fl_X0_12 : FL RX0 12 0 1 := ⟨RX0, TX0, 3, rfl, by decide, rfl, mw_1_209, in_X0⟩
theorem fl_X0_18 : FL RX0 18 0 0 := ⟨RX0, TX0, 3, rfl, by decide, rfl, mw_1_208, in_X0⟩
theorem fl_X0_31 : FL RX0 31 0 2 := ⟨RX0, TX0, 3, rfl, by decide, rfl, mw_1_211, in_X0⟩
theorem fl_X0_38 : FL RX0 38 6 4 := ⟨RX6, TX6, 9, rfl, by decide, rfl, mw_1_58, in_X6⟩
theorem fl_X0_83 : FL RX0 83 5 0 := ⟨RX5, TX5, 16, rfl, by decide, rfl, mw_1_100, in_X5⟩
theorem fl_X0_89 : FL RX0 89 5 1 := ⟨RX5, TX5, 16, rfl, by decide, rfl, mw_1_103, in_X5⟩
theorem fl_X0_92 : FL RX0 92 6 6 := ⟨RX6, TX6, 9, rfl, by decide, rfl, mw_1_62, in_X6⟩
theorem fl_X0_113 : FL RX0 113 5 6 := ⟨RX5, TX5, 16, rfl, by decide, rfl, mw_1_120, in_X5⟩
theorem fl_X0_123 : FL RX0 123 5 2 := ⟨RX5, TX5, 16, rfl, by decide, rfl, mw_1_107, in_X5⟩
theorem fl_X0_125 : FL RX0 125 5 3 := ⟨RX5, TX5, 16, rfl, by decide, rfl, mw_1_110, in_X5⟩
theorem fl_X0_127 : FL RX0 127 5 4 := ⟨RX5, TX5, 16, rfl, by decide, rfl, mw_1_113, in_X5⟩
theorem fl_X0_129 : FL RX0 129 5 5 := ⟨RX5, TX5, 16, rfl, by decide, rfl, mw_1_116, in_X5⟩
theorem fl_X1_11 : FL RX1 11 1 0 := ⟨RX1, TX1, 3, rfl, by decide, rfl, mw_2_38, in_X1⟩
theorem fl_X1_15 : FL RX1 15 1 2 := ⟨RX1, TX1, 3, rfl, by decide, rfl, mw_2_40, in_X1⟩
theorem fl_X1_30 : FL RX1 30 1 1 := ⟨RX1, TX1, 3, rfl, by decide, rfl, mw_2_39, in_X1⟩
theorem fl_X2_11 : FL RX2 11 2 0 := ⟨RX2, TX2, 11, rfl, by decide, rfl, mw_2_55, in_X2⟩
theorem fl_X2_15 : FL RX2 15 2 1 := ⟨RX2, TX2, 11, rfl, by decide, rfl, mw_2_56, in_X2⟩
theorem fl_X2_18 : FL RX2 18 2 2 := ⟨RX2, TX2, 11, rfl, by decide, rfl, mw_2_57, in_X2⟩
theorem fl_X2_21 : FL RX2 21 2 8 := ⟨RX2, TX2, 11, rfl, by decide, rfl, mw_2_65, in_X2⟩
theorem fl_X2_24 : FL RX2 24 2 3 := ⟨RX2, TX2, 11, rfl, by decide, rfl, mw_2_58, in_X2⟩
theorem fl_X2_55 : FL RX2 55 2 4 := ⟨RX2, TX2, 11, rfl, by decide, rfl, mw_2_59, in_X2⟩
theorem fl_X2_59 : FL RX2 59 2 6 := ⟨RX2, TX2, 11, rfl, by decide, rfl, mw_2_61, in_X2⟩
theorem fl_X2_62 : FL RX2 62 2 5 := ⟨RX2, TX2, 11, rfl, by decide, rfl, mw_2_60, in_X2⟩
theorem fl_X2_69 : FL RX2 69 2 7 := ⟨RX2, TX2, 11, rfl, by decide, rfl, mw_2_63, in_X2⟩
theorem fl_X2_91 : FL RX2 91 5 14 := ⟨RX5, TX5, 16, rfl, by decide, rfl, mw_1_134, in_X5⟩
theorem fl_X2_94 : FL RX2 94 5 15 := ⟨RX5, TX5, 16, rfl, by decide, rfl, mw_1_136, in_X5⟩
theorem fl_X2_115 : FL RX2 115 2 9 := ⟨RX2, TX2, 11, rfl, by decide, rfl, mw_2_67, in_X2⟩
theorem fl_X2_118 : FL RX2 118 2 10 := ⟨RX2, TX2, 11, rfl, by decide, rfl, mw_2_69, in_X2⟩
theorem fl_X3_11 : FL RX3 11 3 0 := ⟨RX3, TX3, 7, rfl, by decide, rfl, mw_2_7, in_X3⟩
theorem fl_X3_17 : FL RX3 17 3 4 := ⟨RX3, TX3, 7, rfl, by decide, rfl, mw_2_11, in_X3⟩
theorem fl_X3_21 : FL RX3 21 3 1 := ⟨RX3, TX3, 7, rfl, by decide, rfl, mw_2_8, in_X3⟩
theorem fl_X3_24 : FL RX3 24 3 2 := ⟨RX3, TX3, 7, rfl, by decide, rfl, mw_2_9, in_X3⟩
theorem fl_X3_27 : FL RX3 27 3 3 := ⟨RX3, TX3, 7, rfl, by decide, rfl, mw_2_10, in_X3⟩
theorem fl_X3_42 : FL RX3 42 3 5 := ⟨RX3, TX3, 7, rfl, by decide, rfl, mw_2_13, in_X3⟩
theorem fl_X3_45 : FL RX3 45 3 6 := ⟨RX3, TX3, 7, rfl, by decide, rfl, mw_2_15, in_X3⟩
theorem fl_X3_59 : FL RX3 59 5 6 := ⟨RX5, TX5, 16, rfl, by decide, rfl, mw_1_119, in_X5⟩
theorem fl_X3_62 : FL RX3 62 5 7 := ⟨RX5, TX5, 16, rfl, by decide, rfl, mw_1_123, in_X5⟩
theorem fl_X4_11 : FL RX4 11 4 0 := ⟨RX4, TX4, 4, rfl, by decide, rfl, mw_2_100, in_X4⟩
theorem fl_X4_15 : FL RX4 15 4 1 := ⟨RX4, TX4, 4, rfl, by decide, rfl, mw_2_101, in_X4⟩
theorem fl_X4_19 : FL RX4 19 4 2 := ⟨RX4, TX4, 4, rfl, by decide, rfl, mw_2_103, in_X4⟩
theorem fl_X4_22 : FL RX4 22 4 3 := ⟨RX4, TX4, 4, rfl, by decide, rfl, mw_2_105, in_X4⟩
theorem fl_X4_26 : FL RX4 26 8 0 := ⟨RX8, TX8, 6, rfl, by decide, rfl, mw_1_178, in_X8⟩
theorem fl_X5_11 : FL RX5 11 5 7 := ⟨RX5, TX5, 16, rfl, by decide, rfl, mw_1_122, in_X5⟩
theorem fl_X5_15 : FL RX5 15 5 8 := ⟨RX5, TX5, 16, rfl, by decide, rfl, mw_1_125, in_X5⟩
theorem fl_X5_18 : FL RX5 18 5 9 := ⟨RX5, TX5, 16, rfl, by decide, rfl, mw_1_126, in_X5⟩
theorem fl_X5_24 : FL RX5 24 5 0 := ⟨RX5, TX5, 16, rfl, by decide, rfl, mw_1_98, in_X5⟩
theorem fl_X5_28 : FL RX5 28 5 1 := ⟨RX5, TX5, 16, rfl, by decide, rfl, mw_1_102, in_X5⟩
theorem fl_X5_31 : FL RX5 31 5 2 := ⟨RX5, TX5, 16, rfl, by decide, rfl, mw_1_106, in_X5⟩
theorem fl_X5_34 : FL RX5 34 5 3 := ⟨RX5, TX5, 16, rfl, by decide, rfl, mw_1_109, in_X5⟩
theorem fl_X5_37 : FL RX5 37 5 4 := ⟨RX5, TX5, 16, rfl, by decide, rfl, mw_1_112, in_X5⟩
theorem fl_X5_40 : FL RX5 40 5 5 := ⟨RX5, TX5, 16, rfl, by decide, rfl, mw_1_115, in_X5⟩
theorem fl_X5_43 : FL RX5 43 5 6 := ⟨RX5, TX5, 16, rfl, by decide, rfl, mw_1_118, in_X5⟩
theorem fl_X5_46 : FL RX5 46 5 10 := ⟨RX5, TX5, 16, rfl, by decide, rfl, mw_1_127, in_X5⟩
theorem fl_X5_130 : FL RX5 130 5 11 := ⟨RX5, TX5, 16, rfl, by decide, rfl, mw_1_129, in_X5⟩
theorem fl_X5_133 : FL RX5 133 5 12 := ⟨RX5, TX5, 16, rfl, by decide, rfl, mw_1_131, in_X5⟩
theorem fl_X5_139 : FL RX5 139 5 13 := ⟨RX5, TX5, 16, rfl, by decide, rfl, mw_1_133, in_X5⟩
theorem fl_X5_145 : FL RX5 145 5 14 := ⟨RX5, TX5, 16, rfl, by decide, rfl, mw_1_135, in_X5⟩
theorem fl_X5_148 : FL RX5 148 5 15 := ⟨RX5, TX5, 16, rfl, by decide, rfl, mw_1_137, in_X5⟩
theorem fl_X6_11 : FL RX6 11 6 0 := ⟨RX6, TX6, 9, rfl, by decide, rfl, mw_1_53, in_X6⟩
theorem fl_X6_15 : FL RX6 15 6 7 := ⟨RX6, TX6, 9, rfl, by decide, rfl, mw_1_65, in_X6⟩
theorem fl_X6_19 : FL RX6 19 6 8 := ⟨RX6, TX6, 9, rfl, by decide, rfl, mw_1_67, in_X6⟩
theorem fl_X6_22 : FL RX6 22 6 1 := ⟨RX6, TX6, 9, rfl, by decide, rfl, mw_1_54, in_X6⟩
theorem fl_X6_31 : FL RX6 31 6 2 := ⟨RX6, TX6, 9, rfl, by decide, rfl, mw_1_56, in_X6⟩
theorem fl_X6_34 : FL RX6 34 6 3 := ⟨RX6, TX6, 9, rfl, by decide, rfl, mw_1_57, in_X6⟩
theorem fl_X6_41 : FL RX6 41 6 5 := ⟨RX6, TX6, 9, rfl, by decide, rfl, mw_1_61, in_X6⟩
theorem fl_X6_44 : FL RX6 44 6 6 := ⟨RX6, TX6, 9, rfl, by decide, rfl, mw_1_63, in_X6⟩
theorem fl_X6_47 : FL RX6 47 6 4 := ⟨RX6, TX6, 9, rfl, by decide, rfl, mw_1_60, in_X6⟩
theorem fl_X7_11 : FL RX7 11 7 0 := ⟨RX7, TX7, 3, rfl, by decide, rfl, mw_1_35, in_X7⟩
theorem fl_X7_15 : FL RX7 15 7 1 := ⟨RX7, TX7, 3, rfl, by decide, rfl, mw_1_36, in_X7⟩
theorem fl_X7_19 : FL RX7 19 7 2 := ⟨RX7, TX7, 3, rfl, by decide, rfl, mw_1_37, in_X7⟩
theorem fl_X8_9 : FL RX8 9 8 2 := ⟨RX8, TX8, 6, rfl, by decide, rfl, mw_1_183, in_X8⟩
theorem fl_X8_13 : FL RX8 13 8 3 := ⟨RX8, TX8, 6, rfl, by decide, rfl, mw_1_184, in_X8⟩
theorem fl_X8_16 : FL RX8 16 8 4 := ⟨RX8, TX8, 6, rfl, by decide, rfl, mw_1_185, in_X8⟩
theorem fl_X8_19 : FL RX8 19 8 5 := ⟨RX8, TX8, 6, rfl, by decide, rfl, mw_1_186, in_X8⟩
theorem fl_X8_22 : FL RX8 22 8 0 := ⟨RX8, TX8, 6, rfl, by decide, rfl, mw_1_177, in_X8⟩
theorem fl_X8_26 : FL RX8 26 8 1 := ⟨RX8, TX8, 6, rfl, by decide, rfl, mw_1_180, in_X8⟩
theorem fl_X9_12 : FL RX9 12 9 1 := ⟨RX9, TX9, 4, rfl, by decide, rfl, mw_1_228, in_X9⟩
theorem fl_X9_18 : FL RX9 18 9 2 := ⟨RX9, TX9, 4, rfl, by decide, rfl, mw_1_230, in_X9⟩
theorem fl_X9_22 : FL RX9 22 9 0 := ⟨RX9, TX9, 4, rfl, by decide, rfl, mw_1_227, in_X9⟩
theorem fl_X9_35 : FL RX9 35 9 3 := ⟨RX9, TX9, 4, rfl, by decide, rfl, mw_1_231, in_X9⟩
theorem fl_X9_42 : FL RX9 42 6 4 := ⟨RX6, TX6, 9, rfl, by decide, rfl, mw_1_59, in_X6⟩
theorem fl_X9_63 : FL RX9 63 8 1 := ⟨RX8, TX8, 6, rfl, by decide, rfl, mw_1_181, in_X8⟩
theorem fl_X9_108 : FL RX9 108 8 0 := ⟨RX8, TX8, 6, rfl, by decide, rfl, mw_1_179, in_X8⟩
theorem fl_X9_118 : FL RX9 118 6 6 := ⟨RX6, TX6, 9, rfl, by decide, rfl, mw_1_64, in_X6⟩
theorem fl_X10_11 : FL RX10 11 10 0 := ⟨RX10, TX10, 14, rfl, by decide, rfl, mw_2_122, in_X10⟩
theorem fl_X10_15 : FL RX10 15 10 1 := ⟨RX10, TX10, 14, rfl, by decide, rfl, mw_2_123, in_X10⟩
theorem fl_X10_20 : FL RX10 20 10 2 := ⟨RX10, TX10, 14, rfl, by decide, rfl, mw_2_124, in_X10⟩
theorem fl_X10_23 : FL RX10 23 10 9 := ⟨RX10, TX10, 14, rfl, by decide, rfl, mw_2_135, in_X10⟩
theorem fl_X10_26 : FL RX10 26 10 10 := ⟨RX10, TX10, 14, rfl, by decide, rfl, mw_2_136, in_X10⟩
theorem fl_X10_29 : FL RX10 29 10 11 := ⟨RX10, TX10, 14, rfl, by decide, rfl, mw_2_137, in_X10⟩
theorem fl_X10_54 : FL RX10 54 5 0 := ⟨RX5, TX5, 16, rfl, by decide, rfl, mw_1_99, in_X5⟩
theorem fl_X10_58 : FL RX10 58 10 3 := ⟨RX10, TX10, 14, rfl, by decide, rfl, mw_2_126, in_X10⟩
theorem fl_X10_82 : FL RX10 82 5 1 := ⟨RX5, TX5, 16, rfl, by decide, rfl, mw_1_104, in_X5⟩
theorem fl_X10_89 : FL RX10 89 10 7 := ⟨RX10, TX10, 14, rfl, by decide, rfl, mw_2_133, in_X10⟩
theorem fl_X10_92 : FL RX10 92 10 8 := ⟨RX10, TX10, 14, rfl, by decide, rfl, mw_2_134, in_X10⟩
theorem fl_X10_99 : FL RX10 99 10 4 := ⟨RX10, TX10, 14, rfl, by decide, rfl, mw_2_128, in_X10⟩
theorem fl_X10_102 : FL RX10 102 10 5 := ⟨RX10, TX10, 14, rfl, by decide, rfl, mw_2_130, in_X10⟩
theorem fl_X10_105 : FL RX10 105 10 6 := ⟨RX10, TX10, 14, rfl, by decide, rfl, mw_2_132, in_X10⟩
theorem fl_X10_131 : FL RX10 131 10 12 := ⟨RX10, TX10, 14, rfl, by decide, rfl, mw_2_138, in_X10⟩
theorem fl_X10_134 : FL RX10 134 10 13 := ⟨RX10, TX10, 14, rfl, by decide, rfl, mw_2_140, in_X10⟩
theorem fl_X12_7 : FL RX12 7 12 0 := ⟨RX12, TX12, 58, rfl, by decide, rfl, mw_7_55, in_X12⟩
theorem fl_X12_13 : FL RX12 13 12 3 := ⟨RX12, TX12, 58, rfl, by decide, rfl, mw_7_58, in_X12⟩
theorem fl_X12_17 : FL RX12 17 12 4 := ⟨RX12, TX12, 58, rfl, by decide, rfl, mw_7_59, in_X12⟩
theorem fl_X12_20 : FL RX12 20 12 5 := ⟨RX12, TX12, 58, rfl, by decide, rfl, mw_7_60, in_X12⟩
theorem fl_X12_23 : FL RX12 23 12 6 := ⟨RX12, TX12, 58, rfl, by decide, rfl, mw_7_61, in_X12⟩
theorem fl_X12_27 : FL RX12 27 12 7 := ⟨RX12, TX12, 58, rfl, by decide, rfl, mw_7_62, in_X12⟩
theorem fl_X12_31 : FL RX12 31 12 8 := ⟨RX12, TX12, 58, rfl, by decide, rfl, mw_7_63, in_X12⟩
theorem fl_X12_34 : FL RX12 34 12 15 := ⟨RX12, TX12, 58, rfl, by decide, rfl, mw_7_70, in_X12⟩
theorem fl_X12_38 : FL RX12 38 12 16 := ⟨RX12, TX12, 58, rfl, by decide, rfl, mw_7_71, in_X12⟩
theorem fl_X12_41 : FL RX12 41 12 19 := ⟨RX12, TX12, 58, rfl, by decide, rfl, mw_7_74, in_X12⟩
theorem fl_X12_44 : FL RX12 44 12 20 := ⟨RX12, TX12, 58, rfl, by decide, rfl, mw_7_75, in_X12⟩
theorem fl_X12_47 : FL RX12 47 12 29 := ⟨RX12, TX12, 58, rfl, by decide, rfl, mw_7_84, in_X12⟩
theorem fl_X12_50 : FL RX12 50 12 30 := ⟨RX12, TX12, 58, rfl, by decide, rfl, mw_7_85, in_X12⟩
theorem fl_X12_53 : FL RX12 53 12 31 := ⟨RX12, TX12, 58, rfl, by decide, rfl, mw_7_86, in_X12⟩
theorem fl_X12_56 : FL RX12 56 12 32 := ⟨RX12, TX12, 58, rfl, by decide, rfl, mw_7_87, in_X12⟩
theorem fl_X12_59 : FL RX12 59 12 34 := ⟨RX12, TX12, 58, rfl, by decide, rfl, mw_7_89, in_X12⟩
theorem fl_X12_62 : FL RX12 62 12 35 := ⟨RX12, TX12, 58, rfl, by decide, rfl, mw_7_90, in_X12⟩
theorem fl_X12_65 : FL RX12 65 12 39 := ⟨RX12, TX12, 58, rfl, by decide, rfl, mw_7_94, in_X12⟩
theorem fl_X12_68 : FL RX12 68 12 40 := ⟨RX12, TX12, 58, rfl, by decide, rfl, mw_7_95, in_X12⟩
theorem fl_X12_71 : FL RX12 71 12 41 := ⟨RX12, TX12, 58, rfl, by decide, rfl, mw_7_96, in_X12⟩
theorem fl_X12_74 : FL RX12 74 12 42 := ⟨RX12, TX12, 58, rfl, by decide, rfl, mw_7_97, in_X12⟩
theorem fl_X12_77 : FL RX12 77 12 43 := ⟨RX12, TX12, 58, rfl, by decide, rfl, mw_7_98, in_X12⟩
theorem fl_X12_80 : FL RX12 80 12 44 := ⟨RX12, TX12, 58, rfl, by decide, rfl, mw_7_99, in_X12⟩
theorem fl_X12_83 : FL RX12 83 12 47 := ⟨RX12, TX12, 58, rfl, by decide, rfl, mw_7_102, in_X12⟩
theorem fl_X12_86 : FL RX12 86 12 51 := ⟨RX12, TX12, 58, rfl, by decide, rfl, mw_7_106, in_X12⟩
theorem fl_X12_89 : FL RX12 89 12 52 := ⟨RX12, TX12, 58, rfl, by decide, rfl, mw_7_107, in_X12⟩
theorem fl_X12_92 : FL RX12 92 12 53 := ⟨RX12, TX12, 58, rfl, by decide, rfl, mw_7_108, in_X12⟩
theorem fl_X12_95 : FL RX12 95 12 54 := ⟨RX12, TX12, 58, rfl, by decide, rfl, mw_7_109, in_X12⟩
theorem fl_X12_98 : FL RX12 98 12 55 := ⟨RX12, TX12, 58, rfl, by decide, rfl, mw_7_110, in_X12⟩
theorem fl_X12_101 : FL RX12 101 12 56 := ⟨RX12, TX12, 58, rfl, by decide, rfl, mw_7_111, in_X12⟩
theorem fl_X12_108 : FL RX12 108 12 1 := ⟨RX12, TX12, 58, rfl, by decide, rfl, mw_7_56, in_X12⟩
theorem fl_X12_111 : FL RX12 111 12 2 := ⟨RX12, TX12, 58, rfl, by decide, rfl, mw_7_57, in_X12⟩
theorem fl_X12_131 : FL RX12 131 12 9 := ⟨RX12, TX12, 58, rfl, by decide, rfl, mw_7_64, in_X12⟩
theorem fl_X12_137 : FL RX12 137 12 10 := ⟨RX12, TX12, 58, rfl, by decide, rfl, mw_7_65, in_X12⟩
theorem fl_X12_140 : FL RX12 140 12 13 := ⟨RX12, TX12, 58, rfl, by decide, rfl, mw_7_68, in_X12⟩
theorem fl_X12_147 : FL RX12 147 12 12 := ⟨RX12, TX12, 58, rfl, by decide, rfl, mw_7_67, in_X12⟩
theorem fl_X12_150 : FL RX12 150 12 14 := ⟨RX12, TX12, 58, rfl, by decide, rfl, mw_7_69, in_X12⟩
theorem fl_X12_153 : FL RX12 153 12 11 := ⟨RX12, TX12, 58, rfl, by decide, rfl, mw_7_66, in_X12⟩
theorem fl_X12_183 : FL RX12 183 12 17 := ⟨RX12, TX12, 58, rfl, by decide, rfl, mw_7_72, in_X12⟩
theorem fl_X12_195 : FL RX12 195 12 18 := ⟨RX12, TX12, 58, rfl, by decide, rfl, mw_7_73, in_X12⟩
theorem fl_X12_226 : FL RX12 226 12 21 := ⟨RX12, TX12, 58, rfl, by decide, rfl, mw_7_76, in_X12⟩
theorem fl_X12_229 : FL RX12 229 12 22 := ⟨RX12, TX12, 58, rfl, by decide, rfl, mw_7_77, in_X12⟩
theorem fl_X12_259 : FL RX12 259 12 23 := ⟨RX12, TX12, 58, rfl, by decide, rfl, mw_7_78, in_X12⟩
theorem fl_X12_262 : FL RX12 262 12 24 := ⟨RX12, TX12, 58, rfl, by decide, rfl, mw_7_79, in_X12⟩
theorem fl_X12_265 : FL RX12 265 12 25 := ⟨RX12, TX12, 58, rfl, by decide, rfl, mw_7_80, in_X12⟩
theorem fl_X12_291 : FL RX12 291 12 26 := ⟨RX12, TX12, 58, rfl, by decide, rfl, mw_7_81, in_X12⟩
theorem fl_X12_294 : FL RX12 294 12 27 := ⟨RX12, TX12, 58, rfl, by decide, rfl, mw_7_82, in_X12⟩
theorem fl_X12_297 : FL RX12 297 12 28 := ⟨RX12, TX12, 58, rfl, by decide, rfl, mw_7_83, in_X12⟩
theorem fl_X12_305 : FL RX12 305 12 33 := ⟨RX12, TX12, 58, rfl, by decide, rfl, mw_7_88, in_X12⟩
theorem fl_X12_332 : FL RX12 332 12 36 := ⟨RX12, TX12, 58, rfl, by decide, rfl, mw_7_91, in_X12⟩
theorem fl_X12_341 : FL RX12 341 12 37 := ⟨RX12, TX12, 58, rfl, by decide, rfl, mw_7_92, in_X12⟩
theorem fl_X12_347 : FL RX12 347 12 38 := ⟨RX12, TX12, 58, rfl, by decide, rfl, mw_7_93, in_X12⟩
theorem fl_X12_380 : FL RX12 380 12 45 := ⟨RX12, TX12, 58, rfl, by decide, rfl, mw_7_100, in_X12⟩
theorem fl_X12_383 : FL RX12 383 12 46 := ⟨RX12, TX12, 58, rfl, by decide, rfl, mw_7_101, in_X12⟩
theorem fl_X12_415 : FL RX12 415 12 48 := ⟨RX12, TX12, 58, rfl, by decide, rfl, mw_7_103, in_X12⟩
theorem fl_X12_418 : FL RX12 418 12 49 := ⟨RX12, TX12, 58, rfl, by decide, rfl, mw_7_104, in_X12⟩
theorem fl_X12_421 : FL RX12 421 12 50 := ⟨RX12, TX12, 58, rfl, by decide, rfl, mw_7_105, in_X12⟩
theorem fl_X12_454 : FL RX12 454 12 57 := ⟨RX12, TX12, 58, rfl, by decide, rfl, mw_7_112, in_X12⟩
theorem ft_X0_2 : FT 0 2 .int := ⟨RX0, TX0, 3, rfl, rfl, by decide +kernel⟩
theorem ft_X1_1 : FT 1 1 .int := ⟨RX1, TX1, 3, rfl, rfl, by decide +kernel⟩
theorem ft_X1_2 : FT 1 2 .long := ⟨RX1, TX1, 3, rfl, rfl, by decide +kernel⟩
theorem ft_X10_3 : FT 10 3 .int := ⟨RX10, TX10, 14, rfl, rfl, by decide +kernel⟩
theorem ft_X10_4 : FT 10 4 .int := ⟨RX10, TX10, 14, rfl, rfl, by decide +kernel⟩
theorem ft_X10_5 : FT 10 5 .int := ⟨RX10, TX10, 14, rfl, rfl, by decide +kernel⟩
theorem ft_X10_6 : FT 10 6 .int := ⟨RX10, TX10, 14, rfl, rfl, by decide +kernel⟩
theorem ft_X10_7 : FT 10 7 .int := ⟨RX10, TX10, 14, rfl, rfl, by decide +kernel⟩
theorem ft_X10_8 : FT 10 8 .int := ⟨RX10, TX10, 14, rfl, rfl, by decide +kernel⟩
theorem ft_X10_12 : FT 10 12 .int := ⟨RX10, TX10, 14, rfl, rfl, by decide +kernel⟩
theorem ft_X10_13 : FT 10 13 .int := ⟨RX10, TX10, 14, rfl, rfl, by decide +kernel⟩
theorem ft_X11_0 : FT 11 0 .int := ⟨RX11, TX11, 17, rfl, rfl, by decide +kernel⟩
theorem ft_X11_1 : FT 11 1 .long := ⟨RX11, TX11, 17, rfl, rfl, by decide +kernel⟩
theorem ft_X11_2 : FT 11 2 .long := ⟨RX11, TX11, 17, rfl, rfl, by decide +kernel⟩
theorem ft_X11_16 : FT 11 16 .int := ⟨RX11, TX11, 17, rfl, rfl, by decide +kernel⟩
theorem ft_X12_1 : FT 12 1 .int := ⟨RX12, TX12, 58, rfl, rfl, by decide +kernel⟩
theorem ft_X12_2 : FT 12 2 .long := ⟨RX12, TX12, 58, rfl, rfl, by decide +kernel⟩
theorem ft_X12_3 : FT 12 3 .long := ⟨RX12, TX12, 58, rfl, rfl, by decide +kernel⟩
theorem ft_X12_9 : FT 12 9 .int := ⟨RX12, TX12, 58, rfl, rfl, by decide +kernel⟩
theorem ft_X12_10 : FT 12 10 .int := ⟨RX12, TX12, 58, rfl, rfl, by decide +kernel⟩
theorem ft_X12_11 : FT 12 11 .int := ⟨RX12, TX12, 58, rfl, rfl, by decide +kernel⟩
theorem ft_X12_12 : FT 12 12 .int := ⟨RX12, TX12, 58, rfl, rfl, by decide +kernel⟩
theorem ft_X12_13 : FT 12 13 .int := ⟨RX12, TX12, 58, rfl, rfl, by decide +kernel⟩
theorem ft_X12_14 : FT 12 14 .int := ⟨RX12, TX12, 58, rfl, rfl, by decide +kernel⟩
theorem ft_X12_15 : FT 12 15 .int := ⟨RX12, TX12, 58, rfl, rfl, by decide +kernel⟩
theorem ft_X12_16 : FT 12 16 .int := ⟨RX12, TX12, 58, rfl, rfl, by decide +kernel⟩
theorem ft_X12_17 : FT 12 17 .int := ⟨RX12, TX12, 58, rfl, rfl, by decide +kernel⟩
theorem ft_X12_18 : FT 12 18 .int := ⟨RX12, TX12, 58, rfl, rfl, by decide +kernel⟩
theorem ft_X12_21 : FT 12 21 .int := ⟨RX12, TX12, 58, rfl, rfl, by decide +kernel⟩
theorem ft_X12_22 : FT 12 22 .int := ⟨RX12, TX12, 58, rfl, rfl, by decide +kernel⟩
theorem ft_X12_23 : FT 12 23 .int := ⟨RX12, TX12, 58, rfl, rfl, by decide +kernel⟩
theorem ft_X12_24 : FT 12 24 .int := ⟨RX12, TX12, 58, rfl, rfl, by decide +kernel⟩
theorem ft_X12_25 : FT 12 25 .int := ⟨RX12, TX12, 58, rfl, rfl, by decide +kernel⟩
theorem ft_X12_26 : FT 12 26 .int := ⟨RX12, TX12, 58, rfl, rfl, by decide +kernel⟩
theorem ft_X12_27 : FT 12 27 .int := ⟨RX12, TX12, 58, rfl, rfl, by decide +kernel⟩
theorem ft_X12_28 : FT 12 28 .int := ⟨RX12, TX12, 58, rfl, rfl, by decide +kernel⟩
theorem ft_X12_33 : FT 12 33 .int := ⟨RX12, TX12, 58, rfl, rfl, by decide +kernel⟩
theorem ft_X12_35 : FT 12 35 .int := ⟨RX12, TX12, 58, rfl, rfl, by decide +kernel⟩
theorem ft_X12_36 : FT 12 36 .int := ⟨RX12, TX12, 58, rfl, rfl, by decide +kernel⟩
theorem ft_X12_37 : FT 12 37 .int := ⟨RX12, TX12, 58, rfl, rfl, by decide +kernel⟩
theorem ft_X12_38 : FT 12 38 .int := ⟨RX12, TX12, 58, rfl, rfl, by decide +kernel⟩
theorem ft_X12_39 : FT 12 39 .int := ⟨RX12, TX12, 58, rfl, rfl, by decide +kernel⟩
theorem ft_X12_44 : FT 12 44 .int := ⟨RX12, TX12, 58, rfl, rfl, by decide +kernel⟩
theorem ft_X12_45 : FT 12 45 .int := ⟨RX12, TX12, 58, rfl, rfl, by decide +kernel⟩
theorem ft_X12_46 : FT 12 46 .int := ⟨RX12, TX12, 58, rfl, rfl, by decide +kernel⟩
theorem ft_X12_47 : FT 12 47 .int := ⟨RX12, TX12, 58, rfl, rfl, by decide +kernel⟩
theorem ft_X12_48 : FT 12 48 .int := ⟨RX12, TX12, 58, rfl, rfl, by decide +kernel⟩
theorem ft_X12_49 : FT 12 49 .int := ⟨RX12, TX12, 58, rfl, rfl, by decide +kernel⟩
theorem ft_X12_50 : FT 12 50 .int := ⟨RX12, TX12, 58, rfl, rfl, by decide +kernel⟩
theorem ft_X12_56 : FT 12 56 .int := ⟨RX12, TX12, 58, rfl, rfl, by decide +kernel⟩
theorem ft_X12_57 : FT 12 57 .int := ⟨RX12, TX12, 58, rfl, rfl, by decide +kernel⟩
theorem ft_X2_3 : FT 2 3 .int := ⟨RX2, TX2, 11, rfl, rfl, by decide +kernel⟩
theorem ft_X2_4 : FT 2 4 .int := ⟨RX2, TX2, 11, rfl, rfl, by decide +kernel⟩
theorem ft_X2_5 : FT 2 5 .int := ⟨RX2, TX2, 11, rfl, rfl, by decide +kernel⟩
theorem ft_X2_6 : FT 2 6 .int := ⟨RX2, TX2, 11, rfl, rfl, by decide +kernel⟩
theorem ft_X2_7 : FT 2 7 .int := ⟨RX2, TX2, 11, rfl, rfl, by decide +kernel⟩
theorem ft_X2_9 : FT 2 9 .int := ⟨RX2, TX2, 11, rfl, rfl, by decide +kernel⟩
theorem ft_X2_10 : FT 2 10 .int := ⟨RX2, TX2, 11, rfl, rfl, by decide +kernel⟩
theorem ft_X3_1 : FT 3 1 .int := ⟨RX3, TX3, 7, rfl, rfl, by decide +kernel⟩
theorem ft_X3_2 : FT 3 2 .int := ⟨RX3, TX3, 7, rfl, rfl, by decide +kernel⟩
theorem ft_X3_3 : FT 3 3 .int := ⟨RX3, TX3, 7, rfl, rfl, by decide +kernel⟩
theorem ft_X3_4 : FT 3 4 .int := ⟨RX3, TX3, 7, rfl, rfl, by decide +kernel⟩
theorem ft_X3_5 : FT 3 5 .int := ⟨RX3, TX3, 7, rfl, rfl, by decide +kernel⟩
theorem ft_X3_6 : FT 3 6 .int := ⟨RX3, TX3, 7, rfl, rfl, by decide +kernel⟩
theorem ft_X4_1 : FT 4 1 .boolean := ⟨RX4, TX4, 4, rfl, rfl, by decide +kernel⟩
theorem ft_X4_2 : FT 4 2 .boolean := ⟨RX4, TX4, 4, rfl, rfl, by decide +kernel⟩
theorem ft_X4_3 : FT 4 3 .int := ⟨RX4, TX4, 4, rfl, rfl, by decide +kernel⟩
theorem ft_X5_0 : FT 5 0 .int := ⟨RX5, TX5, 16, rfl, rfl, by decide +kernel⟩
theorem ft_X5_1 : FT 5 1 .int := ⟨RX5, TX5, 16, rfl, rfl, by decide +kernel⟩
theorem ft_X5_2 : FT 5 2 .int := ⟨RX5, TX5, 16, rfl, rfl, by decide +kernel⟩
theorem ft_X5_3 : FT 5 3 .int := ⟨RX5, TX5, 16, rfl, rfl, by decide +kernel⟩
theorem ft_X5_4 : FT 5 4 .int := ⟨RX5, TX5, 16, rfl, rfl, by decide +kernel⟩
theorem ft_X5_5 : FT 5 5 .int := ⟨RX5, TX5, 16, rfl, rfl, by decide +kernel⟩
theorem ft_X5_6 : FT 5 6 .int := ⟨RX5, TX5, 16, rfl, rfl, by decide +kernel⟩
theorem ft_X5_10 : FT 5 10 .long := ⟨RX5, TX5, 16, rfl, rfl, by decide +kernel⟩
theorem ft_X5_11 : FT 5 11 .int := ⟨RX5, TX5, 16, rfl, rfl, by decide +kernel⟩
theorem ft_X5_12 : FT 5 12 .int := ⟨RX5, TX5, 16, rfl, rfl, by decide +kernel⟩
theorem ft_X5_13 : FT 5 13 .int := ⟨RX5, TX5, 16, rfl, rfl, by decide +kernel⟩
theorem ft_X5_14 : FT 5 14 .int := ⟨RX5, TX5, 16, rfl, rfl, by decide +kernel⟩
theorem ft_X5_15 : FT 5 15 .int := ⟨RX5, TX5, 16, rfl, rfl, by decide +kernel⟩
theorem ft_X6_1 : FT 6 1 .int := ⟨RX6, TX6, 9, rfl, rfl, by decide +kernel⟩
theorem ft_X6_2 : FT 6 2 .int := ⟨RX6, TX6, 9, rfl, rfl, by decide +kernel⟩
theorem ft_X6_3 : FT 6 3 .int := ⟨RX6, TX6, 9, rfl, rfl, by decide +kernel⟩
theorem ft_X6_4 : FT 6 4 .int := ⟨RX6, TX6, 9, rfl, rfl, by decide +kernel⟩
theorem ft_X6_5 : FT 6 5 .int := ⟨RX6, TX6, 9, rfl, rfl, by decide +kernel⟩
theorem ft_X6_6 : FT 6 6 .int := ⟨RX6, TX6, 9, rfl, rfl, by decide +kernel⟩
theorem ft_X6_7 : FT 6 7 .int := ⟨RX6, TX6, 9, rfl, rfl, by decide +kernel⟩
theorem ft_X6_8 : FT 6 8 .int := ⟨RX6, TX6, 9, rfl, rfl, by decide +kernel⟩
theorem ft_X8_0 : FT 8 0 .int := ⟨RX8, TX8, 6, rfl, rfl, by decide +kernel⟩
theorem ft_X8_1 : FT 8 1 .int := ⟨RX8, TX8, 6, rfl, rfl, by decide +kernel⟩
theorem ft_X9_3 : FT 9 3 .int := ⟨RX9, TX9, 4, rfl, rfl, by decide +kernel⟩
theorem mf_J6_bitCount_0f7a4 : MF yJ6_bitCount_0f7a4 cJ6_bitCount_0f7a4 1 (some .int) 1 := ⟨mw_4_196, mw_1_20, by decide +kernel, by decide +kernel, by decide⟩
theorem mf_J9_abs_067f4 : MF yJ9_abs_067f4 cJ9_abs_067f4 2 (some .long) 1 := ⟨mw_5_10, mw_1_15, by decide +kernel, by decide +kernel, by decide⟩
theorem mf_J9_abs_0f7a4 : MF yJ9_abs_0f7a4 cJ9_abs_0f7a4 1 (some .int) 1 := ⟨mw_4_152, mw_1_15, by decide +kernel, by decide +kernel, by decide⟩
theorem mf_J9_floorDiv_7cf53 : MF yJ9_floorDiv_7cf53 cJ9_floorDiv_7cf53 3 (some .int) 2 := ⟨mw_5_47, mw_1_15, by decide +kernel, by decide +kernel, by decide⟩
theorem mf_J9_floorDiv_f86c9 : MF yJ9_floorDiv_f86c9 cJ9_floorDiv_f86c9 6 (some .long) 2 := ⟨mw_6_44, mw_1_15, by decide +kernel, by decide +kernel, by decide⟩
theorem mf_J9_max_7cf53 : MF yJ9_max_7cf53 cJ9_max_7cf53 2 (some .int) 2 := ⟨mw_4_99, mw_1_15, by decide +kernel, by decide +kernel, by decide⟩
theorem mf_J9_max_f86c9 : MF yJ9_max_f86c9 cJ9_max_f86c9 4 (some .long) 2 := ⟨mw_6_51, mw_1_15, by decide +kernel, by decide +kernel, by decide⟩
theorem mf_J9_min_7cf53 : MF yJ9_min_7cf53 cJ9_min_7cf53 2 (some .int) 2 := ⟨mw_3_103, mw_1_15, by decide +kernel, by decide +kernel, by decide⟩
theorem mf_J9_min_f86c9 : MF yJ9_min_f86c9 cJ9_min_f86c9 4 (some .long) 2 := ⟨mw_6_48, mw_1_15, by decide +kernel, by decide +kernel, by decide⟩
theorem mf_X0_isNew : MF yX0_isNew cX0_isNew 2 (some .boolean) 1 := ⟨mw_3_234, mw_1_6, by decide +kernel, by decide +kernel, by decide⟩
theorem mv_X0_isNew : MV yX0_isNew := ⟨mw_3_233, ms_1_12⟩
theorem mf_X0_readKept : MF yX0_readKept cX0_readKept 3 (some .boolean) 0 := ⟨mw_3_208, mw_1_6, by decide +kernel, by decide +kernel, by decide⟩
theorem mv_X0_readKept : MV yX0_readKept := ⟨mw_3_207, ms_1_10⟩
theorem mf_X0_readOrder : MF yX0_readOrder cX0_readOrder 3 (some .boolean) 0 := ⟨mw_3_230, mw_1_6, by decide +kernel, by decide +kernel, by decide⟩
theorem mv_X0_readOrder : MV yX0_readOrder := ⟨mw_3_229, ms_1_11⟩
theorem mf_X0_readPart : MF yX0_readPart cX0_readPart 1 (some .boolean) 0 := ⟨mw_3_123, mw_1_6, by decide +kernel, by decide +kernel, by decide⟩
theorem mv_X0_readPart : MV yX0_readPart := ⟨mw_3_122, ms_1_8⟩
theorem mf_X0_readRow : MF yX0_readRow cX0_readRow 4 (some .boolean) 0 := ⟨mw_3_188, mw_1_6, by decide +kernel, by decide +kernel, by decide⟩
theorem mv_X0_readRow : MV yX0_readRow := ⟨mw_3_187, ms_1_9⟩
theorem mf_X0_readSetting : MF yX0_readSetting cX0_readSetting 4 (some .boolean) 3 := ⟨mw_4_11, mw_1_6, by decide +kernel, by decide +kernel, by decide⟩
theorem mv_X0_readSetting : MV yX0_readSetting := ⟨mw_4_10, ms_1_13⟩
theorem mf_X0_readText : MF yX0_readText cX0_readText 3 (some .boolean) 1 := ⟨mw_3_96, mw_1_6, by decide +kernel, by decide +kernel, by decide⟩
theorem mv_X0_readText : MV yX0_readText := ⟨mw_3_94, mw_3_95⟩
theorem mf_X10_boatAt : MF yX10_boatAt cX10_boatAt 2 (some .int) 1 := ⟨mw_6_223, mw_1_12, by decide +kernel, by decide +kernel, by decide⟩
theorem mv_X10_boatAt : MV yX10_boatAt := ⟨mw_6_221, mw_6_222⟩
theorem mf_X10_buildBoat : MF yX10_buildBoat cX10_buildBoat 9 none 4 := ⟨mw_6_216, mw_1_12, by decide +kernel, by decide +kernel, by decide⟩
theorem mv_X10_buildBoat : MV yX10_buildBoat := ⟨mw_6_214, mw_6_215⟩
theorem mf_X10_cheapestBehind : MF yX10_cheapestBehind cX10_cheapestBehind 8 (some .int) 3 := ⟨mw_6_107, mw_1_12, by decide +kernel, by decide +kernel, by decide⟩
theorem mv_X10_cheapestBehind : MV yX10_cheapestBehind := ⟨mw_6_106, ms_4_3⟩
theorem mf_X10_chooseTrees : MF yX10_chooseTrees cX10_chooseTrees 7 (some .boolean) 3 := ⟨mw_6_95, mw_1_12, by decide +kernel, by decide +kernel, by decide⟩
theorem mv_X10_chooseTrees : MV yX10_chooseTrees := ⟨mw_6_93, mw_6_94⟩
theorem mf_X10_compareBoats : MF yX10_compareBoats cX10_compareBoats 7 none 4 := ⟨mw_6_232, mw_1_12, by decide +kernel, by decide +kernel, by decide⟩
theorem mv_X10_compareBoats : MV yX10_compareBoats := ⟨mw_6_230, mw_6_231⟩
theorem mf_X10_costWith : MF yX10_costWith cX10_costWith 5 (some .int) 3 := ⟨mw_6_114, mw_1_12, by decide +kernel, by decide +kernel, by decide⟩
theorem mv_X10_costWith : MV yX10_costWith := ⟨mw_6_113, ms_4_4⟩
theorem mf_X10_firstCheapest : MF yX10_firstCheapest cX10_firstCheapest 8 (some .int) 4 := ⟨mw_6_119, mw_1_12, by decide +kernel, by decide +kernel, by decide⟩
theorem mv_X10_firstCheapest : MV yX10_firstCheapest := ⟨mw_6_118, ms_4_5⟩
theorem mf_X10_highestStripOf : MF yX10_highestStripOf cX10_highestStripOf 4 (some .int) 1 := ⟨mw_6_185, mw_1_12, by decide +kernel, by decide +kernel, by decide⟩
theorem mv_X10_highestStripOf : MV yX10_highestStripOf := ⟨mw_6_183, mw_6_184⟩
theorem mf_X10_isAheadOf : MF yX10_isAheadOf cX10_isAheadOf 3 (some .boolean) 2 := ⟨mw_6_177, mw_1_12, by decide +kernel, by decide +kernel, by decide⟩
theorem mf_X10_joinPlanks : MF yX10_joinPlanks cX10_joinPlanks 15 (some .boolean) 2 := ⟨mw_6_164, mw_1_12, by decide +kernel, by decide +kernel, by decide⟩
theorem mv_X10_joinPlanks : MV yX10_joinPlanks := ⟨mw_6_162, mw_6_163⟩
theorem mf_X10_matchRibs : MF yX10_matchRibs cX10_matchRibs 7 (some .int) 2 := ⟨mw_6_102, mw_1_12, by decide +kernel, by decide +kernel, by decide⟩
theorem mv_X10_matchRibs : MV yX10_matchRibs := ⟨mw_6_100, mw_6_101⟩
theorem mf_X10_tryPlank : MF yX10_tryPlank cX10_tryPlank 10 (some .boolean) 4 := ⟨mw_6_172, mw_1_12, by decide +kernel, by decide +kernel, by decide⟩
theorem mv_X10_tryPlank : MV yX10_tryPlank := ⟨mw_6_171, ms_4_7⟩
theorem mf_X10_tryPlanks : MF yX10_tryPlanks cX10_tryPlanks 7 (some .boolean) 4 := ⟨mw_6_168, mw_1_12, by decide +kernel, by decide +kernel, by decide⟩
theorem mv_X10_tryPlanks : MV yX10_tryPlanks := ⟨mw_6_167, ms_4_6⟩
theorem mf_X11_answer : MF yX11_answer cX11_answer 2 (some .int) 1 := ⟨mw_4_23, mw_1_1, by decide +kernel, by decide +kernel, by decide⟩
theorem mv_X11_answer : MV yX11_answer := ⟨mw_4_22, ms_1_14⟩
theorem mf_X11_apart : MF yX11_apart cX11_apart 5 (some .int) 4 := ⟨mw_6_227, mw_1_1, by decide +kernel, by decide +kernel, by decide⟩
theorem mv_X11_apart : MV yX11_apart := ⟨mw_6_225, mw_6_226⟩
theorem mf_X11_areMeasures : MF yX11_areMeasures cX11_areMeasures 4 (some .boolean) 2 := ⟨mw_7_3, mw_1_1, by decide +kernel, by decide +kernel, by decide⟩
theorem mv_X11_areMeasures : MV yX11_areMeasures := ⟨mw_7_2, ms_4_11⟩
theorem mf_X11_areSquares : MF yX11_areSquares cX11_areSquares 4 (some .boolean) 2 := ⟨mw_6_194, mw_1_1, by decide +kernel, by decide +kernel, by decide⟩
theorem mv_X11_areSquares : MV yX11_areSquares := ⟨mw_6_193, ms_4_8⟩
theorem mf_X11_back : MF yX11_back cX11_back 3 (some .int) 0 := ⟨mw_7_44, mw_1_1, by decide +kernel, by decide +kernel, by decide⟩
theorem mv_X11_back : MV yX11_back := ⟨mw_7_42, mw_7_43⟩
theorem mf_X11_banana : MF yX11_banana cX11_banana 2 (some .int) 1 := ⟨mw_6_155, mw_1_1, by decide +kernel, by decide +kernel, by decide⟩
theorem mv_X11_banana : MV yX11_banana := ⟨mw_6_153, mw_6_154⟩
theorem mf_X11_bend : MF yX11_bend cX11_bend 4 (some .int) 3 := ⟨mw_4_126, mw_1_1, by decide +kernel, by decide +kernel, by decide⟩
theorem mv_X11_bend : MV yX11_bend := ⟨mw_4_124, mw_4_125⟩
theorem mf_X11_bevel : MF yX11_bevel cX11_bevel 3 (some .boolean) 1 := ⟨mw_6_127, mw_1_1, by decide +kernel, by decide +kernel, by decide⟩
theorem mv_X11_bevel : MV yX11_bevel := ⟨mw_6_125, mw_6_126⟩
theorem mf_X11_boat : MF yX11_boat cX11_boat 5 (some .int) 4 := ⟨mw_6_208, mw_1_1, by decide +kernel, by decide +kernel, by decide⟩
theorem mv_X11_boat : MV yX11_boat := ⟨mw_6_206, mw_6_207⟩
theorem mf_X11_book : MF yX11_book cX11_book 3 (some .int) 1 := ⟨mw_3_92, mw_1_1, by decide +kernel, by decide +kernel, by decide⟩
theorem mv_X11_book : MV yX11_book := ⟨mw_3_90, mw_3_91⟩
theorem mf_X11_bottom : MF yX11_bottom cX11_bottom 1 (some .long) 0 := ⟨mw_2_236, mw_1_1, by decide +kernel, by decide +kernel, by decide⟩
theorem mv_X11_bottom : MV yX11_bottom := ⟨mw_2_234, mw_2_235⟩
theorem mf_X11_built : MF yX11_built cX11_built 12 (some .int) 7 := ⟨mw_6_238, mw_1_1, by decide +kernel, by decide +kernel, by decide⟩
theorem mv_X11_built : MV yX11_built := ⟨mw_6_236, mw_6_237⟩
theorem mf_X11_carried : MF yX11_carried cX11_carried 9 (some .boolean) 3 := ⟨mw_7_36, mw_1_1, by decide +kernel, by decide +kernel, by decide⟩
theorem mv_X11_carried : MV yX11_carried := ⟨mw_7_34, mw_7_35⟩
theorem mf_X11_centre : MF yX11_centre cX11_centre 4 (some .boolean) 1 := ⟨mw_7_27, mw_1_1, by decide +kernel, by decide +kernel, by decide⟩
theorem mv_X11_centre : MV yX11_centre := ⟨mw_7_25, mw_7_26⟩
theorem mf_X11_commonDivisor : MF yX11_commonDivisor cX11_commonDivisor 11 (some .long) 2 := ⟨mw_5_7, mw_1_1, by decide +kernel, by decide +kernel, by decide⟩
theorem mf_X11_crook : MF yX11_crook cX11_crook 2 (some .int) 1 := ⟨mw_6_81, mw_1_1, by decide +kernel, by decide +kernel, by decide⟩
theorem mv_X11_crook : MV yX11_crook := ⟨mw_6_79, mw_6_80⟩
theorem mf_X11_ended : MF yX11_ended cX11_ended 2 (some .int) 1 := ⟨mw_5_63, mw_1_1, by decide +kernel, by decide +kernel, by decide⟩
theorem mv_X11_ended : MV yX11_ended := ⟨mw_5_61, mw_5_62⟩
theorem mf_X11_fault : MF yX11_fault cX11_fault 2 (some .int) 1 := ⟨mw_4_28, mw_1_1, by decide +kernel, by decide +kernel, by decide⟩
theorem mv_X11_fault : MV yX11_fault := ⟨mw_4_26, mw_4_27⟩
theorem mf_X11_feed : MF yX11_feed cX11_feed 6 (some .int) 5 := ⟨mw_3_84, mw_1_1, by decide +kernel, by decide +kernel, by decide⟩
theorem mv_X11_feed : MV yX11_feed := ⟨mw_3_82, mw_3_83⟩
theorem mf_X11_given : MF yX11_given cX11_given 2 (some .int) 1 := ⟨mw_6_59, mw_1_1, by decide +kernel, by decide +kernel, by decide⟩
theorem mv_X11_given : MV yX11_given := ⟨mw_6_57, mw_6_58⟩
theorem mf_X11_isBoatAsMeasured : MF yX11_isBoatAsMeasured cX11_isBoatAsMeasured 6 (some .boolean) 3 := ⟨mw_7_7, mw_1_1, by decide +kernel, by decide +kernel, by decide⟩
theorem mv_X11_isBoatAsMeasured : MV yX11_isBoatAsMeasured := ⟨mw_7_6, ms_4_12⟩
theorem mf_X11_isHand : MF yX11_isHand cX11_isHand 2 (some .boolean) 2 := ⟨mw_6_211, mw_1_1, by decide +kernel, by decide +kernel, by decide⟩
theorem mf_X11_isRateFitting : MF yX11_isRateFitting cX11_isRateFitting 11 (some .boolean) 4 := ⟨mw_6_203, mw_1_1, by decide +kernel, by decide +kernel, by decide⟩
theorem mv_X11_isRateFitting : MV yX11_isRateFitting := ⟨mw_6_202, ms_4_10⟩
theorem mf_X11_isWithin : MF yX11_isWithin cX11_isWithin 6 (some .boolean) 3 := ⟨mw_3_8, mw_1_1, by decide +kernel, by decide +kernel, by decide⟩
theorem mf_X11_keep : MF yX11_keep cX11_keep 3 (some .boolean) 2 := ⟨mw_4_73, mw_1_1, by decide +kernel, by decide +kernel, by decide⟩
theorem mv_X11_keep : MV yX11_keep := ⟨mw_4_71, mw_4_72⟩
theorem mf_X11_lath : MF yX11_lath cX11_lath 5 (some .boolean) 4 := ⟨mw_4_189, mw_1_1, by decide +kernel, by decide +kernel, by decide⟩
theorem mv_X11_lath : MV yX11_lath := ⟨mw_4_187, mw_4_188⟩
theorem mf_X11_least : MF yX11_least cX11_least 5 (some .int) 3 := ⟨mw_5_67, mw_1_1, by decide +kernel, by decide +kernel, by decide⟩
theorem mv_X11_least : MV yX11_least := ⟨mw_5_65, mw_5_66⟩
theorem mf_X11_leastMove : MF yX11_leastMove cX11_leastMove 2 (some .int) 1 := ⟨mw_5_120, mw_1_1, by decide +kernel, by decide +kernel, by decide⟩
theorem mv_X11_leastMove : MV yX11_leastMove := ⟨mw_5_118, mw_5_119⟩
theorem mf_X11_length : MF yX11_length cX11_length 2 (some .int) 1 := ⟨mw_6_146, mw_1_1, by decide +kernel, by decide +kernel, by decide⟩
theorem mv_X11_length : MV yX11_length := ⟨mw_6_144, mw_6_145⟩
theorem mf_X11_lies : MF yX11_lies cX11_lies 4 (some .int) 3 := ⟨mw_4_104, mw_1_1, by decide +kernel, by decide +kernel, by decide⟩
theorem mv_X11_lies : MV yX11_lies := ⟨mw_4_102, mw_4_103⟩
theorem mf_X11_lines : MF yX11_lines cX11_lines 3 (some .int) 2 := ⟨mw_4_78, mw_1_1, by decide +kernel, by decide +kernel, by decide⟩
theorem mv_X11_lines : MV yX11_lines := ⟨mw_4_76, mw_4_77⟩
theorem mf_X11_mark : MF yX11_mark cX11_mark 3 (some .int) 0 := ⟨mw_7_40, mw_1_1, by decide +kernel, by decide +kernel, by decide⟩
theorem mv_X11_mark : MV yX11_mark := ⟨mw_7_38, mw_7_39⟩
theorem mf_X11_move : MF yX11_move cX11_move 3 (some .boolean) 2 := ⟨mw_4_67, mw_1_1, by decide +kernel, by decide +kernel, by decide⟩
theorem mv_X11_move : MV yX11_move := ⟨mw_4_65, mw_4_66⟩
theorem mf_X11_no : MF yX11_no cX11_no 2 (some .boolean) 1 := ⟨mw_3_13, mw_1_1, by decide +kernel, by decide +kernel, by decide⟩
theorem mv_X11_no : MV yX11_no := ⟨mw_3_12, ms_1_1⟩
theorem mf_X11_none : MF yX11_none cX11_none 2 (some .int) 1 := ⟨mw_3_59, mw_1_1, by decide +kernel, by decide +kernel, by decide⟩
theorem mv_X11_none : MV yX11_none := ⟨mw_3_58, ms_1_5⟩
theorem mf_X11_plank : MF yX11_plank cX11_plank 2 (some .int) 1 := ⟨mw_6_181, mw_1_1, by decide +kernel, by decide +kernel, by decide⟩
theorem mv_X11_plank : MV yX11_plank := ⟨mw_6_179, mw_6_180⟩
theorem mf_X11_planks : MF yX11_planks cX11_planks 2 (some .int) 1 := ⟨mw_6_159, mw_1_1, by decide +kernel, by decide +kernel, by decide⟩
theorem mv_X11_planks : MV yX11_planks := ⟨mw_6_157, mw_6_158⟩
theorem mf_X11_point : MF yX11_point cX11_point 3 (some .int) 2 := ⟨mw_4_40, mw_1_1, by decide +kernel, by decide +kernel, by decide⟩
theorem mv_X11_point : MV yX11_point := ⟨mw_4_38, mw_4_39⟩
theorem mf_X11_pour : MF yX11_pour cX11_pour 6 (some .boolean) 5 := ⟨mw_3_67, mw_1_1, by decide +kernel, by decide +kernel, by decide⟩
theorem mv_X11_pour : MV yX11_pour := ⟨mw_3_65, mw_3_66⟩
theorem mf_X11_ran : MF yX11_ran cX11_ran 2 (some .int) 1 := ⟨mw_6_55, mw_1_1, by decide +kernel, by decide +kernel, by decide⟩
theorem mv_X11_ran : MV yX11_ran := ⟨mw_6_53, mw_6_54⟩
theorem mf_X11_read : MF yX11_read cX11_read 4 (some .long) 2 := ⟨mw_3_55, mw_1_1, by decide +kernel, by decide +kernel, by decide⟩
theorem mv_X11_read : MV yX11_read := ⟨mw_3_53, mw_3_54⟩
theorem mf_X11_rib : MF yX11_rib cX11_rib 2 (some .int) 1 := ⟨mw_6_123, mw_1_1, by decide +kernel, by decide +kernel, by decide⟩
theorem mv_X11_rib : MV yX11_rib := ⟨mw_6_121, mw_6_122⟩
theorem mf_X11_ribs : MF yX11_ribs cX11_ribs 4 (some .int) 2 := ⟨mw_6_90, mw_1_1, by decide +kernel, by decide +kernel, by decide⟩
theorem mv_X11_ribs : MV yX11_ribs := ⟨mw_6_88, mw_6_89⟩
theorem mf_X11_rounds : MF yX11_rounds cX11_rounds 3 (some .int) 1 := ⟨mw_5_14, mw_1_1, by decide +kernel, by decide +kernel, by decide⟩
theorem mv_X11_rounds : MV yX11_rounds := ⟨mw_5_12, mw_5_13⟩
theorem mf_X11_run : MF yX11_run cX11_run 1 (some .int) 0 := ⟨mw_5_226, mw_1_1, by decide +kernel, by decide +kernel, by decide⟩
theorem mv_X11_run : MV yX11_run := ⟨mw_5_224, mw_5_225⟩
theorem mf_X11_slip : MF yX11_slip cX11_slip 3 (some .int) 2 := ⟨mw_5_139, mw_1_1, by decide +kernel, by decide +kernel, by decide⟩
theorem mv_X11_slip : MV yX11_slip := ⟨mw_5_137, mw_5_138⟩
theorem mf_X11_slips : MF yX11_slips cX11_slips 1 (some .int) 0 := ⟨mw_5_124, mw_1_1, by decide +kernel, by decide +kernel, by decide⟩
theorem mv_X11_slips : MV yX11_slips := ⟨mw_5_122, mw_5_123⟩
theorem mf_X11_status : MF yX11_status cX11_status 1 (some .int) 0 := ⟨mw_2_228, mw_1_1, by decide +kernel, by decide +kernel, by decide⟩
theorem mv_X11_status : MV yX11_status := ⟨mw_2_226, mw_2_227⟩
theorem mf_X11_strain : MF yX11_strain cX11_strain 3 (some .long) 2 := ⟨mw_4_180, mw_1_1, by decide +kernel, by decide +kernel, by decide⟩
theorem mv_X11_strain : MV yX11_strain := ⟨mw_4_178, mw_4_179⟩
theorem mf_X11_tell : MF yX11_tell cX11_tell 7 (some .boolean) 2 := ⟨mw_5_4, mw_1_1, by decide +kernel, by decide +kernel, by decide⟩
theorem mv_X11_tell : MV yX11_tell := ⟨mw_5_3, ms_2_9⟩
theorem mf_X11_tellRates : MF yX11_tellRates cX11_tellRates 9 (some .int) 4 := ⟨mw_6_199, mw_1_1, by decide +kernel, by decide +kernel, by decide⟩
theorem mv_X11_tellRates : MV yX11_tellRates := ⟨mw_6_198, ms_4_9⟩
theorem mf_X11_told : MF yX11_told cX11_told 2 (some .int) 1 := ⟨mw_4_32, mw_1_1, by decide +kernel, by decide +kernel, by decide⟩
theorem mv_X11_told : MV yX11_told := ⟨mw_4_30, mw_4_31⟩
theorem mf_X11_top : MF yX11_top cX11_top 1 (some .long) 0 := ⟨mw_2_232, mw_1_1, by decide +kernel, by decide +kernel, by decide⟩
theorem mv_X11_top : MV yX11_top := ⟨mw_2_230, mw_2_231⟩
theorem mf_X11_tray : MF yX11_tray cX11_tray 4 (some .boolean) 3 := ⟨mw_3_0, mw_1_1, by decide +kernel, by decide +kernel, by decide⟩
theorem mv_X11_tray : MV yX11_tray := ⟨mw_2_238, mw_2_239⟩
theorem mf_X11_unfair : MF yX11_unfair cX11_unfair 3 (some .int) 2 := ⟨mw_4_136, mw_1_1, by decide +kernel, by decide +kernel, by decide⟩
theorem mv_X11_unfair : MV yX11_unfair := ⟨mw_4_134, mw_4_135⟩
theorem mf_X11_unfairAll : MF yX11_unfairAll cX11_unfairAll 1 (some .int) 0 := ⟨mw_4_156, mw_1_1, by decide +kernel, by decide +kernel, by decide⟩
theorem mv_X11_unfairAll : MV yX11_unfairAll := ⟨mw_4_154, mw_4_155⟩
theorem mf_X11_view : MF yX11_view cX11_view 2 (some .int) 1 := ⟨mw_4_36, mw_1_1, by decide +kernel, by decide +kernel, by decide⟩
theorem mv_X11_view : MV yX11_view := ⟨mw_4_34, mw_4_35⟩
theorem mf_X11_volume : MF yX11_volume cX11_volume 2 (some .boolean) 1 := ⟨mw_7_11, mw_1_1, by decide +kernel, by decide +kernel, by decide⟩
theorem mv_X11_volume : MV yX11_volume := ⟨mw_7_9, mw_7_10⟩
theorem mf_X11_way : MF yX11_way cX11_way 3 (some .int) 1 := ⟨mw_5_143, mw_1_1, by decide +kernel, by decide +kernel, by decide⟩
theorem mv_X11_way : MV yX11_way := ⟨mw_5_141, mw_5_142⟩
theorem mf_X11_wet : MF yX11_wet cX11_wet 5 (some .int) 3 := ⟨mw_6_189, mw_1_1, by decide +kernel, by decide +kernel, by decide⟩
theorem mv_X11_wet : MV yX11_wet := ⟨mw_6_187, mw_6_188⟩
theorem mf_X11_where : MF yX11_where cX11_where 3 (some .int) 2 := ⟨mw_4_167, mw_1_1, by decide +kernel, by decide +kernel, by decide⟩
theorem mv_X11_where : MV yX11_where := ⟨mw_4_165, mw_4_166⟩
theorem mf_X11_width : MF yX11_width cX11_width 3 (some .int) 2 := ⟨mw_6_131, mw_1_1, by decide +kernel, by decide +kernel, by decide⟩
theorem mv_X11_width : MV yX11_width := ⟨mw_6_129, mw_6_130⟩
theorem mf_X11_write : MF yX11_write cX11_write 6 (some .boolean) 3 := ⟨mw_3_33, mw_1_1, by decide +kernel, by decide +kernel, by decide⟩
theorem mv_X11_write : MV yX11_write := ⟨mw_3_31, mw_3_32⟩
theorem mf_X11_yes : MF yX11_yes cX11_yes 1 (some .boolean) 0 := ⟨mw_3_29, mw_1_1, by decide +kernel, by decide +kernel, by decide⟩
theorem mv_X11_yes : MV yX11_yes := ⟨mw_3_28, ms_1_3⟩
theorem mf_X12_aBend : MF yX12_aBend cX12_aBend 4 (some .boolean) 1 := ⟨mw_8_119, mw_1_13, by decide +kernel, by decide +kernel, by decide⟩
theorem mv_X12_aBend : MV yX12_aBend := ⟨mw_8_118, ms_6_0⟩
theorem mf_X12_aKeep : MF yX12_aKeep cX12_aKeep 2 (some .boolean) 0 := ⟨mw_8_94, mw_1_13, by decide +kernel, by decide +kernel, by decide⟩
theorem mv_X12_aKeep : MV yX12_aKeep := ⟨mw_8_93, ms_5_11⟩
theorem mf_X12_aRow : MF yX12_aRow cX12_aRow 3 (some .boolean) 0 := ⟨mw_8_90, mw_1_13, by decide +kernel, by decide +kernel, by decide⟩
theorem mv_X12_aRow : MV yX12_aRow := ⟨mw_8_89, ms_5_10⟩
theorem mf_X12_ahead : MF yX12_ahead cX12_ahead 2 none 0 := ⟨mw_8_56, mw_1_13, by decide +kernel, by decide +kernel, by decide⟩
theorem mv_X12_ahead : MV yX12_ahead := ⟨mw_8_55, ms_5_4⟩
theorem mf_X12_anOrder : MF yX12_anOrder cX12_anOrder 2 (some .boolean) 0 := ⟨mw_8_98, mw_1_13, by decide +kernel, by decide +kernel, by decide⟩
theorem mv_X12_anOrder : MV yX12_anOrder := ⟨mw_8_97, ms_5_12⟩
theorem mf_X12_apart : MF yX12_apart cX12_apart 7 (some .int) 4 := ⟨mw_9_160, mw_1_13, by decide +kernel, by decide +kernel, by decide⟩
theorem mv_X12_apart : MV yX12_apart := ⟨mw_9_158, mw_9_159⟩
theorem mf_X12_areaOf : MF yX12_areaOf cX12_areaOf 6 (some .long) 2 := ⟨mw_9_180, mw_1_13, by decide +kernel, by decide +kernel, by decide⟩
theorem mv_X12_areaOf : MV yX12_areaOf := ⟨mw_9_179, ms_8_0⟩
theorem mf_X12_back : MF yX12_back cX12_back 1 (some .int) 0 := ⟨mw_9_225, mw_1_13, by decide +kernel, by decide +kernel, by decide⟩
theorem mv_X12_back : MV yX12_back := ⟨mw_9_223, mw_9_224⟩
theorem mf_X12_banana : MF yX12_banana cX12_banana 2 (some .int) 1 := ⟨mw_9_121, mw_1_13, by decide +kernel, by decide +kernel, by decide⟩
theorem mv_X12_banana : MV yX12_banana := ⟨mw_9_119, mw_9_120⟩
theorem mf_X12_begins : MF yX12_begins cX12_begins 3 none 1 := ⟨mw_8_52, mw_1_13, by decide +kernel, by decide +kernel, by decide⟩
theorem mv_X12_begins : MV yX12_begins := ⟨mw_8_51, ms_5_3⟩
theorem mf_X12_behindEnds : MF yX12_behindEnds cX12_behindEnds 5 (some .int) 1 := ⟨mw_9_52, mw_1_13, by decide +kernel, by decide +kernel, by decide⟩
theorem mv_X12_behindEnds : MV yX12_behindEnds := ⟨mw_9_51, ms_7_5⟩
theorem mf_X12_bend : MF yX12_bend cX12_bend 4 (some .int) 3 := ⟨mw_8_187, mw_1_13, by decide +kernel, by decide +kernel, by decide⟩
theorem mv_X12_bend : MV yX12_bend := ⟨mw_8_185, mw_8_186⟩
theorem mf_X12_bendAt : MF yX12_bendAt cX12_bendAt 2 (some .int) 1 := ⟨mw_8_191, mw_1_13, by decide +kernel, by decide +kernel, by decide⟩
theorem mv_X12_bendAt : MV yX12_bendAt := ⟨mw_8_190, ms_6_7⟩
theorem mf_X12_bends : MF yX12_bends cX12_bends 11 none 3 := ⟨mw_9_44, mw_1_13, by decide +kernel, by decide +kernel, by decide⟩
theorem mv_X12_bends : MV yX12_bends := ⟨mw_9_43, ms_7_4⟩
theorem mf_X12_bevel : MF yX12_bevel cX12_bevel 3 (some .boolean) 1 := ⟨mw_9_87, mw_1_13, by decide +kernel, by decide +kernel, by decide⟩
theorem mv_X12_bevel : MV yX12_bevel := ⟨mw_9_85, mw_9_86⟩
theorem mf_X12_boat : MF yX12_boat cX12_boat 5 (some .int) 4 := ⟨mw_9_148, mw_1_13, by decide +kernel, by decide +kernel, by decide⟩
theorem mv_X12_boat : MV yX12_boat := ⟨mw_9_146, mw_9_147⟩
theorem mf_X12_book : MF yX12_book cX12_book 4 (some .int) 1 := ⟨mw_8_44, mw_1_13, by decide +kernel, by decide +kernel, by decide⟩
theorem mv_X12_book : MV yX12_book := ⟨mw_8_42, mw_8_43⟩
theorem mf_X12_bottom : MF yX12_bottom cX12_bottom 1 (some .long) 0 := ⟨mw_8_1, mw_1_13, by decide +kernel, by decide +kernel, by decide⟩
theorem mv_X12_bottom : MV yX12_bottom := ⟨mw_7_239, mw_8_0⟩
theorem mf_X12_breadth : MF yX12_breadth cX12_breadth 2 (some .int) 1 := ⟨mw_8_195, mw_1_13, by decide +kernel, by decide +kernel, by decide⟩
theorem mv_X12_breadth : MV yX12_breadth := ⟨mw_8_194, ms_6_8⟩
theorem mf_X12_builds : MF yX12_builds cX12_builds 6 none 3 := ⟨mw_9_155, mw_1_13, by decide +kernel, by decide +kernel, by decide⟩
theorem mv_X12_builds : MV yX12_builds := ⟨mw_9_154, ms_7_13⟩
theorem mf_X12_built : MF yX12_built cX12_built 14 (some .int) 7 := ⟨mw_9_164, mw_1_13, by decide +kernel, by decide +kernel, by decide⟩
theorem mv_X12_built : MV yX12_built := ⟨mw_9_162, mw_9_163⟩
theorem mf_X12_byteAt : MF yX12_byteAt cX12_byteAt 2 (some .int) 1 := ⟨mw_8_60, mw_1_13, by decide +kernel, by decide +kernel, by decide⟩
theorem mv_X12_byteAt : MV yX12_byteAt := ⟨mw_8_59, ms_5_5⟩
theorem mf_X12_cameAt : MF yX12_cameAt cX12_cameAt 5 (some .int) 1 := ⟨mw_9_24, mw_1_13, by decide +kernel, by decide +kernel, by decide⟩
theorem mv_X12_cameAt : MV yX12_cameAt := ⟨mw_9_23, ms_7_1⟩
theorem mf_X12_carried : MF yX12_carried cX12_carried 9 (some .boolean) 3 := ⟨mw_9_188, mw_1_13, by decide +kernel, by decide +kernel, by decide⟩
theorem mv_X12_carried : MV yX12_carried := ⟨mw_9_186, mw_9_187⟩
theorem mf_X12_centre : MF yX12_centre cX12_centre 7 (some .boolean) 1 := ⟨mw_9_184, mw_1_13, by decide +kernel, by decide +kernel, by decide⟩
theorem mv_X12_centre : MV yX12_centre := ⟨mw_9_182, mw_9_183⟩
theorem mf_X12_closes : MF yX12_closes cX12_closes 1 (some .boolean) 0 := ⟨mw_8_123, mw_1_13, by decide +kernel, by decide +kernel, by decide⟩
theorem mv_X12_closes : MV yX12_closes := ⟨mw_8_122, ms_6_1⟩
theorem mf_X12_copies : MF yX12_copies cX12_copies 4 none 2 := ⟨mw_9_221, mw_1_13, by decide +kernel, by decide +kernel, by decide⟩
theorem mv_X12_copies : MV yX12_copies := ⟨mw_9_220, ms_8_3⟩
theorem mf_X12_counts : MF yX12_counts cX12_counts 2 (some .long) 2 := ⟨mw_8_231, mw_1_13, by decide +kernel, by decide +kernel, by decide⟩
theorem mf_X12_crook : MF yX12_crook cX12_crook 2 (some .int) 1 := ⟨mw_9_196, mw_1_13, by decide +kernel, by decide +kernel, by decide⟩
theorem mv_X12_crook : MV yX12_crook := ⟨mw_9_194, mw_9_195⟩
theorem mf_X12_crookOf : MF yX12_crookOf cX12_crookOf 4 (some .int) 1 := ⟨mw_9_200, mw_1_13, by decide +kernel, by decide +kernel, by decide⟩
theorem mv_X12_crookOf : MV yX12_crookOf := ⟨mw_9_199, ms_8_1⟩
theorem mf_X12_cut : MF yX12_cut cX12_cut 3 (some .long) 2 := ⟨mw_8_23, mw_1_13, by decide +kernel, by decide +kernel, by decide⟩
theorem mf_X12_determinant : MF yX12_determinant cX12_determinant 8 (some .long) 1 := ⟨mw_9_0, mw_1_13, by decide +kernel, by decide +kernel, by decide⟩
theorem mv_X12_determinant : MV yX12_determinant := ⟨mw_8_239, ms_6_13⟩
theorem mf_X12_does : MF yX12_does cX12_does 5 (some .int) 1 := ⟨mw_9_36, mw_1_13, by decide +kernel, by decide +kernel, by decide⟩
theorem mv_X12_does : MV yX12_does := ⟨mw_9_35, ms_7_2⟩
theorem mf_X12_doesRounds : MF yX12_doesRounds cX12_doesRounds 4 (some .int) 1 := ⟨mw_9_8, mw_1_13, by decide +kernel, by decide +kernel, by decide⟩
theorem mv_X12_doesRounds : MV yX12_doesRounds := ⟨mw_9_7, ms_6_14⟩
theorem mf_X12_downBy6 : MF yX12_downBy6 cX12_downBy6 1 (some .int) 1 := ⟨mw_9_19, mw_1_13, by decide +kernel, by decide +kernel, by decide⟩
theorem mf_X12_eases : MF yX12_eases cX12_eases 5 none 1 := ⟨mw_9_40, mw_1_13, by decide +kernel, by decide +kernel, by decide⟩
theorem mv_X12_eases : MV yX12_eases := ⟨mw_9_39, ms_7_3⟩
theorem mf_X12_ended : MF yX12_ended cX12_ended 2 (some .int) 1 := ⟨mw_9_28, mw_1_13, by decide +kernel, by decide +kernel, by decide⟩
theorem mv_X12_ended : MV yX12_ended := ⟨mw_9_26, mw_9_27⟩
theorem mf_X12_endsAhead : MF yX12_endsAhead cX12_endsAhead 4 (some .boolean) 3 := ⟨mw_9_133, mw_1_13, by decide +kernel, by decide +kernel, by decide⟩
theorem mf_X12_fails : MF yX12_fails cX12_fails 2 (some .boolean) 1 := ⟨mw_8_86, mw_1_13, by decide +kernel, by decide +kernel, by decide⟩
theorem mv_X12_fails : MV yX12_fails := ⟨mw_8_85, ms_5_9⟩
theorem mf_X12_fault : MF yX12_fault cX12_fault 2 (some .int) 1 := ⟨mw_8_127, mw_1_13, by decide +kernel, by decide +kernel, by decide⟩
theorem mv_X12_fault : MV yX12_fault := ⟨mw_8_125, mw_8_126⟩
theorem mf_X12_feed : MF yX12_feed cX12_feed 6 (some .int) 5 := ⟨mw_8_36, mw_1_13, by decide +kernel, by decide +kernel, by decide⟩
theorem mv_X12_feed : MV yX12_feed := ⟨mw_8_34, mw_8_35⟩
theorem mf_X12_floor : MF yX12_floor cX12_floor 3 (some .int) 2 := ⟨mw_9_91, mw_1_13, by decide +kernel, by decide +kernel, by decide⟩
theorem mv_X12_floor : MV yX12_floor := ⟨mw_9_90, ms_7_8⟩
theorem mf_X12_four : MF yX12_four cX12_four 3 none 1 := ⟨mw_8_40, mw_1_13, by decide +kernel, by decide +kernel, by decide⟩
theorem mv_X12_four : MV yX12_four := ⟨mw_8_39, ms_5_1⟩
theorem mf_X12_given : MF yX12_given cX12_given 7 (some .int) 1 := ⟨mw_9_192, mw_1_13, by decide +kernel, by decide +kernel, by decide⟩
theorem mv_X12_given : MV yX12_given := ⟨mw_9_190, mw_9_191⟩
theorem mf_X12_gives : MF yX12_gives cX12_gives 2 (some .int) 1 := ⟨mw_8_106, mw_1_13, by decide +kernel, by decide +kernel, by decide⟩
theorem mv_X12_gives : MV yX12_gives := ⟨mw_8_105, ms_5_14⟩
theorem mf_X12_inWords : MF yX12_inWords cX12_inWords 7 (some .int) 1 := ⟨mw_8_80, mw_1_13, by decide +kernel, by decide +kernel, by decide⟩
theorem mv_X12_inWords : MV yX12_inWords := ⟨mw_8_79, ms_5_8⟩
theorem mf_X12_is : MF yX12_is cX12_is 2 (some .boolean) 1 := ⟨mw_8_12, mw_1_13, by decide +kernel, by decide +kernel, by decide⟩
theorem mv_X12_is : MV yX12_is := ⟨mw_8_11, ms_4_15⟩
theorem mf_X12_isDigit : MF yX12_isDigit cX12_isDigit 1 (some .boolean) 1 := ⟨mw_8_66, mw_1_13, by decide +kernel, by decide +kernel, by decide⟩
theorem mf_X12_isFrom : MF yX12_isFrom cX12_isFrom 6 (some .boolean) 3 := ⟨mw_8_152, mw_1_13, by decide +kernel, by decide +kernel, by decide⟩
theorem mf_X12_isHand : MF yX12_isHand cX12_isHand 2 (some .boolean) 2 := ⟨mw_9_151, mw_1_13, by decide +kernel, by decide +kernel, by decide⟩
theorem mf_X12_isLine : MF yX12_isLine cX12_isLine 3 (some .boolean) 2 := ⟨mw_8_167, mw_1_13, by decide +kernel, by decide +kernel, by decide⟩
theorem mv_X12_isLine : MV yX12_isLine := ⟨mw_8_166, ms_6_3⟩
theorem mf_X12_isPlace : MF yX12_isPlace cX12_isPlace 4 (some .boolean) 3 := ⟨mw_8_183, mw_1_13, by decide +kernel, by decide +kernel, by decide⟩
theorem mv_X12_isPlace : MV yX12_isPlace := ⟨mw_8_182, ms_6_6⟩
theorem mf_X12_isPoint : MF yX12_isPoint cX12_isPoint 3 (some .boolean) 1 := ⟨mw_8_143, mw_1_13, by decide +kernel, by decide +kernel, by decide⟩
theorem mv_X12_isPoint : MV yX12_isPoint := ⟨mw_8_142, ms_6_2⟩
theorem mf_X12_isSlip : MF yX12_isSlip cX12_isSlip 5 (some .boolean) 2 := ⟨mw_9_79, mw_1_13, by decide +kernel, by decide +kernel, by decide⟩
theorem mf_X12_isSmall : MF yX12_isSmall cX12_isSmall 1 (some .boolean) 1 := ⟨mw_8_63, mw_1_13, by decide +kernel, by decide +kernel, by decide⟩
theorem mf_X12_isStrip : MF yX12_isStrip cX12_isStrip 2 (some .boolean) 1 := ⟨mw_9_99, mw_1_13, by decide +kernel, by decide +kernel, by decide⟩
theorem mv_X12_isStrip : MV yX12_isStrip := ⟨mw_9_98, ms_7_9⟩
theorem mf_X12_isTray : MF yX12_isTray cX12_isTray 1 (some .boolean) 1 := ⟨mw_8_8, mw_1_13, by decide +kernel, by decide +kernel, by decide⟩
theorem mf_X12_isUnfair : MF yX12_isUnfair cX12_isUnfair 2 (some .boolean) 1 := ⟨mw_8_203, mw_1_13, by decide +kernel, by decide +kernel, by decide⟩
theorem mv_X12_isUnfair : MV yX12_isUnfair := ⟨mw_8_202, ms_6_9⟩
theorem mf_X12_isUpTo : MF yX12_isUpTo cX12_isUpTo 2 (some .boolean) 1 := ⟨mw_9_172, mw_1_13, by decide +kernel, by decide +kernel, by decide⟩
theorem mv_X12_isUpTo : MV yX12_isUpTo := ⟨mw_9_171, ms_7_14⟩
theorem mf_X12_isView : MF yX12_isView cX12_isView 1 (some .boolean) 1 := ⟨mw_8_163, mw_1_13, by decide +kernel, by decide +kernel, by decide⟩
theorem mf_X12_keep : MF yX12_keep cX12_keep 3 (some .boolean) 2 := ⟨mw_8_156, mw_1_13, by decide +kernel, by decide +kernel, by decide⟩
theorem mv_X12_keep : MV yX12_keep := ⟨mw_8_154, mw_8_155⟩
theorem mf_X12_keyWord : MF yX12_keyWord cX12_keyWord 1 (some .int) 0 := ⟨mw_8_75, mw_1_13, by decide +kernel, by decide +kernel, by decide⟩
theorem mv_X12_keyWord : MV yX12_keyWord := ⟨mw_8_74, ms_5_7⟩
theorem mf_X12_laid : MF yX12_laid cX12_laid 9 (some .int) 2 := ⟨mw_8_228, mw_1_13, by decide +kernel, by decide +kernel, by decide⟩
theorem mv_X12_laid : MV yX12_laid := ⟨mw_8_227, ms_6_11⟩
theorem mf_X12_lath : MF yX12_lath cX12_lath 6 (some .boolean) 4 := ⟨mw_8_224, mw_1_13, by decide +kernel, by decide +kernel, by decide⟩
theorem mv_X12_lath : MV yX12_lath := ⟨mw_8_222, mw_8_223⟩
theorem mf_X12_least : MF yX12_least cX12_least 16 (some .int) 3 := ⟨mw_9_60, mw_1_13, by decide +kernel, by decide +kernel, by decide⟩
theorem mv_X12_least : MV yX12_least := ⟨mw_9_58, mw_9_59⟩
theorem mf_X12_leastMove : MF yX12_leastMove cX12_leastMove 2 (some .int) 1 := ⟨mw_9_68, mw_1_13, by decide +kernel, by decide +kernel, by decide⟩
theorem mv_X12_leastMove : MV yX12_leastMove := ⟨mw_9_66, mw_9_67⟩
theorem mf_X12_length : MF yX12_length cX12_length 2 (some .int) 1 := ⟨mw_9_113, mw_1_13, by decide +kernel, by decide +kernel, by decide⟩
theorem mv_X12_length : MV yX12_length := ⟨mw_9_111, mw_9_112⟩
theorem mf_X12_lengthOf : MF yX12_lengthOf cX12_lengthOf 4 (some .int) 1 := ⟨mw_9_117, mw_1_13, by decide +kernel, by decide +kernel, by decide⟩
theorem mv_X12_lengthOf : MV yX12_lengthOf := ⟨mw_9_116, ms_7_11⟩
theorem mf_X12_lies : MF yX12_lies cX12_lies 4 (some .int) 3 := ⟨mw_8_179, mw_1_13, by decide +kernel, by decide +kernel, by decide⟩
theorem mv_X12_lies : MV yX12_lies := ⟨mw_8_177, mw_8_178⟩
theorem mf_X12_lines : MF yX12_lines cX12_lines 3 (some .int) 2 := ⟨mw_8_160, mw_1_13, by decide +kernel, by decide +kernel, by decide⟩
theorem mv_X12_lines : MV yX12_lines := ⟨mw_8_158, mw_8_159⟩
theorem mf_X12_linesOf : MF yX12_linesOf cX12_linesOf 4 (some .int) 1 := ⟨mw_8_171, mw_1_13, by decide +kernel, by decide +kernel, by decide⟩
theorem mv_X12_linesOf : MV yX12_linesOf := ⟨mw_8_170, ms_6_4⟩
theorem mf_X12_mark : MF yX12_mark cX12_mark 1 (some .int) 0 := ⟨mw_9_217, mw_1_13, by decide +kernel, by decide +kernel, by decide⟩
theorem mv_X12_mark : MV yX12_mark := ⟨mw_9_215, mw_9_216⟩
theorem mf_X12_move : MF yX12_move cX12_move 3 (some .boolean) 2 := ⟨mw_8_148, mw_1_13, by decide +kernel, by decide +kernel, by decide⟩
theorem mv_X12_move : MV yX12_move := ⟨mw_8_146, mw_8_147⟩
theorem mf_X12_number : MF yX12_number cX12_number 4 (some .boolean) 3 := ⟨mw_8_102, mw_1_13, by decide +kernel, by decide +kernel, by decide⟩
theorem mv_X12_number : MV yX12_number := ⟨mw_8_101, ms_5_13⟩
theorem mf_X12_offBy : MF yX12_offBy cX12_offBy 4 (some .int) 3 := ⟨mw_9_209, mw_1_13, by decide +kernel, by decide +kernel, by decide⟩
theorem mv_X12_offBy : MV yX12_offBy := ⟨mw_9_208, ms_8_2⟩
theorem mf_X12_part : MF yX12_part cX12_part 3 (some .boolean) 0 := ⟨mw_8_71, mw_1_13, by decide +kernel, by decide +kernel, by decide⟩
theorem mv_X12_part : MV yX12_part := ⟨mw_8_70, ms_5_6⟩
theorem mf_X12_plain : MF yX12_plain cX12_plain 3 none 1 := ⟨mw_7_54, mw_1_13, by decide +kernel, by decide +kernel, by decide⟩
theorem mv_X12_plain : MV yX12_plain := ⟨mw_7_53, ms_4_14⟩
theorem mf_X12_plank : MF yX12_plank cX12_plank 4 (some .int) 1 := ⟨mw_9_137, mw_1_13, by decide +kernel, by decide +kernel, by decide⟩
theorem mv_X12_plank : MV yX12_plank := ⟨mw_9_135, mw_9_136⟩
theorem mf_X12_planks : MF yX12_planks cX12_planks 14 (some .int) 1 := ⟨mw_9_125, mw_1_13, by decide +kernel, by decide +kernel, by decide⟩
theorem mv_X12_planks : MV yX12_planks := ⟨mw_9_123, mw_9_124⟩
theorem mf_X12_point : MF yX12_point cX12_point 3 (some .int) 2 := ⟨mw_8_139, mw_1_13, by decide +kernel, by decide +kernel, by decide⟩
theorem mv_X12_point : MV yX12_point := ⟨mw_8_137, mw_8_138⟩
theorem mf_X12_pour : MF yX12_pour cX12_pour 8 (some .boolean) 5 := ⟨mw_8_32, mw_1_13, by decide +kernel, by decide +kernel, by decide⟩
theorem mv_X12_pour : MV yX12_pour := ⟨mw_8_30, mw_8_31⟩
theorem mf_X12_ran : MF yX12_ran cX12_ran 2 (some .int) 1 := ⟨mw_9_56, mw_1_13, by decide +kernel, by decide +kernel, by decide⟩
theorem mv_X12_ran : MV yX12_ran := ⟨mw_9_54, mw_9_55⟩
theorem mf_X12_read : MF yX12_read cX12_read 3 (some .long) 2 := ⟨mw_8_27, mw_1_13, by decide +kernel, by decide +kernel, by decide⟩
theorem mv_X12_read : MV yX12_read := ⟨mw_8_25, mw_8_26⟩
theorem mf_X12_refuse : MF yX12_refuse cX12_refuse 2 (some .int) 1 := ⟨mw_8_48, mw_1_13, by decide +kernel, by decide +kernel, by decide⟩
theorem mv_X12_refuse : MV yX12_refuse := ⟨mw_8_47, ms_5_2⟩
theorem mf_X12_rib : MF yX12_rib cX12_rib 2 (some .int) 1 := ⟨mw_9_213, mw_1_13, by decide +kernel, by decide +kernel, by decide⟩
theorem mv_X12_rib : MV yX12_rib := ⟨mw_9_211, mw_9_212⟩
theorem mf_X12_ribs : MF yX12_ribs cX12_ribs 8 (some .int) 2 := ⟨mw_9_204, mw_1_13, by decide +kernel, by decide +kernel, by decide⟩
theorem mv_X12_ribs : MV yX12_ribs := ⟨mw_9_202, mw_9_203⟩
theorem mf_X12_root : MF yX12_root cX12_root 4 (some .int) 1 := ⟨mw_9_109, mw_1_13, by decide +kernel, by decide +kernel, by decide⟩
theorem mf_X12_round : MF yX12_round cX12_round 6 (some .boolean) 0 := ⟨mw_9_12, mw_1_13, by decide +kernel, by decide +kernel, by decide⟩
theorem mv_X12_round : MV yX12_round := ⟨mw_9_11, ms_6_15⟩
theorem mf_X12_rounds : MF yX12_rounds cX12_rounds 2 (some .int) 1 := ⟨mw_9_4, mw_1_13, by decide +kernel, by decide +kernel, by decide⟩
theorem mv_X12_rounds : MV yX12_rounds := ⟨mw_9_2, mw_9_3⟩
theorem mf_X12_run : MF yX12_run cX12_run 3 (some .int) 0 := ⟨mw_9_32, mw_1_13, by decide +kernel, by decide +kernel, by decide⟩
theorem mv_X12_run : MV yX12_run := ⟨mw_9_30, mw_9_31⟩
theorem mf_X12_slant : MF yX12_slant cX12_slant 3 (some .int) 3 := ⟨mw_9_106, mw_1_13, by decide +kernel, by decide +kernel, by decide⟩
theorem mf_X12_slip : MF yX12_slip cX12_slip 3 (some .int) 2 := ⟨mw_9_83, mw_1_13, by decide +kernel, by decide +kernel, by decide⟩
theorem mv_X12_slip : MV yX12_slip := ⟨mw_9_81, mw_9_82⟩
theorem mf_X12_slips : MF yX12_slips cX12_slips 1 (some .int) 0 := ⟨mw_9_72, mw_1_13, by decide +kernel, by decide +kernel, by decide⟩
theorem mv_X12_slips : MV yX12_slips := ⟨mw_9_70, mw_9_71⟩
theorem mf_X12_slipsTo : MF yX12_slipsTo cX12_slipsTo 7 (some .int) 1 := ⟨mw_9_76, mw_1_13, by decide +kernel, by decide +kernel, by decide⟩
theorem mv_X12_slipsTo : MV yX12_slipsTo := ⟨mw_9_75, ms_7_7⟩
theorem mf_X12_status : MF yX12_status cX12_status 1 (some .int) 0 := ⟨mw_7_233, mw_1_13, by decide +kernel, by decide +kernel, by decide⟩
theorem mv_X12_status : MV yX12_status := ⟨mw_7_231, mw_7_232⟩
theorem mf_X12_step : MF yX12_step cX12_step 5 (some .boolean) 0 := ⟨mw_8_114, mw_1_13, by decide +kernel, by decide +kernel, by decide⟩
theorem mv_X12_step : MV yX12_step := ⟨mw_8_113, ms_5_15⟩
theorem mf_X12_strain : MF yX12_strain cX12_strain 6 (some .long) 2 := ⟨mw_8_220, mw_1_13, by decide +kernel, by decide +kernel, by decide⟩
theorem mv_X12_strain : MV yX12_strain := ⟨mw_8_218, mw_8_219⟩
theorem mf_X12_takes : MF yX12_takes cX12_takes 8 none 2 := ⟨mw_8_175, mw_1_13, by decide +kernel, by decide +kernel, by decide⟩
theorem mv_X12_takes : MV yX12_takes := ⟨mw_8_174, ms_6_5⟩
theorem mf_X12_tells : MF yX12_tells cX12_tells 11 (some .boolean) 2 := ⟨mw_8_236, mw_1_13, by decide +kernel, by decide +kernel, by decide⟩
theorem mv_X12_tells : MV yX12_tells := ⟨mw_8_235, ms_6_12⟩
theorem mf_X12_told : MF yX12_told cX12_told 2 (some .int) 1 := ⟨mw_8_131, mw_1_13, by decide +kernel, by decide +kernel, by decide⟩
theorem mv_X12_told : MV yX12_told := ⟨mw_8_129, mw_8_130⟩
theorem mf_X12_top : MF yX12_top cX12_top 1 (some .long) 0 := ⟨mw_7_237, mw_1_13, by decide +kernel, by decide +kernel, by decide⟩
theorem mv_X12_top : MV yX12_top := ⟨mw_7_235, mw_7_236⟩
theorem mf_X12_tray : MF yX12_tray cX12_tray 5 (some .boolean) 3 := ⟨mw_8_5, mw_1_13, by decide +kernel, by decide +kernel, by decide⟩
theorem mv_X12_tray : MV yX12_tray := ⟨mw_8_3, mw_8_4⟩
theorem mf_X12_unfair : MF yX12_unfair cX12_unfair 5 (some .int) 2 := ⟨mw_8_199, mw_1_13, by decide +kernel, by decide +kernel, by decide⟩
theorem mv_X12_unfair : MV yX12_unfair := ⟨mw_8_197, mw_8_198⟩
theorem mf_X12_unfairAll : MF yX12_unfairAll cX12_unfairAll 1 (some .int) 0 := ⟨mw_8_208, mw_1_13, by decide +kernel, by decide +kernel, by decide⟩
theorem mv_X12_unfairAll : MV yX12_unfairAll := ⟨mw_8_206, mw_8_207⟩
theorem mf_X12_unfairs : MF yX12_unfairs cX12_unfairs 6 (some .int) 1 := ⟨mw_8_212, mw_1_13, by decide +kernel, by decide +kernel, by decide⟩
theorem mv_X12_unfairs : MV yX12_unfairs := ⟨mw_8_211, ms_6_10⟩
theorem mf_X12_view : MF yX12_view cX12_view 2 (some .int) 1 := ⟨mw_8_135, mw_1_13, by decide +kernel, by decide +kernel, by decide⟩
theorem mv_X12_view : MV yX12_view := ⟨mw_8_133, mw_8_134⟩
theorem mf_X12_volume : MF yX12_volume cX12_volume 2 (some .boolean) 1 := ⟨mw_9_168, mw_1_13, by decide +kernel, by decide +kernel, by decide⟩
theorem mv_X12_volume : MV yX12_volume := ⟨mw_9_166, mw_9_167⟩
theorem mf_X12_volumeOf : MF yX12_volumeOf cX12_volumeOf 5 (some .long) 1 := ⟨mw_9_176, mw_1_13, by decide +kernel, by decide +kernel, by decide⟩
theorem mv_X12_volumeOf : MV yX12_volumeOf := ⟨mw_9_175, ms_7_15⟩
theorem mf_X12_wasteOf : MF yX12_wasteOf cX12_wasteOf 9 (some .int) 3 := ⟨mw_9_130, mw_1_13, by decide +kernel, by decide +kernel, by decide⟩
theorem mv_X12_wasteOf : MV yX12_wasteOf := ⟨mw_9_129, ms_7_12⟩
theorem mf_X12_way : MF yX12_way cX12_way 4 (some .int) 1 := ⟨mw_8_110, mw_1_13, by decide +kernel, by decide +kernel, by decide⟩
theorem mv_X12_way : MV yX12_way := ⟨mw_8_108, mw_8_109⟩
theorem mf_X12_wet : MF yX12_wet cX12_wet 13 (some .int) 3 := ⟨mw_9_141, mw_1_13, by decide +kernel, by decide +kernel, by decide⟩
theorem mv_X12_wet : MV yX12_wet := ⟨mw_9_139, mw_9_140⟩
theorem mf_X12_where : MF yX12_where cX12_where 3 (some .int) 2 := ⟨mw_8_216, mw_1_13, by decide +kernel, by decide +kernel, by decide⟩
theorem mv_X12_where : MV yX12_where := ⟨mw_8_214, mw_8_215⟩
theorem mf_X12_width : MF yX12_width cX12_width 3 (some .int) 2 := ⟨mw_9_95, mw_1_13, by decide +kernel, by decide +kernel, by decide⟩
theorem mv_X12_width : MV yX12_width := ⟨mw_9_93, mw_9_94⟩
theorem mf_X12_widthOf : MF yX12_widthOf cX12_widthOf 3 (some .int) 2 := ⟨mw_9_103, mw_1_13, by decide +kernel, by decide +kernel, by decide⟩
theorem mv_X12_widthOf : MV yX12_widthOf := ⟨mw_9_102, ms_7_10⟩
theorem mf_X12_wishes : MF yX12_wishes cX12_wishes 6 (some .boolean) 1 := ⟨mw_9_16, mw_1_13, by decide +kernel, by decide +kernel, by decide⟩
theorem mv_X12_wishes : MV yX12_wishes := ⟨mw_9_15, ms_7_0⟩
theorem mf_X12_write : MF yX12_write cX12_write 6 (some .boolean) 3 := ⟨mw_8_16, mw_1_13, by decide +kernel, by decide +kernel, by decide⟩
theorem mv_X12_write : MV yX12_write := ⟨mw_8_14, mw_8_15⟩
theorem mf_X12_wrongPlace : MF yX12_wrongPlace cX12_wrongPlace 3 (some .int) 2 := ⟨mw_8_20, mw_1_13, by decide +kernel, by decide +kernel, by decide⟩
theorem mv_X12_wrongPlace : MV yX12_wrongPlace := ⟨mw_8_19, ms_5_0⟩
theorem mf_X12_wrongPoints : MF yX12_wrongPoints cX12_wrongPoints 8 (some .int) 3 := ⟨mw_9_64, mw_1_13, by decide +kernel, by decide +kernel, by decide⟩
theorem mv_X12_wrongPoints : MV yX12_wrongPoints := ⟨mw_9_63, ms_7_6⟩
theorem mf_X1_cellAt : MF yX1_cellAt cX1_cellAt 4 (some .long) 2 := ⟨mw_4_232, mw_1_9, by decide +kernel, by decide +kernel, by decide⟩
theorem mv_X1_cellAt : MV yX1_cellAt := ⟨mw_4_231, ms_2_7⟩
theorem mf_X1_clear : MF yX1_clear cX1_clear 12 none 4 := ⟨mw_4_236, mw_1_9, by decide +kernel, by decide +kernel, by decide⟩
theorem mv_X1_clear : MV yX1_clear := ⟨mw_4_235, ms_2_8⟩
theorem mf_X1_lay : MF yX1_lay cX1_lay 6 none 4 := ⟨mw_4_203, mw_1_9, by decide +kernel, by decide +kernel, by decide⟩
theorem mv_X1_lay : MV yX1_lay := ⟨mw_4_201, mw_4_202⟩
theorem mf_X1_layDuck : MF yX1_layDuck cX1_layDuck 4 none 2 := ⟨mw_4_211, mw_1_9, by decide +kernel, by decide +kernel, by decide⟩
theorem mv_X1_layDuck : MV yX1_layDuck := ⟨mw_4_210, ms_2_3⟩
theorem mf_X1_layFree : MF yX1_layFree cX1_layFree 6 none 1 := ⟨mw_4_219, mw_1_9, by decide +kernel, by decide +kernel, by decide⟩
theorem mv_X1_layFree : MV yX1_layFree := ⟨mw_4_218, ms_2_5⟩
theorem mf_X1_nearestAt : MF yX1_nearestAt cX1_nearestAt 4 (some .int) 1 := ⟨mw_6_39, mw_1_9, by decide +kernel, by decide +kernel, by decide⟩
theorem mv_X1_nearestAt : MV yX1_nearestAt := ⟨mw_6_37, mw_6_38⟩
theorem mf_X1_setCell : MF yX1_setCell cX1_setCell 6 none 3 := ⟨mw_4_215, mw_1_9, by decide +kernel, by decide +kernel, by decide⟩
theorem mv_X1_setCell : MV yX1_setCell := ⟨mw_4_214, ms_2_4⟩
theorem mf_X1_solve : MF yX1_solve cX1_solve 7 none 0 := ⟨mw_4_228, mw_1_9, by decide +kernel, by decide +kernel, by decide⟩
theorem mv_X1_solve : MV yX1_solve := ⟨mw_4_227, ms_2_6⟩
theorem mf_X1_topAt : MF yX1_topAt cX1_topAt 2 (some .long) 1 := ⟨mw_5_0, mw_1_9, by decide +kernel, by decide +kernel, by decide⟩
theorem mv_X1_topAt : MV yX1_topAt := ⟨mw_4_238, mw_4_239⟩
theorem mf_X1_weight : MF yX1_weight cX1_weight 2 (some .long) 2 := ⟨mw_4_222, mw_1_9, by decide +kernel, by decide +kernel, by decide⟩
theorem mf_X2_choose : MF yX2_choose cX2_choose 12 (some .boolean) 4 := ⟨mw_5_76, mw_1_10, by decide +kernel, by decide +kernel, by decide⟩
theorem mv_X2_choose : MV yX2_choose := ⟨mw_5_74, mw_5_75⟩
theorem mf_X2_chosenFrom : MF yX2_chosenFrom cX2_chosenFrom 5 (some .long) 1 := ⟨mw_5_88, mw_1_10, by decide +kernel, by decide +kernel, by decide⟩
theorem mv_X2_chosenFrom : MV yX2_chosenFrom := ⟨mw_5_87, ms_2_15⟩
theorem mf_X2_countSlips : MF yX2_countSlips cX2_countSlips 5 (some .int) 2 := ⟨mw_5_128, mw_1_10, by decide +kernel, by decide +kernel, by decide⟩
theorem mv_X2_countSlips : MV yX2_countSlips := ⟨mw_5_126, mw_5_127⟩
theorem mf_X2_countSlipsAt : MF yX2_countSlipsAt cX2_countSlipsAt 7 (some .int) 3 := ⟨mw_5_132, mw_1_10, by decide +kernel, by decide +kernel, by decide⟩
theorem mv_X2_countSlipsAt : MV yX2_countSlipsAt := ⟨mw_5_131, ms_3_4⟩
theorem mf_X2_findLeast : MF yX2_findLeast cX2_findLeast 3 (some .boolean) 2 := ⟨mw_5_84, mw_1_10, by decide +kernel, by decide +kernel, by decide⟩
theorem mv_X2_findLeast : MV yX2_findLeast := ⟨mw_5_82, mw_5_83⟩
theorem mf_X2_isSlip : MF yX2_isSlip cX2_isSlip 11 (some .boolean) 2 := ⟨mw_5_135, mw_1_10, by decide +kernel, by decide +kernel, by decide⟩
theorem mf_X2_tryFrom : MF yX2_tryFrom cX2_tryFrom 11 none 4 := ⟨mw_5_95, mw_1_10, by decide +kernel, by decide +kernel, by decide⟩
theorem mv_X2_tryFrom : MV yX2_tryFrom := ⟨mw_5_94, ms_3_0⟩
theorem mf_X3_findSame : MF yX3_findSame cX3_findSame 2 (some .int) 0 := ⟨mw_5_51, mw_1_8, by decide +kernel, by decide +kernel, by decide⟩
theorem mv_X3_findSame : MV yX3_findSame := ⟨mw_5_50, ms_2_13⟩
theorem mf_X3_go : MF yX3_go cX3_go 5 (some .int) 2 := ⟨mw_5_18, mw_1_8, by decide +kernel, by decide +kernel, by decide⟩
theorem mv_X3_go : MV yX3_go := ⟨mw_5_16, mw_5_17⟩
theorem mf_X3_isSame : MF yX3_isSame cX3_isSame 5 (some .boolean) 1 := ⟨mw_5_55, mw_1_8, by decide +kernel, by decide +kernel, by decide⟩
theorem mv_X3_isSame : MV yX3_isSame := ⟨mw_5_54, ms_2_14⟩
theorem mf_X3_note : MF yX3_note cX3_note 4 none 1 := ⟨mw_5_22, mw_1_8, by decide +kernel, by decide +kernel, by decide⟩
theorem mv_X3_note : MV yX3_note := ⟨mw_5_21, ms_2_10⟩
theorem mf_X3_remember : MF yX3_remember cX3_remember 1 none 0 := ⟨mw_5_59, mw_1_8, by decide +kernel, by decide +kernel, by decide⟩
theorem mv_X3_remember : MV yX3_remember := ⟨mw_5_57, mw_5_58⟩
theorem mf_X3_sweep : MF yX3_sweep cX3_sweep 7 (some .boolean) 1 := ⟨mw_5_31, mw_1_8, by decide +kernel, by decide +kernel, by decide⟩
theorem mv_X3_sweep : MV yX3_sweep := ⟨mw_5_30, ms_2_11⟩
theorem mf_X3_sweepLine : MF yX3_sweepLine cX3_sweepLine 9 (some .boolean) 3 := ⟨mw_5_36, mw_1_8, by decide +kernel, by decide +kernel, by decide⟩
theorem mv_X3_sweepLine : MV yX3_sweepLine := ⟨mw_5_35, ms_2_12⟩
theorem mf_X4_bendLine : MF yX4_bendLine cX4_bendLine 9 none 5 := ⟨mw_6_31, mw_1_11, by decide +kernel, by decide +kernel, by decide⟩
theorem mv_X4_bendLine : MV yX4_bendLine := ⟨mw_6_30, ms_4_1⟩
theorem mf_X4_doStep : MF yX4_doStep cX4_doStep 8 none 5 := ⟨mw_6_18, mw_1_11, by decide +kernel, by decide +kernel, by decide⟩
theorem mv_X4_doStep : MV yX4_doStep := ⟨mw_6_17, ms_4_0⟩
theorem mf_X4_go : MF yX4_go cX4_go 9 (some .int) 4 := ⟨mw_5_230, mw_1_11, by decide +kernel, by decide +kernel, by decide⟩
theorem mv_X4_go : MV yX4_go := ⟨mw_5_228, mw_5_229⟩
theorem mf_X4_nextBehindEnd : MF yX4_nextBehindEnd cX4_nextBehindEnd 5 (some .int) 3 := ⟨mw_6_1, mw_1_11, by decide +kernel, by decide +kernel, by decide⟩
theorem mv_X4_nextBehindEnd : MV yX4_nextBehindEnd := ⟨mw_6_0, ms_3_14⟩
theorem mf_X4_nextBehindStart : MF yX4_nextBehindStart cX4_nextBehindStart 4 (some .int) 3 := ⟨mw_6_10, mw_1_11, by decide +kernel, by decide +kernel, by decide⟩
theorem mv_X4_nextBehindStart : MV yX4_nextBehindStart := ⟨mw_6_9, ms_3_15⟩
theorem mf_X5_addView : MF yX5_addView cX5_addView 2 none 1 := ⟨mw_4_6, mw_1_4, by decide +kernel, by decide +kernel, by decide⟩
theorem mv_X5_addView : MV yX5_addView := ⟨mw_4_4, mw_4_5⟩
theorem mf_X5_areaOf : MF yX5_areaOf cX5_areaOf 6 (some .long) 2 := ⟨mw_7_23, mw_1_4, by decide +kernel, by decide +kernel, by decide⟩
theorem mv_X5_areaOf : MV yX5_areaOf := ⟨mw_7_22, ms_4_13⟩
theorem mf_X5_areasTogether : MF yX5_areasTogether cX5_areasTogether 5 (some .long) 1 := ⟨mw_7_19, mw_1_4, by decide +kernel, by decide +kernel, by decide⟩
theorem mv_X5_areasTogether : MV yX5_areasTogether := ⟨mw_7_17, mw_7_18⟩
theorem mf_X5_at : MF yX5_at cX5_at 2 (some .int) 1 := ⟨mw_4_58, mw_1_4, by decide +kernel, by decide +kernel, by decide⟩
theorem mv_X5_at : MV yX5_at := ⟨mw_4_56, mw_4_57⟩
theorem mf_X5_bendAt : MF yX5_bendAt cX5_bendAt 3 (some .int) 2 := ⟨mw_4_131, mw_1_4, by decide +kernel, by decide +kernel, by decide⟩
theorem mv_X5_bendAt : MV yX5_bendAt := ⟨mw_4_129, mw_4_130⟩
theorem mf_X5_bit : MF yX5_bit cX5_bit 1 (some .long) 1 := ⟨mw_3_220, mw_1_4, by decide +kernel, by decide +kernel, by decide⟩
theorem mf_X5_copyFrom : MF yX5_copyFrom cX5_copyFrom 2 none 1 := ⟨mw_4_18, mw_1_4, by decide +kernel, by decide +kernel, by decide⟩
theorem mv_X5_copyFrom : MV yX5_copyFrom := ⟨mw_4_16, mw_4_17⟩
theorem mf_X5_crookOf : MF yX5_crookOf cX5_crookOf 4 (some .int) 1 := ⟨mw_6_86, mw_1_4, by decide +kernel, by decide +kernel, by decide⟩
theorem mv_X5_crookOf : MV yX5_crookOf := ⟨mw_6_84, mw_6_85⟩
theorem mf_X5_empty : MF yX5_empty cX5_empty 1 none 0 := ⟨mw_3_107, mw_1_4, by decide +kernel, by decide +kernel, by decide⟩
theorem mv_X5_empty : MV yX5_empty := ⟨mw_3_105, mw_3_106⟩
theorem mf_X5_findUnfair : MF yX5_findUnfair cX5_findUnfair 6 (some .boolean) 1 := ⟨mw_4_171, mw_1_4, by decide +kernel, by decide +kernel, by decide⟩
theorem mv_X5_findUnfair : MV yX5_findUnfair := ⟨mw_4_169, mw_4_170⟩
theorem mf_X5_findUnfairPlace : MF yX5_findUnfairPlace cX5_findUnfairPlace 7 (some .int) 3 := ⟨mw_4_176, mw_1_4, by decide +kernel, by decide +kernel, by decide⟩
theorem mv_X5_findUnfairPlace : MV yX5_findUnfairPlace := ⟨mw_4_175, ms_2_2⟩
theorem mf_X5_firstOf : MF yX5_firstOf cX5_firstOf 4 (some .int) 2 := ⟨mw_4_118, mw_1_4, by decide +kernel, by decide +kernel, by decide⟩
theorem mv_X5_firstOf : MV yX5_firstOf := ⟨mw_4_117, ms_1_15⟩
theorem mf_X5_givenAt : MF yX5_givenAt cX5_givenAt 2 (some .int) 1 := ⟨mw_6_67, mw_1_4, by decide +kernel, by decide +kernel, by decide⟩
theorem mv_X5_givenAt : MV yX5_givenAt := ⟨mw_6_66, ms_4_2⟩
theorem mf_X5_givenMany : MF yX5_givenMany cX5_givenMany 3 (some .int) 0 := ⟨mw_6_77, mw_1_4, by decide +kernel, by decide +kernel, by decide⟩
theorem mv_X5_givenMany : MV yX5_givenMany := ⟨mw_6_75, mw_6_76⟩
theorem mf_X5_givenMost : MF yX5_givenMost cX5_givenMost 3 (some .int) 0 := ⟨mw_6_73, mw_1_4, by decide +kernel, by decide +kernel, by decide⟩
theorem mv_X5_givenMost : MV yX5_givenMost := ⟨mw_6_71, mw_6_72⟩
theorem mf_X5_givenSum : MF yX5_givenSum cX5_givenSum 3 (some .int) 0 := ⟨mw_6_63, mw_1_4, by decide +kernel, by decide +kernel, by decide⟩
theorem mv_X5_givenSum : MV yX5_givenSum := ⟨mw_6_61, mw_6_62⟩
theorem mf_X5_hasDucks : MF yX5_hasDucks cX5_hasDucks 4 (some .boolean) 3 := ⟨mw_4_193, mw_1_4, by decide +kernel, by decide +kernel, by decide⟩
theorem mv_X5_hasDucks : MV yX5_hasDucks := ⟨mw_4_191, mw_4_192⟩
theorem mf_X5_hasLine : MF yX5_hasLine cX5_hasLine 3 (some .boolean) 2 := ⟨mw_4_90, mw_1_4, by decide +kernel, by decide +kernel, by decide⟩
theorem mv_X5_hasLine : MV yX5_hasLine := ⟨mw_4_88, mw_4_89⟩
theorem mf_X5_hasPlace : MF yX5_hasPlace cX5_hasPlace 4 (some .boolean) 3 := ⟨mw_4_108, mw_1_4, by decide +kernel, by decide +kernel, by decide⟩
theorem mv_X5_hasPlace : MV yX5_hasPlace := ⟨mw_4_106, mw_4_107⟩
theorem mf_X5_hasPoint : MF yX5_hasPoint cX5_hasPoint 3 (some .boolean) 1 := ⟨mw_4_44, mw_1_4, by decide +kernel, by decide +kernel, by decide⟩
theorem mv_X5_hasPoint : MV yX5_hasPoint := ⟨mw_4_42, mw_4_43⟩
theorem mf_X5_hasStation : MF yX5_hasStation cX5_hasStation 2 (some .boolean) 1 := ⟨mw_4_49, mw_1_4, by decide +kernel, by decide +kernel, by decide⟩
theorem mv_X5_hasStation : MV yX5_hasStation := ⟨mw_4_47, mw_4_48⟩
theorem mf_X5_hasStrip : MF yX5_hasStrip cX5_hasStrip 2 (some .boolean) 1 := ⟨mw_6_135, mw_1_4, by decide +kernel, by decide +kernel, by decide⟩
theorem mv_X5_hasStrip : MV yX5_hasStrip := ⟨mw_6_133, mw_6_134⟩
theorem mf_X5_hasWater : MF yX5_hasWater cX5_hasWater 2 (some .boolean) 1 := ⟨mw_4_53, mw_1_4, by decide +kernel, by decide +kernel, by decide⟩
theorem mv_X5_hasWater : MV yX5_hasWater := ⟨mw_4_51, mw_4_52⟩
theorem mf_X5_hold : MF yX5_hold cX5_hold 2 (some .long) 2 := ⟨mw_4_163, mw_1_4, by decide +kernel, by decide +kernel, by decide⟩
theorem mf_X5_isKept : MF yX5_isKept cX5_isKept 2 (some .boolean) 1 := ⟨mw_3_217, mw_1_4, by decide +kernel, by decide +kernel, by decide⟩
theorem mv_X5_isKept : MV yX5_isKept := ⟨mw_3_215, mw_3_216⟩
theorem mf_X5_isUnfair : MF yX5_isUnfair cX5_isUnfair 3 (some .boolean) 2 := ⟨mw_4_145, mw_1_4, by decide +kernel, by decide +kernel, by decide⟩
theorem mv_X5_isUnfair : MV yX5_isUnfair := ⟨mw_4_144, ms_2_0⟩
theorem mf_X5_isView : MF yX5_isView cX5_isView 2 (some .boolean) 1 := ⟨mw_4_82, mw_1_4, by decide +kernel, by decide +kernel, by decide⟩
theorem mv_X5_isView : MV yX5_isView := ⟨mw_4_80, mw_4_81⟩
theorem mf_X5_jumpAt : MF yX5_jumpAt cX5_jumpAt 3 (some .int) 2 := ⟨mw_4_149, mw_1_4, by decide +kernel, by decide +kernel, by decide⟩
theorem mv_X5_jumpAt : MV yX5_jumpAt := ⟨mw_4_148, ms_2_1⟩
theorem mf_X5_lengthOf : MF yX5_lengthOf cX5_lengthOf 6 (some .int) 1 := ⟨mw_6_151, mw_1_4, by decide +kernel, by decide +kernel, by decide⟩
theorem mv_X5_lengthOf : MV yX5_lengthOf := ⟨mw_6_149, mw_6_150⟩
theorem mf_X5_lineThrough : MF yX5_lineThrough cX5_lineThrough 5 (some .int) 2 := ⟨mw_5_109, mw_1_4, by decide +kernel, by decide +kernel, by decide⟩
theorem mv_X5_lineThrough : MV yX5_lineThrough := ⟨mw_5_108, ms_3_2⟩
theorem mf_X5_linesOf : MF yX5_linesOf cX5_linesOf 2 (some .int) 1 := ⟨mw_4_86, mw_1_4, by decide +kernel, by decide +kernel, by decide⟩
theorem mv_X5_linesOf : MV yX5_linesOf := ⟨mw_4_84, mw_4_85⟩
theorem mf_X5_momentsTogether : MF yX5_momentsTogether cX5_momentsTogether 5 (some .long) 1 := ⟨mw_7_32, mw_1_4, by decide +kernel, by decide +kernel, by decide⟩
theorem mv_X5_momentsTogether : MV yX5_momentsTogether := ⟨mw_7_30, mw_7_31⟩
theorem mf_X5_narrow : MF yX5_narrow cX5_narrow 11 none 2 := ⟨mw_5_101, mw_1_4, by decide +kernel, by decide +kernel, by decide⟩
theorem mv_X5_narrow : MV yX5_narrow := ⟨mw_5_99, mw_5_100⟩
theorem mf_X5_narrowBy : MF yX5_narrowBy cX5_narrowBy 6 none 3 := ⟨mw_5_113, mw_1_4, by decide +kernel, by decide +kernel, by decide⟩
theorem mv_X5_narrowBy : MV yX5_narrowBy := ⟨mw_5_112, ms_3_3⟩
theorem mf_X5_nudge : MF yX5_nudge cX5_nudge 8 (some .boolean) 2 := ⟨mw_5_44, mw_1_4, by decide +kernel, by decide +kernel, by decide⟩
theorem mv_X5_nudge : MV yX5_nudge := ⟨mw_5_42, mw_5_43⟩
theorem mf_X5_packedStation : MF yX5_packedStation cX5_packedStation 5 (some .long) 1 := ⟨mw_5_27, mw_1_4, by decide +kernel, by decide +kernel, by decide⟩
theorem mv_X5_packedStation : MV yX5_packedStation := ⟨mw_5_25, mw_5_26⟩
theorem mf_X5_placeOf : MF yX5_placeOf cX5_placeOf 5 (some .int) 2 := ⟨mw_5_105, mw_1_4, by decide +kernel, by decide +kernel, by decide⟩
theorem mv_X5_placeOf : MV yX5_placeOf := ⟨mw_5_104, ms_3_1⟩
theorem mf_X5_placesOf : MF yX5_placesOf cX5_placesOf 6 (some .int) 2 := ⟨mw_4_96, mw_1_4, by decide +kernel, by decide +kernel, by decide⟩
theorem mv_X5_placesOf : MV yX5_placesOf := ⟨mw_4_94, mw_4_95⟩
theorem mf_X5_pointAt : MF yX5_pointAt cX5_pointAt 4 (some .int) 3 := ⟨mw_4_114, mw_1_4, by decide +kernel, by decide +kernel, by decide⟩
theorem mv_X5_pointAt : MV yX5_pointAt := ⟨mw_4_112, mw_4_113⟩
theorem mf_X5_put : MF yX5_put cX5_put 3 none 2 := ⟨mw_3_203, mw_1_4, by decide +kernel, by decide +kernel, by decide⟩
theorem mv_X5_put : MV yX5_put := ⟨mw_3_201, mw_3_202⟩
theorem mf_X5_root : MF yX5_root cX5_root 4 (some .int) 1 := ⟨mw_6_142, mw_1_4, by decide +kernel, by decide +kernel, by decide⟩
theorem mf_X5_setDefaults : MF yX5_setDefaults cX5_setDefaults 2 none 0 := ⟨mw_1_97, mw_1_4, by decide +kernel, by decide +kernel, by decide⟩
theorem mv_X5_setDefaults : MV yX5_setDefaults := ⟨mw_1_96, ms_1_0⟩
theorem mf_X5_setKept : MF yX5_setKept cX5_setKept 3 none 2 := ⟨mw_3_224, mw_1_4, by decide +kernel, by decide +kernel, by decide⟩
theorem mv_X5_setKept : MV yX5_setKept := ⟨mw_3_222, mw_3_223⟩
theorem mf_X5_strainOn : MF yX5_strainOn cX5_strainOn 9 (some .long) 2 := ⟨mw_4_184, mw_1_4, by decide +kernel, by decide +kernel, by decide⟩
theorem mv_X5_strainOn : MV yX5_strainOn := ⟨mw_4_182, mw_4_183⟩
theorem mf_X5_strideOf : MF yX5_strideOf cX5_strideOf 2 (some .int) 1 := ⟨mw_4_122, mw_1_4, by decide +kernel, by decide +kernel, by decide⟩
theorem mv_X5_strideOf : MV yX5_strideOf := ⟨mw_4_120, mw_4_121⟩
theorem mf_X5_tellBreadth : MF yX5_tellBreadth cX5_tellBreadth 3 none 2 := ⟨mw_3_199, mw_1_4, by decide +kernel, by decide +kernel, by decide⟩
theorem mv_X5_tellBreadth : MV yX5_tellBreadth := ⟨mw_3_197, mw_3_198⟩
theorem mf_X5_toldAt : MF yX5_toldAt cX5_toldAt 2 (some .int) 1 := ⟨mw_4_62, mw_1_4, by decide +kernel, by decide +kernel, by decide⟩
theorem mv_X5_toldAt : MV yX5_toldAt := ⟨mw_4_60, mw_4_61⟩
theorem mf_X5_twiceVolume : MF yX5_twiceVolume cX5_twiceVolume 2 (some .long) 1 := ⟨mw_7_15, mw_1_4, by decide +kernel, by decide +kernel, by decide⟩
theorem mv_X5_twiceVolume : MV yX5_twiceVolume := ⟨mw_7_13, mw_7_14⟩
theorem mf_X5_unfairBeyond : MF yX5_unfairBeyond cX5_unfairBeyond 11 (some .int) 1 := ⟨mw_4_160, mw_1_4, by decide +kernel, by decide +kernel, by decide⟩
theorem mv_X5_unfairBeyond : MV yX5_unfairBeyond := ⟨mw_4_158, mw_4_159⟩
theorem mf_X5_unfairOn : MF yX5_unfairOn cX5_unfairOn 7 (some .int) 2 := ⟨mw_4_140, mw_1_4, by decide +kernel, by decide +kernel, by decide⟩
theorem mv_X5_unfairOn : MV yX5_unfairOn := ⟨mw_4_138, mw_4_139⟩
theorem mf_X5_widthOf : MF yX5_widthOf cX5_widthOf 5 (some .int) 2 := ⟨mw_6_139, mw_1_4, by decide +kernel, by decide +kernel, by decide⟩
theorem mv_X5_widthOf : MV yX5_widthOf := ⟨mw_6_137, mw_6_138⟩
theorem mf_X6_advance : MF yX6_advance cX6_advance 1 none 0 := ⟨mw_3_111, mw_1_3, by decide +kernel, by decide +kernel, by decide⟩
theorem mv_X6_advance : MV yX6_advance := ⟨mw_3_109, mw_3_110⟩
theorem mf_X6_append : MF yX6_append cX6_append 3 none 1 := ⟨mw_3_88, mw_1_3, by decide +kernel, by decide +kernel, by decide⟩
theorem mv_X6_append : MV yX6_append := ⟨mw_3_86, mw_3_87⟩
theorem mf_X6_begin : MF yX6_begin cX6_begin 2 none 1 := ⟨mw_3_100, mw_1_3, by decide +kernel, by decide +kernel, by decide⟩
theorem mv_X6_begin : MV yX6_begin := ⟨mw_3_98, mw_3_99⟩
theorem mf_X6_byteAt : MF yX6_byteAt cX6_byteAt 2 (some .int) 1 := ⟨mw_3_119, mw_1_3, by decide +kernel, by decide +kernel, by decide⟩
theorem mv_X6_byteAt : MV yX6_byteAt := ⟨mw_3_118, ms_1_7⟩
theorem mf_X6_fail : MF yX6_fail cX6_fail 2 (some .boolean) 1 := ⟨mw_3_131, mw_1_3, by decide +kernel, by decide +kernel, by decide⟩
theorem mv_X6_fail : MV yX6_fail := ⟨mw_3_129, mw_3_130⟩
theorem mf_X6_isKind : MF yX6_isKind cX6_isKind 2 (some .boolean) 1 := ⟨mw_3_127, mw_1_3, by decide +kernel, by decide +kernel, by decide⟩
theorem mv_X6_isKind : MV yX6_isKind := ⟨mw_3_125, mw_3_126⟩
theorem mf_X6_isWord : MF yX6_isWord cX6_isWord 3 (some .boolean) 1 := ⟨mw_3_136, mw_1_3, by decide +kernel, by decide +kernel, by decide⟩
theorem mv_X6_isWord : MV yX6_isWord := ⟨mw_3_134, mw_3_135⟩
theorem mf_X6_kindAt : MF yX6_kindAt cX6_kindAt 3 (some .int) 1 := ⟨mw_3_115, mw_1_3, by decide +kernel, by decide +kernel, by decide⟩
theorem mv_X6_kindAt : MV yX6_kindAt := ⟨mw_3_114, ms_1_6⟩
theorem mf_X6_namedView : MF yX6_namedView cX6_namedView 1 (some .int) 0 := ⟨mw_3_238, mw_1_3, by decide +kernel, by decide +kernel, by decide⟩
theorem mv_X6_namedView : MV yX6_namedView := ⟨mw_3_236, mw_3_237⟩
theorem mf_X6_takeKind : MF yX6_takeKind cX6_takeKind 2 (some .boolean) 1 := ⟨mw_3_193, mw_1_3, by decide +kernel, by decide +kernel, by decide⟩
theorem mv_X6_takeKind : MV yX6_takeKind := ⟨mw_3_191, mw_3_192⟩
theorem mf_X6_takeNumber : MF yX6_takeNumber cX6_takeNumber 3 (some .boolean) 2 := ⟨mw_3_212, mw_1_3, by decide +kernel, by decide +kernel, by decide⟩
theorem mv_X6_takeNumber : MV yX6_takeNumber := ⟨mw_3_210, mw_3_211⟩
theorem mf_X6_takeWord : MF yX6_takeWord cX6_takeWord 2 (some .boolean) 1 := ⟨mw_5_208, mw_1_3, by decide +kernel, by decide +kernel, by decide⟩
theorem mv_X6_takeWord : MV yX6_takeWord := ⟨mw_5_206, mw_5_207⟩
theorem mf_X7_areAlike : MF yX7_areAlike cX7_areAlike 3 (some .boolean) 2 := ⟨mw_3_72, mw_1_2, by decide +kernel, by decide +kernel, by decide⟩
theorem mv_X7_areAlike : MV yX7_areAlike := ⟨mw_3_70, mw_3_71⟩
theorem mf_X7_at : MF yX7_at cX7_at 4 (some .long) 2 := ⟨mw_3_63, mw_1_2, by decide +kernel, by decide +kernel, by decide⟩
theorem mv_X7_at : MV yX7_at := ⟨mw_3_61, mw_3_62⟩
theorem mf_X7_copyRun : MF yX7_copyRun cX7_copyRun 8 none 5 := ⟨mw_3_77, mw_1_2, by decide +kernel, by decide +kernel, by decide⟩
theorem mv_X7_copyRun : MV yX7_copyRun := ⟨mw_3_75, mw_3_76⟩
theorem mf_X7_hasRun : MF yX7_hasRun cX7_hasRun 4 (some .boolean) 3 := ⟨mw_3_46, mw_1_2, by decide +kernel, by decide +kernel, by decide⟩
theorem mv_X7_hasRun : MV yX7_hasRun := ⟨mw_3_44, mw_3_45⟩
theorem mf_X7_isMissing : MF yX7_isMissing cX7_isMissing 2 (some .boolean) 1 := ⟨mw_3_42, mw_1_2, by decide +kernel, by decide +kernel, by decide⟩
theorem mv_X7_isMissing : MV yX7_isMissing := ⟨mw_3_40, mw_3_41⟩
theorem mf_X7_isTray : MF yX7_isTray cX7_isTray 2 (some .boolean) 1 := ⟨mw_3_4, mw_1_2, by decide +kernel, by decide +kernel, by decide⟩
theorem mv_X7_isTray : MV yX7_isTray := ⟨mw_3_2, mw_3_3⟩
theorem mf_X7_lackOf : MF yX7_lackOf cX7_lackOf 3 (some .int) 2 := ⟨mw_5_72, mw_1_2, by decide +kernel, by decide +kernel, by decide⟩
theorem mv_X7_lackOf : MV yX7_lackOf := ⟨mw_5_70, mw_5_71⟩
theorem mf_X7_lackOfPlace : MF yX7_lackOfPlace cX7_lackOfPlace 3 (some .int) 2 := ⟨mw_3_37, mw_1_2, by decide +kernel, by decide +kernel, by decide⟩
theorem mv_X7_lackOfPlace : MV yX7_lackOfPlace := ⟨mw_3_35, mw_3_36⟩
theorem mf_X7_lay : MF yX7_lay cX7_lay 5 none 3 := ⟨mw_3_17, mw_1_2, by decide +kernel, by decide +kernel, by decide⟩
theorem mv_X7_lay : MV yX7_lay := ⟨mw_3_15, mw_3_16⟩
theorem mf_X7_put : MF yX7_put cX7_put 6 none 3 := ⟨mw_3_21, mw_1_2, by decide +kernel, by decide +kernel, by decide⟩
theorem mv_X7_put : MV yX7_put := ⟨mw_3_19, mw_3_20⟩
theorem mf_X7_sizeOf : MF yX7_sizeOf cX7_sizeOf 2 (some .int) 1 := ⟨mw_3_50, mw_1_2, by decide +kernel, by decide +kernel, by decide⟩
theorem mv_X7_sizeOf : MV yX7_sizeOf := ⟨mw_3_49, ms_1_4⟩
theorem mf_X7_sortOf : MF yX7_sortOf cX7_sortOf 2 (some .int) 1 := ⟨mw_3_25, mw_1_2, by decide +kernel, by decide +kernel, by decide⟩
theorem mv_X7_sortOf : MV yX7_sortOf := ⟨mw_3_24, ms_1_2⟩
theorem mf_X8_add : MF yX8_add cX8_add 4 none 3 := ⟨mw_5_184, mw_1_5, by decide +kernel, by decide +kernel, by decide⟩
theorem mv_X8_add : MV yX8_add := ⟨mw_5_182, mw_5_183⟩
theorem mf_X8_copyFrom : MF yX8_copyFrom cX8_copyFrom 2 none 1 := ⟨mw_5_221, mw_1_5, by decide +kernel, by decide +kernel, by decide⟩
theorem mv_X8_copyFrom : MV yX8_copyFrom := ⟨mw_5_219, mw_5_220⟩
theorem mf_X8_empty : MF yX8_empty cX8_empty 1 none 0 := ⟨mw_5_152, mw_1_5, by decide +kernel, by decide +kernel, by decide⟩
theorem mv_X8_empty : MV yX8_empty := ⟨mw_5_150, mw_5_151⟩
theorem mf_X8_firstAt : MF yX8_firstAt cX8_firstAt 2 (some .int) 1 := ⟨mw_6_14, mw_1_5, by decide +kernel, by decide +kernel, by decide⟩
theorem mv_X8_firstAt : MV yX8_firstAt := ⟨mw_6_12, mw_6_13⟩
theorem mf_X8_isInRoom : MF yX8_isInRoom cX8_isInRoom 1 (some .boolean) 1 := ⟨mw_5_237, mw_1_5, by decide +kernel, by decide +kernel, by decide⟩
theorem mf_X8_kindAt : MF yX8_kindAt cX8_kindAt 2 (some .int) 1 := ⟨mw_5_234, mw_1_5, by decide +kernel, by decide +kernel, by decide⟩
theorem mv_X8_kindAt : MV yX8_kindAt := ⟨mw_5_232, mw_5_233⟩
theorem mf_X8_pair : MF yX8_pair cX8_pair 3 none 2 := ⟨mw_5_180, mw_1_5, by decide +kernel, by decide +kernel, by decide⟩
theorem mv_X8_pair : MV yX8_pair := ⟨mw_5_178, mw_5_179⟩
theorem mf_X8_partnerAt : MF yX8_partnerAt cX8_partnerAt 2 (some .int) 1 := ⟨mw_6_5, mw_1_5, by decide +kernel, by decide +kernel, by decide⟩
theorem mv_X8_partnerAt : MV yX8_partnerAt := ⟨mw_6_3, mw_6_4⟩
theorem mf_X8_secondAt : MF yX8_secondAt cX8_secondAt 2 (some .int) 1 := ⟨mw_6_22, mw_1_5, by decide +kernel, by decide +kernel, by decide⟩
theorem mv_X8_secondAt : MV yX8_secondAt := ⟨mw_6_20, mw_6_21⟩
theorem mf_X9_close : MF yX9_close cX9_close 1 (some .boolean) 0 := ⟨mw_5_176, mw_1_7, by decide +kernel, by decide +kernel, by decide⟩
theorem mv_X9_close : MV yX9_close := ⟨mw_5_175, ms_3_7⟩
theorem mf_X9_namedStep : MF yX9_namedStep cX9_namedStep 1 (some .int) 0 := ⟨mw_5_163, mw_1_7, by decide +kernel, by decide +kernel, by decide⟩
theorem mv_X9_namedStep : MV yX9_namedStep := ⟨mw_5_162, ms_3_6⟩
theorem mf_X9_open : MF yX9_open cX9_open 1 none 0 := ⟨mw_5_198, mw_1_7, by decide +kernel, by decide +kernel, by decide⟩
theorem mv_X9_open : MV yX9_open := ⟨mw_5_197, ms_3_10⟩
theorem mf_X9_readBend : MF yX9_readBend cX9_readBend 4 (some .boolean) 0 := ⟨mw_5_202, mw_1_7, by decide +kernel, by decide +kernel, by decide⟩
theorem mv_X9_readBend : MV yX9_readBend := ⟨mw_5_201, ms_3_11⟩
theorem mf_X9_readCount : MF yX9_readCount cX9_readCount 3 (some .boolean) 2 := ⟨mw_5_193, mw_1_7, by decide +kernel, by decide +kernel, by decide⟩
theorem mv_X9_readCount : MV yX9_readCount := ⟨mw_5_192, ms_3_9⟩
theorem mf_X9_readDucks : MF yX9_readDucks cX9_readDucks 3 (some .int) 0 := ⟨mw_5_212, mw_1_7, by decide +kernel, by decide +kernel, by decide⟩
theorem mv_X9_readDucks : MV yX9_readDucks := ⟨mw_5_211, ms_3_12⟩
theorem mf_X9_readPoint : MF yX9_readPoint cX9_readPoint 4 (some .boolean) 1 := ⟨mw_5_217, mw_1_7, by decide +kernel, by decide +kernel, by decide⟩
theorem mv_X9_readPoint : MV yX9_readPoint := ⟨mw_5_216, ms_3_13⟩
theorem mf_X9_readRest : MF yX9_readRest cX9_readRest 2 (some .boolean) 1 := ⟨mw_5_189, mw_1_7, by decide +kernel, by decide +kernel, by decide⟩
theorem mv_X9_readRest : MV yX9_readRest := ⟨mw_5_188, ms_3_8⟩
theorem mf_X9_readStep : MF yX9_readStep cX9_readStep 2 (some .boolean) 0 := ⟨mw_5_158, mw_1_7, by decide +kernel, by decide +kernel, by decide⟩
theorem mv_X9_readStep : MV yX9_readStep := ⟨mw_5_157, ms_3_5⟩
theorem mf_X9_readText : MF yX9_readText cX9_readText 3 (some .boolean) 1 := ⟨mw_5_147, mw_1_7, by decide +kernel, by decide +kernel, by decide⟩
theorem mv_X9_readText : MV yX9_readText := ⟨mw_5_145, mw_5_146⟩
section Marks
variable {ρ : Type} {E : Ev ρ} {l : Launch} {G : Gw} {own : String} {cc : ByteArray} {nL h : Nat} {mem : Mem} {pc pc' : Nat} {lv : Lv} {sk : List Value} {o : Option ρ}
theorem z_markdX5 (hG : gom G = SH) (C : Cx E l G own cc nL h) {x x' : Int} (d : Dc cc pc .aaload 1 pc') (hx : w32 x = x') (h0 : 0 ≤ x') (h1 : x' < 3) (k : ∀ hs : ShS G (47 + 4 * (x').toNat), Z E G nL mem pc' lv (rf G (47 + 4 * (x').toNat) :: sk) o) : Z E G nL mem pc lv (vi x :: rf G 46 :: sk) o := by
  have hc : x' = 0 ∨ x' = 1 ∨ x' = 2 := by omega
  rcases hc with e | e | e <;> subst e
  · exact z_aald C d (sh_46 hG) (by decide) rfl hx rfl (by decide) (by decide) (u := 47) rfl (k (shS_47 hG))
  · exact z_aald C d (sh_46 hG) (by decide) rfl hx rfl (by decide) (by decide) (u := 51) rfl (k (shS_51 hG))
  · exact z_aald C d (sh_46 hG) (by decide) rfl hx rfl (by decide) (by decide) (u := 55) rfl (k (shS_55 hG))
theorem z_markdX8 (hG : gom G = SH) (C : Cx E l G own cc nL h) {x x' : Int} (d : Dc cc pc .aaload 1 pc') (hx : w32 x = x') (h0 : 0 ≤ x') (h1 : x' < 3) (k : ∀ hs : ShW G (60 + 5 * (x').toNat), Z E G nL mem pc' lv (rf G (60 + 5 * (x').toNat) :: sk) o) : Z E G nL mem pc lv (vi x :: rf G 59 :: sk) o := by
  have hc : x' = 0 ∨ x' = 1 ∨ x' = 2 := by omega
  rcases hc with e | e | e <;> subst e
  · exact z_aald C d (sh_59 hG) (by decide) rfl hx rfl (by decide) (by decide) (u := 60) rfl (k (shW_60 hG))
  · exact z_aald C d (sh_59 hG) (by decide) rfl hx rfl (by decide) (by decide) (u := 65) rfl (k (shW_65 hG))
  · exact z_aald C d (sh_59 hG) (by decide) rfl hx rfl (by decide) (by decide) (u := 70) rfl (k (shW_70 hG))
end Marks
