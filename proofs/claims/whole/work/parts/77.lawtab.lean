/-! the law: heads and tables -/
def h_Lw_cell : zHdr := ("WarmWallLaw", ⟨"WarmWallLaw", "cell", "(LWarmWall;II[J)I"⟩, method_3_code, 5, (some .int), 4, 0, 0, 0, false)
def k_Lw_cell : List zIns := [
  (0, 0, none, .aload_n 3, 1, zr0),
  (1, 1, none, .iconst 0, 1, zr0),
  (2, 2, none, .aload_n 0, 1, zr0),
  (3, 3, none, .iload_n 1, 1, zr0),
  (4, 4, none, .iload_n 2, 1, zr0),
  (5, 5, none, .invokevirtual 7, 3, (zrM 0 10 [4199, 4200, 4201, 1001, 4202] h_W_cell)),
  (6, 8, none, .i2l, 1, zr0),
  (7, 9, none, .lastore, 1, zr0),
  (8, 10, none, .goto 7, 3, (zrT 12)),
  (9, 13, none, .astore 4, 2, zr0),
  (10, 15, none, .iconst 1, 1, zr0),
  (11, 16, none, .ireturn, 1, zr0),
  (12, 17, none, .iconst 0, 1, zr0),
  (13, 18, none, .ireturn, 1, zr0)]
theorem ck_Lw_cell : zck h_Lw_cell k_Lw_cell = true := by decide +kernel
theorem ok_Lw_cell : zhok h_Lw_cell = true := by decide +kernel
