/-! ===== code tables, printed by a program: jdk ===== -/
def TJ_bitCount : List qIns := [
  (0, .lload_n 0, (0, 0, 0), (0, 0), qM0),
  (1, .lload_n 0, (0, 0, 0), (0, 0), qM0),
  (2, .iconst 1, (0, 0, 0), (1, 0), qM0),
  (3, .lushr, (0, 0, 0), (0, 0), qM0),
  (4, .ldc2_w 314, (0, 0, 384), (0, 6148914691236517205), qM0),
  (7, .land, (0, 0, 0), (0, 0), qM0),
  (8, .lsub, (0, 0, 0), (0, 0), qM0),
  (9, .lstore_n 0, (0, 0, 0), (0, 0), qM0),
  (10, .lload_n 0, (0, 0, 0), (0, 0), qM0),
  (11, .ldc2_w 316, (0, 0, 385), (0, 3689348814741910323), qM0),
  (14, .land, (0, 0, 0), (0, 0), qM0),
  (15, .lload_n 0, (0, 0, 0), (0, 0), qM0),
  (16, .iconst 2, (0, 0, 0), (2, 0), qM0),
  (17, .lushr, (0, 0, 0), (0, 0), qM0),
  (18, .ldc2_w 316, (0, 0, 385), (0, 3689348814741910323), qM0),
  (21, .land, (0, 0, 0), (0, 0), qM0),
  (22, .ladd, (0, 0, 0), (0, 0), qM0),
  (23, .lstore_n 0, (0, 0, 0), (0, 0), qM0),
  (24, .lload_n 0, (0, 0, 0), (0, 0), qM0),
  (25, .lload_n 0, (0, 0, 0), (0, 0), qM0),
  (26, .iconst 4, (0, 0, 0), (4, 0), qM0),
  (27, .lushr, (0, 0, 0), (0, 0), qM0),
  (28, .ladd, (0, 0, 0), (0, 0), qM0),
  (29, .ldc2_w 318, (0, 0, 386), (0, 1085102592571150095), qM0),
  (32, .land, (0, 0, 0), (0, 0), qM0),
  (33, .lstore_n 0, (0, 0, 0), (0, 0), qM0),
  (34, .lload_n 0, (0, 0, 0), (0, 0), qM0),
  (35, .lload_n 0, (0, 0, 0), (0, 0), qM0),
  (36, .bipush 8, (0, 0, 0), (8, 0), qM0),
  (38, .lushr, (0, 0, 0), (0, 0), qM0),
  (39, .ladd, (0, 0, 0), (0, 0), qM0),
  (40, .lstore_n 0, (0, 0, 0), (0, 0), qM0),
  (41, .lload_n 0, (0, 0, 0), (0, 0), qM0),
  (42, .lload_n 0, (0, 0, 0), (0, 0), qM0),
  (43, .bipush 16, (0, 0, 0), (16, 0), qM0),
  (45, .lushr, (0, 0, 0), (0, 0), qM0),
  (46, .ladd, (0, 0, 0), (0, 0), qM0),
  (47, .lstore_n 0, (0, 0, 0), (0, 0), qM0),
  (48, .lload_n 0, (0, 0, 0), (0, 0), qM0),
  (49, .lload_n 0, (0, 0, 0), (0, 0), qM0),
  (50, .bipush 32, (0, 0, 0), (32, 0), qM0),
  (52, .lushr, (0, 0, 0), (0, 0), qM0),
  (53, .ladd, (0, 0, 0), (0, 0), qM0),
  (54, .lstore_n 0, (0, 0, 0), (0, 0), qM0),
  (55, .lload_n 0, (0, 0, 0), (0, 0), qM0),
  (56, .l2i, (0, 0, 0), (0, 0), qM0),
  (57, .bipush 127, (0, 0, 0), (127, 0), qM0),
  (59, .iand, (0, 0, 0), (0, 0), qM0),
  (60, .ireturn, (0, 0, 0), (0, 0), qM0)]
theorem hwJ_bitCount : qHW MJ_bitCount := hw_of 383 68 382 0 (by decide +kernel)
theorem okJ_bitCount : tabOK MJ_bitCount TJ_bitCount = true := by decide +kernel
def TJ_compare : List qIns := [
  (0, .lload_n 0, (0, 0, 0), (0, 0), qM0),
  (1, .lload_n 2, (2, 0, 0), (0, 0), qM0),
  (2, .lcmp, (0, 0, 0), (0, 0), qM0),
  (3, .ifCond .ge 7, (0, 10, 0), (0, 0), qM0),
  (6, .iconst (-1), (0, 0, 0), ((-1), 0), qM0),
  (7, .goto 14, (0, 21, 0), (0, 0), qM0),
  (10, .lload_n 0, (0, 0, 0), (0, 0), qM0),
  (11, .lload_n 2, (2, 0, 0), (0, 0), qM0),
  (12, .lcmp, (0, 0, 0), (0, 0), qM0),
  (13, .ifCond .ne 7, (0, 20, 0), (0, 0), qM0),
  (16, .iconst 0, (0, 0, 0), (0, 0), qM0),
  (17, .goto 4, (0, 21, 0), (0, 0), qM0),
  (20, .iconst 1, (0, 0, 0), (1, 0), qM0),
  (21, .ireturn, (0, 0, 0), (0, 0), qM0)]
theorem hwJ_compare : qHW MJ_compare := hw_of 974 68 973 0 (by decide +kernel)
theorem okJ_compare : tabOK MJ_compare TJ_compare = true := by decide +kernel
def TJ_max : List qIns := [
  (0, .iload_n 0, (0, 0, 0), (0, 0), qM0),
  (1, .iload_n 1, (1, 0, 0), (0, 0), qM0),
  (2, .if_icmp .lt 7, (0, 9, 0), (0, 0), qM0),
  (5, .iload_n 0, (0, 0, 0), (0, 0), qM0),
  (6, .goto 4, (0, 10, 0), (0, 0), qM0),
  (9, .iload_n 1, (1, 0, 0), (0, 0), qM0),
  (10, .ireturn, (0, 0, 0), (0, 0), qM0)]
theorem hwJ_max : qHW MJ_max := hw_of 589 71 588 0 (by decide +kernel)
theorem okJ_max : tabOK MJ_max TJ_max = true := by decide +kernel
def TJ_min : List qIns := [
  (0, .iload_n 0, (0, 0, 0), (0, 0), qM0),
  (1, .iload_n 1, (1, 0, 0), (0, 0), qM0),
  (2, .if_icmp .gt 7, (0, 9, 0), (0, 0), qM0),
  (5, .iload_n 0, (0, 0, 0), (0, 0), qM0),
  (6, .goto 4, (0, 10, 0), (0, 0), qM0),
  (9, .iload_n 1, (1, 0, 0), (0, 0), qM0),
  (10, .ireturn, (0, 0, 0), (0, 0), qM0)]
theorem hwJ_min : qHW MJ_min := hw_of 964 71 963 0 (by decide +kernel)
theorem okJ_min : tabOK MJ_min TJ_min = true := by decide +kernel
def TJ_minL : List qIns := [
  (0, .lload_n 0, (0, 0, 0), (0, 0), qM0),
  (1, .lload_n 2, (2, 0, 0), (0, 0), qM0),
  (2, .lcmp, (0, 0, 0), (0, 0), qM0),
  (3, .ifCond .gt 7, (0, 10, 0), (0, 0), qM0),
  (6, .lload_n 0, (0, 0, 0), (0, 0), qM0),
  (7, .goto 4, (0, 11, 0), (0, 0), qM0),
  (10, .lload_n 2, (2, 0, 0), (0, 0), qM0),
  (11, .lreturn, (0, 0, 0), (0, 0), qM0)]
theorem hwJ_minL : qHW MJ_minL := hw_of 909 71 908 0 (by decide +kernel)
theorem okJ_minL : tabOK MJ_minL TJ_minL = true := by decide +kernel
def TJ_isNaN : List qIns := [
  (0, .dload_n 0, (0, 0, 0), (0, 0), qM0),
  (1, .dload_n 0, (0, 0, 0), (0, 0), qM0),
  (2, .dcmp .l, (0, 0, 0), (0, 0), qM0),
  (3, .ifCond .eq 7, (0, 10, 0), (0, 0), qM0),
  (6, .iconst 1, (0, 0, 0), (1, 0), qM0),
  (7, .goto 4, (0, 11, 0), (0, 0), qM0),
  (10, .iconst 0, (0, 0, 0), (0, 0), qM0),
  (11, .ireturn, (0, 0, 0), (0, 0), qM0)]
theorem hwJ_isNaN : qHW MJ_isNaN := hw_of 1435 74 1434 0 (by decide +kernel)
theorem okJ_isNaN : tabOK MJ_isNaN TJ_isNaN = true := by decide +kernel
def TJ_doubleToLongBits : List qIns := [
  (0, .dload_n 0, (0, 0, 0), (0, 0), qM0),
  (1, .invokestatic 122, (0, 0, 1433), (0, 0), MJ_isNaN),
  (4, .ifCond .ne 8, (0, 12, 0), (0, 0), qM0),
  (7, .dload_n 0, (0, 0, 0), (0, 0), qM0),
  (8, .invokestatic 134, (91, 0, 1436), (0, 0), qM0),
  (11, .lreturn, (0, 0, 0), (0, 0), qM0),
  (12, .ldc2_w 137, (0, 0, 1439), (0, 9221120237041090560), qM0),
  (15, .lreturn, (0, 0, 0), (0, 0), qM0)]
theorem hwJ_doubleToLongBits : qHW MJ_doubleToLongBits := hw_of 1432 74 1431 0 (by decide +kernel)
theorem okJ_doubleToLongBits : tabOK MJ_doubleToLongBits TJ_doubleToLongBits = true := by decide +kernel
def TJ_isNaNF : List qIns := [
  (0, .fload_n 0, (0, 0, 0), (0, 0), qM0),
  (1, .fload_n 0, (0, 0, 0), (0, 0), qM0),
  (2, .fcmp .l, (0, 0, 0), (0, 0), qM0),
  (3, .ifCond .eq 7, (0, 10, 0), (0, 0), qM0),
  (6, .iconst 1, (0, 0, 0), (1, 0), qM0),
  (7, .goto 4, (0, 11, 0), (0, 0), qM0),
  (10, .iconst 0, (0, 0, 0), (0, 0), qM0),
  (11, .ireturn, (0, 0, 0), (0, 0), qM0)]
theorem hwJ_isNaNF : qHW MJ_isNaNF := hw_of 1419 73 1418 0 (by decide +kernel)
theorem okJ_isNaNF : tabOK MJ_isNaNF TJ_isNaNF = true := by decide +kernel
def TJ_floatToIntBits : List qIns := [
  (0, .fload_n 0, (0, 0, 0), (0, 0), qM0),
  (1, .invokestatic 59, (0, 0, 1417), (0, 0), MJ_isNaNF),
  (4, .ifCond .ne 8, (0, 12, 0), (0, 0), qM0),
  (7, .fload_n 0, (0, 0, 0), (0, 0), qM0),
  (8, .invokestatic 74, (93, 0, 1420), (0, 0), qM0),
  (11, .ireturn, (0, 0, 0), (0, 0), qM0),
  (12, .ldc 77, (0, 0, 1423), (2143289344, 0), qM0),
  (14, .ireturn, (0, 0, 0), (0, 0), qM0)]
theorem hwJ_floatToIntBits : qHW MJ_floatToIntBits := hw_of 1416 73 1415 0 (by decide +kernel)
theorem okJ_floatToIntBits : tabOK MJ_floatToIntBits TJ_floatToIntBits = true := by decide +kernel
