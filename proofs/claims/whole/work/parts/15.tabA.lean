/-! rows of methods, and that they are the code's -/
theorem xall_app {p : xRow → Bool} {a b : List xRow} (h1 : a.all p = true) (h2 : b.all p = true) : (a ++ b).all p = true := by
  rw [List.all_append, h1, h2]
  rfl
def rX0_init : List xRow := [
(0, .aload_n 0, 1, 0, [], [], .null),
  (1, .invokespecial 1, 4, 0, [], [693, 109, 110], .null),
  (4, .aload_n 0, 5, 0, [], [], .null),
  (5, .iload_n 1, 6, 1, [], [], .null),
  (6, .putfield 7, 9, 0, [(0, 0), (3, 0), (1, 0)], [694], .null),
  (9, .aload_n 0, 10, 0, [], [], .null),
  (10, .iload_n 2, 11, 2, [], [], .null),
  (11, .putfield 13, 14, 0, [(0, 1), (3, 1), (1, 1)], [696], .null),
  (14, .aload_n 0, 15, 0, [], [], .null),
  (15, .iload_n 3, 16, 3, [], [], .null),
  (16, .putfield 16, 19, 0, [(0, 2), (3, 2), (1, 2)], [699], .null),
  (19, .aload_n 0, 20, 0, [], [], .null),
  (20, .iload 4, 22, 4, [], [], .null),
  (22, .putfield 19, 25, 0, [(0, 3), (3, 3), (1, 3)], [702], .null),
  (25, .aload_n 0, 26, 0, [], [], .null),
  (26, .iconst (-1), 27, 0, [], [], .int (-1)),
  (27, .putfield 22, 30, 0, [(0, 5), (3, 5), (1, 5)], [709], .null),
  (30, .return_, 31, 0, [], [], .null)]
def MX0_init : xM := (yX0_init, prog_2_method_1_code, 5, none, rX0_init)
set_option maxRecDepth 100000 in
theorem oX0_init : xokM MX0_init = true := by decide +kernel
def rX0_kindNumber : List xRow := [
(0, .iconst 0, 1, 0, [], [], .int 0),
  (1, .ireturn, 2, 0, [], [], .null)]
def MX0_kindNumber : xM := (yX0_kindNumber, prog_2_method_2_code, 1, (some .int), rX0_kindNumber)
set_option maxRecDepth 100000 in
theorem oX0_kindNumber : xokM MX0_kindNumber = true := by decide +kernel
def rX0_telling : List xRow := [
(0, .aload_n 0, 1, 0, [], [], .null),
  (1, .aload_n 1, 2, 1, [], [], .null),
  (2, .invokevirtual 25, 5, 0, [(0, 3)], [1152, 1144, 1735, 100, 0, 0, 0, 0], .retAddr 1),
  (5, .ireturn, 6, 0, [], [], .null)]
def MX0_telling : xM := (yX0_telling, prog_2_method_3_code, 2, (some .int), rX0_telling)
set_option maxRecDepth 100000 in
theorem oX0_telling : xokM MX0_telling = true := by decide +kernel
def rX0_plainTelling : List xRow := [
(0, .aload_n 1, 1, 1, [], [], .null),
  (1, .iconst 1, 2, 0, [], [], .int 1),
  (2, .invokevirtual 29, 5, 0, [(10, 141)], [1146, 1132, 1133, 93, 0, 0, 0, 0], .retAddr 1),
  (5, .aload_n 0, 6, 0, [], [], .null),
  (6, .getfield 19, 9, 0, [(0, 3), (3, 3), (1, 3)], [702], .null),
  (9, .ireturn, 10, 0, [], [], .null)]
def MX0_plainTelling : xM := (yX0_plainTelling, prog_2_method_4_code, 2, (some .int), rX0_plainTelling)
set_option maxRecDepth 100000 in
theorem oX0_plainTelling : xokM MX0_plainTelling = true := by decide +kernel
def rX0_signing : List xRow := [
(0, .aload_n 1, 1, 1, [], [], .null),
  (1, .iconst 4, 2, 0, [], [], .int 4),
  (2, .invokevirtual 29, 5, 0, [(10, 141)], [1146, 1132, 1133, 93, 0, 0, 0, 0], .retAddr 1),
  (5, .aload_n 0, 6, 0, [], [], .null),
  (6, .getfield 7, 9, 0, [(0, 0), (3, 0), (1, 0)], [694], .null),
  (9, .ireturn, 10, 0, [], [], .null)]
def MX0_signing : xM := (yX0_signing, prog_2_method_5_code, 2, (some .int), rX0_signing)
set_option maxRecDepth 100000 in
theorem oX0_signing : xokM MX0_signing = true := by decide +kernel
def rX1_init : List xRow := [
(0, .aload_n 0, 1, 0, [], [], .null),
  (1, .iload_n 1, 2, 1, [], [], .null),
  (2, .iload_n 2, 3, 2, [], [], .null),
  (3, .iload_n 3, 4, 3, [], [], .null),
  (4, .iload 4, 6, 4, [], [], .null),
  (6, .invokespecial 1, 9, 30, [], [729, 688, 101, 689], .retAddr 4),
  (9, .return_, 10, 0, [], [], .null)]
def MX1_init : xM := (yX1_init, prog_3_method_1_code, 5, none, rX1_init)
set_option maxRecDepth 100000 in
theorem oX1_init : xokM MX1_init = true := by decide +kernel
def rX1_kindNumber : List xRow := [
(0, .iconst 2, 1, 0, [], [], .int 2),
  (1, .ireturn, 2, 0, [], [], .null)]
def MX1_kindNumber : xM := (yX1_kindNumber, prog_3_method_2_code, 1, (some .int), rX1_kindNumber)
set_option maxRecDepth 100000 in
theorem oX1_kindNumber : xokM MX1_kindNumber = true := by decide +kernel
def rX1_telling : List xRow := [
(0, .aload_n 1, 1, 1, [], [], .null),
  (1, .iconst 3, 2, 0, [], [], .int 3),
  (2, .invokevirtual 7, 5, 0, [(10, 141)], [1131, 1132, 1133, 93, 0, 0, 0, 0], .retAddr 1),
  (5, .aload_n 0, 6, 0, [], [], .null),
  (6, .aload_n 1, 7, 1, [], [], .null),
  (7, .invokespecial 13, 10, 32, [(1, 32)], [1135, 1136, 101, 1137, 1733, 736], .retAddr 1),
  (10, .istore_n 2, 11, 2, [], [], .null),
  (11, .iload_n 2, 12, 2, [], [], .null),
  (12, .aload_n 0, 13, 0, [], [], .null),
  (13, .aload_n 1, 14, 1, [], [], .null),
  (14, .invokevirtual 17, 17, 0, [(1, 3)], [1147, 1144, 1149, 100, 1148, 1144, 1145, 0], .retAddr 1),
  (17, .iadd, 18, 0, [], [], .null),
  (18, .ireturn, 19, 0, [], [], .null)]
def MX1_telling : xM := (yX1_telling, prog_3_method_3_code, 3, (some .int), rX1_telling)
set_option maxRecDepth 100000 in
theorem oX1_telling : xokM MX1_telling = true := by decide +kernel
def rX1_signing : List xRow := [
(0, .aload_n 1, 1, 1, [], [], .null),
  (1, .iconst 5, 2, 0, [], [], .int 5),
  (2, .invokevirtual 7, 5, 0, [(10, 141)], [1131, 1132, 1133, 93, 0, 0, 0, 0], .retAddr 1),
  (5, .bipush 70, 7, 0, [], [], .int 70),
  (7, .ireturn, 8, 0, [], [], .null)]
def MX1_signing : xM := (yX1_signing, prog_3_method_4_code, 2, (some .int), rX1_signing)
set_option maxRecDepth 100000 in
theorem oX1_signing : xokM MX1_signing = true := by decide +kernel
def rX2_init : List xRow := [
(0, .aload_n 0, 1, 0, [], [], .null),
  (1, .invokespecial 3, 4, 0, [], [116, 109, 110], .null),
  (4, .aload_n 0, 5, 0, [], [], .null),
  (5, .bipush 8, 7, 0, [], [], .int 8),
  (7, .newarray .int, 9, 0, [], [156], .null),
  (9, .putfield 11, 12, 0, [(2, 0)], [119], .null),
  (12, .aload_n 0, 13, 0, [], [], .null),
  (13, .bipush 8, 15, 0, [], [], .int 8),
  (15, .newarray .int, 17, 0, [], [156], .null),
  (17, .putfield 15, 20, 0, [(2, 1)], [120], .null),
  (20, .aload_n 0, 21, 0, [], [], .null),
  (21, .bipush 8, 23, 0, [], [], .int 8),
  (23, .newarray .int, 25, 0, [], [156], .null),
  (25, .putfield 18, 28, 0, [(2, 2)], [121], .null),
  (28, .aload_n 0, 29, 0, [], [], .null),
  (29, .bipush 60, 31, 0, [], [], .int 60),
  (31, .newarray .int, 33, 0, [], [156], .null),
  (33, .putfield 21, 36, 0, [(2, 4)], [123], .null),
  (36, .aload_n 0, 37, 0, [], [], .null),
  (37, .bipush 8, 39, 0, [], [], .int 8),
  (39, .newarray .int, 41, 0, [], [156], .null),
  (41, .putfield 24, 44, 0, [(2, 5)], [124], .null),
  (44, .aload_n 0, 45, 0, [], [], .null),
  (45, .bipush 8, 47, 0, [], [], .int 8),
  (47, .newarray .int, 49, 0, [], [156], .null),
  (49, .putfield 27, 52, 0, [(2, 6)], [125], .null),
  (52, .aload_n 0, 53, 0, [], [], .null),
  (53, .bipush 8, 55, 0, [], [], .int 8),
  (55, .newarray .int, 57, 0, [], [156], .null),
  (57, .putfield 30, 60, 0, [(2, 7)], [126], .null),
  (60, .aload_n 0, 61, 0, [], [], .null),
  (61, .bipush 8, 63, 0, [], [], .int 8),
  (63, .bipush 6, 65, 0, [], [], .int 6),
  (65, .multianewarray 33 2, 69, 3, [], [117, 118, 156], .null),
  (69, .putfield 35, 72, 0, [(2, 11)], [130], .null),
  (72, .return_, 73, 0, [], [], .null)]
def MX2_init : xM := (yX2_init, prog_4_method_1_code, 1, none, rX2_init)
set_option maxRecDepth 100000 in
theorem oX2_init : xokM MX2_init = true := by decide +kernel
def rX2_howMany : List xRow := [
(0, .aload_n 0, 1, 0, [], [], .null),
  (1, .getfield 38, 4, 0, [(2, 3)], [122], .null),
  (4, .ireturn, 5, 0, [], [], .null)]
def MX2_howMany : xM := (yX2_howMany, prog_4_method_2_code, 1, (some .int), rX2_howMany)
set_option maxRecDepth 100000 in
theorem oX2_howMany : xokM MX2_howMany = true := by decide +kernel
def rX2_isPanel : List xRow := [
(0, .iload_n 1, 1, 1, [], [], .null),
  (1, .ifCond .lt 15, 4, 16, [], [], .null),
  (4, .iload_n 1, 5, 1, [], [], .null),
  (5, .aload_n 0, 6, 0, [], [], .null),
  (6, .getfield 38, 9, 0, [(2, 3)], [122], .null),
  (9, .if_icmp .ge 7, 12, 16, [], [], .null),
  (12, .iconst 1, 13, 0, [], [], .int 1),
  (13, .goto 4, 16, 17, [], [], .null),
  (16, .iconst 0, 17, 0, [], [], .int 0),
  (17, .ireturn, 18, 1, [], [], .null)]
def MX2_isPanel : xM := (yX2_isPanel, prog_4_method_3_code, 2, (some .boolean), rX2_isPanel)
set_option maxRecDepth 100000 in
theorem oX2_isPanel : xokM MX2_isPanel = true := by decide +kernel
def rX2_takeCode : List xRow := [
(0, .iload_n 1, 1, 1, [], [], .null),
  (1, .ifCond .lt 16, 4, 17, [], [], .null),
  (4, .iload_n 1, 5, 1, [], [], .null),
  (5, .bipush 60, 7, 0, [], [], .int 60),
  (7, .if_icmp .ge 10, 10, 17, [], [], .null),
  (10, .aload_n 0, 11, 0, [], [], .null),
  (11, .getfield 21, 14, 0, [(2, 4)], [123], .null),
  (14, .iload_n 1, 15, 1, [], [], .null),
  (15, .iload_n 2, 16, 2, [], [], .null),
  (16, .iastore, 17, 0, [], [], .null),
  (17, .return_, 18, 0, [], [], .null)]
def MX2_takeCode : xM := (yX2_takeCode, prog_4_method_4_code, 3, none, rX2_takeCode)
set_option maxRecDepth 100000 in
theorem oX2_takeCode : xokM MX2_takeCode = true := by decide +kernel
def rX2_becomeText_0 : List xRow := [
  (0, .aload_n 0, 1, 0, [], [], .null),
  (1, .iconst 0, 2, 0, [], [], .int 0),
  (2, .iload_n 1, 3, 1, [], [], .null),
  (3, .bipush 60, 5, 0, [], [], .int 60),
  (5, .invokestatic 42, 8, 287, [], [464, 170, 89, 171], .retAddr 2),
  (8, .invokestatic 48, 11, 286, [], [465, 173, 89, 174], .retAddr 2),
  (11, .putfield 51, 14, 0, [(2, 8)], [127], .null),
  (14, .aload_n 0, 15, 0, [], [], .null),
  (15, .iconst 0, 16, 0, [], [], .int 0),
  (16, .putfield 54, 19, 0, [(2, 9)], [128], .null),
  (19, .aload_n 0, 20, 0, [], [], .null),
  (20, .iconst (-1), 21, 0, [], [], .int (-1)),
  (21, .putfield 57, 24, 0, [(2, 10)], [129], .null),
  (24, .aload_n 0, 25, 0, [], [], .null),
  (25, .invokevirtual 60, 28, 0, [(2, 14)], [466, 468, 5, 87, 0, 0, 0, 0], .retAddr 0),
  (28, .istore_n 2, 29, 2, [], [], .null),
  (29, .aload_n 0, 30, 0, [], [], .null),
  (30, .getfield 57, 33, 0, [(2, 10)], [129], .null),
  (33, .iconst (-1), 34, 0, [], [], .int (-1)),
  (34, .if_icmp .eq 11, 37, 45, [], [], .null),
  (37, .bipush (-100), 39, 0, [], [], .int (-100)),
  (39, .aload_n 0, 40, 0, [], [], .null),
  (40, .getfield 57, 43, 0, [(2, 10)], [129], .null),
  (43, .isub, 44, 0, [], [], .null),
  (44, .ireturn, 45, 0, [], [], .null),
  (45, .iconst 0, 46, 0, [], [], .int 0),
  (46, .istore_n 3, 47, 3, [], [], .null),
  (47, .iload_n 3, 48, 3, [], [], .null),
  (48, .iload_n 2, 49, 2, [], [], .null),
  (49, .if_icmp .ge 45, 52, 94, [], [], .null),
  (52, .aload_n 0, 53, 0, [], [], .null),
  (53, .getfield 11, 56, 0, [(2, 0)], [119], .null),
  (56, .iload_n 3, 57, 3, [], [], .null),
  (57, .aload_n 0, 58, 0, [], [], .null),
  (58, .getfield 24, 61, 0, [(2, 5)], [124], .null),
  (61, .iload_n 3, 62, 3, [], [], .null),
  (62, .iaload, 63, 0, [], [], .null),
  (63, .iastore, 64, 0, [], [], .null),
  (64, .aload_n 0, 65, 0, [], [], .null),
  (65, .getfield 15, 68, 0, [(2, 1)], [120], .null)]
def rX2_becomeText_1 : List xRow := [
  (68, .iload_n 3, 69, 3, [], [], .null),
  (69, .aload_n 0, 70, 0, [], [], .null),
  (70, .getfield 27, 73, 0, [(2, 6)], [125], .null),
  (73, .iload_n 3, 74, 3, [], [], .null),
  (74, .iaload, 75, 0, [], [], .null),
  (75, .iastore, 76, 0, [], [], .null),
  (76, .aload_n 0, 77, 0, [], [], .null),
  (77, .getfield 18, 80, 0, [(2, 2)], [121], .null),
  (80, .iload_n 3, 81, 3, [], [], .null),
  (81, .aload_n 0, 82, 0, [], [], .null),
  (82, .getfield 30, 85, 0, [(2, 7)], [126], .null),
  (85, .iload_n 3, 86, 3, [], [], .null),
  (86, .iaload, 87, 0, [], [], .null),
  (87, .iastore, 88, 0, [], [], .null),
  (88, .iinc 3 1, 91, 3, [], [], .int 1),
  (91, .goto (-44), 94, 47, [], [], .null),
  (94, .aload_n 0, 95, 0, [], [], .null),
  (95, .iload_n 2, 96, 2, [], [], .null),
  (96, .putfield 38, 99, 0, [(2, 3)], [122], .null),
  (99, .aload_n 0, 100, 0, [], [], .null),
  (100, .getfield 38, 103, 0, [(2, 3)], [122], .null),
  (103, .ireturn, 104, 0, [], [], .null)]
def rX2_becomeText : List xRow := rX2_becomeText_0 ++ (rX2_becomeText_1)
def MX2_becomeText : xM := (yX2_becomeText, prog_4_method_5_code, 4, (some .int), rX2_becomeText)
set_option maxRecDepth 100000 in
theorem oX2_becomeText_0 : rX2_becomeText_0.all (xokR yX2_becomeText.cls yX2_becomeText.name prog_4_method_5_code (some .int)) = true := by decide +kernel
set_option maxRecDepth 100000 in
theorem oX2_becomeText_1 : rX2_becomeText_1.all (xokR yX2_becomeText.cls yX2_becomeText.name prog_4_method_5_code (some .int)) = true := by decide +kernel
theorem oX2_becomeText : xokM MX2_becomeText = true := xall_app oX2_becomeText_0 (oX2_becomeText_1)
def rX2_readItems : List xRow := [
(0, .iconst 0, 1, 0, [], [], .int 0),
  (1, .istore_n 1, 2, 1, [], [], .null),
  (2, .iconst 1, 3, 0, [], [], .int 1),
  (3, .istore_n 2, 4, 2, [], [], .null),
  (4, .iload_n 2, 5, 2, [], [], .null),
  (5, .ifCond .eq 49, 8, 54, [], [], .null),
  (8, .iload_n 1, 9, 1, [], [], .null),
  (9, .bipush 8, 11, 0, [], [], .int 8),
  (11, .if_icmp .ge 43, 14, 54, [], [], .null),
  (14, .aload_n 0, 15, 0, [], [], .null),
  (15, .iload_n 1, 16, 1, [], [], .null),
  (16, .invokevirtual 64, 19, 0, [(2, 15)], [470, 472, 6, 87, 0, 0, 0, 0], .retAddr 1),
  (19, .iinc 1 1, 22, 1, [], [], .int 1),
  (22, .aload_n 0, 23, 0, [], [], .null),
  (23, .getfield 57, 26, 0, [(2, 10)], [129], .null),
  (26, .iconst (-1), 27, 0, [], [], .int (-1)),
  (27, .if_icmp .ne 22, 30, 49, [], [], .null),
  (30, .iload_n 1, 31, 1, [], [], .null),
  (31, .bipush 8, 33, 0, [], [], .int 8),
  (33, .if_icmp .ge 16, 36, 49, [], [], .null),
  (36, .aload_n 0, 37, 0, [], [], .null),
  (37, .bipush 59, 39, 0, [], [], .int 59),
  (39, .invokevirtual 68, 42, 0, [(2, 17)], [478, 480, 8, 87, 0, 0, 0, 0], .retAddr 1),
  (42, .ifCond .eq 7, 45, 49, [], [], .null),
  (45, .iconst 1, 46, 0, [], [], .int 1),
  (46, .goto 4, 49, 50, [], [], .null),
  (49, .iconst 0, 50, 0, [], [], .int 0),
  (50, .istore_n 2, 51, 2, [], [], .null),
  (51, .goto (-47), 54, 4, [], [], .null),
  (54, .aload_n 0, 55, 0, [], [], .null),
  (55, .getfield 54, 58, 0, [(2, 9)], [128], .null),
  (58, .aload_n 0, 59, 0, [], [], .null),
  (59, .getfield 51, 62, 0, [(2, 8)], [127], .null),
  (62, .if_icmp .ge 11, 65, 73, [], [], .null),
  (65, .aload_n 0, 66, 0, [], [], .null),
  (66, .aload_n 0, 67, 0, [], [], .null),
  (67, .getfield 54, 70, 0, [(2, 9)], [128], .null),
  (70, .invokevirtual 72, 73, 0, [(2, 16)], [482, 484, 9, 87, 0, 0, 0, 0], .retAddr 1),
  (73, .iload_n 1, 74, 1, [], [], .null),
  (74, .ireturn, 75, 0, [], [], .null)]
def MX2_readItems : xM := (yX2_readItems, prog_4_method_6_code, 3, (some .int), rX2_readItems)
set_option maxRecDepth 100000 in
theorem oX2_readItems : xokM MX2_readItems = true := by decide +kernel
def rX2_readItem : List xRow := [
(0, .aload_n 0, 1, 0, [], [], .null),
  (1, .bipush 114, 3, 0, [], [], .int 114),
  (3, .invokevirtual 75, 6, 0, [(2, 18)], [474, 476, 7, 87, 0, 0, 0, 0], .retAddr 1),
  (6, .aload_n 0, 7, 0, [], [], .null),
  (7, .getfield 24, 10, 0, [(2, 5)], [124], .null),
  (10, .iload_n 1, 11, 1, [], [], .null),
  (11, .aload_n 0, 12, 0, [], [], .null),
  (12, .iconst 0, 13, 0, [], [], .int 0),
  (13, .bipush 99, 15, 0, [], [], .int 99),
  (15, .invokevirtual 78, 18, 0, [(2, 19)], [486, 488, 10, 87, 0, 0, 0, 0], .retAddr 2),
  (18, .iastore, 19, 0, [], [], .null),
  (19, .aload_n 0, 20, 0, [], [], .null),
  (20, .bipush 44, 22, 0, [], [], .int 44),
  (22, .invokevirtual 75, 25, 0, [(2, 18)], [474, 476, 7, 87, 0, 0, 0, 0], .retAddr 1),
  (25, .aload_n 0, 26, 0, [], [], .null),
  (26, .getfield 27, 29, 0, [(2, 6)], [125], .null),
  (29, .iload_n 1, 30, 1, [], [], .null),
  (30, .aload_n 0, 31, 0, [], [], .null),
  (31, .iconst 1, 32, 0, [], [], .int 1),
  (32, .bipush 99, 34, 0, [], [], .int 99),
  (34, .invokevirtual 78, 37, 0, [(2, 19)], [486, 488, 10, 87, 0, 0, 0, 0], .retAddr 2),
  (37, .iastore, 38, 0, [], [], .null),
  (38, .aload_n 0, 39, 0, [], [], .null),
  (39, .getfield 30, 42, 0, [(2, 7)], [126], .null),
  (42, .iload_n 1, 43, 1, [], [], .null),
  (43, .iconst 0, 44, 0, [], [], .int 0),
  (44, .iastore, 45, 0, [], [], .null),
  (45, .aload_n 0, 46, 0, [], [], .null),
  (46, .getfield 57, 49, 0, [(2, 10)], [129], .null),
  (49, .iconst (-1), 50, 0, [], [], .int (-1)),
  (50, .if_icmp .ne 26, 53, 76, [], [], .null),
  (53, .aload_n 0, 54, 0, [], [], .null),
  (54, .bipush 119, 56, 0, [], [], .int 119),
  (56, .invokevirtual 68, 59, 0, [(2, 17)], [478, 480, 8, 87, 0, 0, 0, 0], .retAddr 1),
  (59, .ifCond .eq 17, 62, 76, [], [], .null),
  (62, .aload_n 0, 63, 0, [], [], .null),
  (63, .getfield 30, 66, 0, [(2, 7)], [126], .null),
  (66, .iload_n 1, 67, 1, [], [], .null),
  (67, .aload_n 0, 68, 0, [], [], .null),
  (68, .iconst 0, 69, 0, [], [], .int 0),
  (69, .sipush 999, 72, 0, [], [], .int 999),
  (72, .invokevirtual 78, 75, 0, [(2, 19)], [486, 488, 10, 87, 0, 0, 0, 0], .retAddr 2),
  (75, .iastore, 76, 0, [], [], .null),
  (76, .return_, 77, 0, [], [], .null)]
def MX2_readItem : xM := (yX2_readItem, prog_4_method_7_code, 2, none, rX2_readItem)
set_option maxRecDepth 100000 in
theorem oX2_readItem : xokM MX2_readItem = true := by decide +kernel
def rX2_wrongAt : List xRow := [
(0, .aload_n 0, 1, 0, [], [], .null),
  (1, .getfield 57, 4, 0, [(2, 10)], [129], .null),
  (4, .iconst (-1), 5, 0, [], [], .int (-1)),
  (5, .if_icmp .ne 8, 8, 13, [], [], .null),
  (8, .aload_n 0, 9, 0, [], [], .null),
  (9, .iload_n 1, 10, 1, [], [], .null),
  (10, .putfield 57, 13, 0, [(2, 10)], [129], .null),
  (13, .return_, 14, 0, [], [], .null)]
def MX2_wrongAt : xM := (yX2_wrongAt, prog_4_method_8_code, 2, none, rX2_wrongAt)
set_option maxRecDepth 100000 in
theorem oX2_wrongAt : xokM MX2_wrongAt = true := by decide +kernel
def rX2_stepOver : List xRow := [
(0, .aload_n 0, 1, 0, [], [], .null),
  (1, .getfield 54, 4, 0, [(2, 9)], [128], .null),
  (4, .ifCond .lt 27, 7, 31, [], [], .null),
  (7, .aload_n 0, 8, 0, [], [], .null),
  (8, .getfield 54, 11, 0, [(2, 9)], [128], .null),
  (11, .aload_n 0, 12, 0, [], [], .null),
  (12, .getfield 51, 15, 0, [(2, 8)], [127], .null),
  (15, .if_icmp .ge 16, 18, 31, [], [], .null),
  (18, .aload_n 0, 19, 0, [], [], .null),
  (19, .getfield 21, 22, 0, [(2, 4)], [123], .null),
  (22, .aload_n 0, 23, 0, [], [], .null),
  (23, .getfield 54, 26, 0, [(2, 9)], [128], .null),
  (26, .iaload, 27, 0, [], [], .null),
  (27, .iload_n 1, 28, 1, [], [], .null),
  (28, .if_icmp .eq 5, 31, 33, [], [], .null),
  (31, .iconst 0, 32, 0, [], [], .int 0),
  (32, .ireturn, 33, 1, [], [], .null),
  (33, .aload_n 0, 34, 0, [], [], .null),
  (34, .dup, 35, 0, [], [], .null),
  (35, .getfield 54, 38, 0, [(2, 9)], [128], .null),
  (38, .iconst 1, 39, 0, [], [], .int 1),
  (39, .iadd, 40, 0, [], [], .null),
  (40, .putfield 54, 43, 0, [(2, 9)], [128], .null),
  (43, .iconst 1, 44, 0, [], [], .int 1),
  (44, .ireturn, 45, 1, [], [], .null)]
def MX2_stepOver : xM := (yX2_stepOver, prog_4_method_9_code, 2, (some .boolean), rX2_stepOver)
set_option maxRecDepth 100000 in
theorem oX2_stepOver : xokM MX2_stepOver = true := by decide +kernel
def rX2_need : List xRow := [
(0, .aload_n 0, 1, 0, [], [], .null),
  (1, .getfield 57, 4, 0, [(2, 10)], [129], .null),
  (4, .iconst (-1), 5, 0, [], [], .int (-1)),
  (5, .if_icmp .ne 19, 8, 24, [], [], .null),
  (8, .aload_n 0, 9, 0, [], [], .null),
  (9, .iload_n 1, 10, 1, [], [], .null),
  (10, .invokevirtual 68, 13, 0, [(2, 17)], [478, 480, 8, 87, 0, 0, 0, 0], .retAddr 1),
  (13, .ifCond .ne 11, 16, 24, [], [], .null),
  (16, .aload_n 0, 17, 0, [], [], .null),
  (17, .aload_n 0, 18, 0, [], [], .null),
  (18, .getfield 54, 21, 0, [(2, 9)], [128], .null),
  (21, .invokevirtual 72, 24, 0, [(2, 16)], [482, 484, 9, 87, 0, 0, 0, 0], .retAddr 1),
  (24, .return_, 25, 0, [], [], .null)]
def MX2_need : xM := (yX2_need, prog_4_method_10_code, 2, none, rX2_need)
set_option maxRecDepth 100000 in
theorem oX2_need : xokM MX2_need = true := by decide +kernel
def rX2_readNumber_0 : List xRow := [
  (0, .aload_n 0, 1, 0, [], [], .null),
  (1, .getfield 54, 4, 0, [(2, 9)], [128], .null),
  (4, .istore_n 3, 5, 3, [], [], .null),
  (5, .iconst 0, 6, 0, [], [], .int 0),
  (6, .istore 4, 8, 4, [], [], .null),
  (8, .aload_n 0, 9, 0, [], [], .null),
  (9, .getfield 54, 12, 0, [(2, 9)], [128], .null),
  (12, .aload_n 0, 13, 0, [], [], .null),
  (13, .getfield 51, 16, 0, [(2, 8)], [127], .null),
  (16, .if_icmp .ge 74, 19, 90, [], [], .null),
  (19, .aload_n 0, 20, 0, [], [], .null),
  (20, .getfield 54, 23, 0, [(2, 9)], [128], .null),
  (23, .iload_n 3, 24, 3, [], [], .null),
  (24, .iconst 3, 25, 0, [], [], .int 3),
  (25, .iadd, 26, 0, [], [], .null),
  (26, .if_icmp .ge 64, 29, 90, [], [], .null),
  (29, .aload_n 0, 30, 0, [], [], .null),
  (30, .getfield 21, 33, 0, [(2, 4)], [123], .null),
  (33, .aload_n 0, 34, 0, [], [], .null),
  (34, .getfield 54, 37, 0, [(2, 9)], [128], .null),
  (37, .iaload, 38, 0, [], [], .null),
  (38, .bipush 48, 40, 0, [], [], .int 48),
  (40, .if_icmp .lt 50, 43, 90, [], [], .null),
  (43, .aload_n 0, 44, 0, [], [], .null),
  (44, .getfield 21, 47, 0, [(2, 4)], [123], .null),
  (47, .aload_n 0, 48, 0, [], [], .null),
  (48, .getfield 54, 51, 0, [(2, 9)], [128], .null),
  (51, .iaload, 52, 0, [], [], .null),
  (52, .bipush 57, 54, 0, [], [], .int 57),
  (54, .if_icmp .gt 36, 57, 90, [], [], .null),
  (57, .bipush 10, 59, 0, [], [], .int 10),
  (59, .iload 4, 61, 4, [], [], .null),
  (61, .imul, 62, 0, [], [], .null),
  (62, .aload_n 0, 63, 0, [], [], .null),
  (63, .getfield 21, 66, 0, [(2, 4)], [123], .null),
  (66, .aload_n 0, 67, 0, [], [], .null),
  (67, .getfield 54, 70, 0, [(2, 9)], [128], .null),
  (70, .iaload, 71, 0, [], [], .null),
  (71, .iadd, 72, 0, [], [], .null),
  (72, .bipush 48, 74, 0, [], [], .int 48)]
def rX2_readNumber_1 : List xRow := [
  (74, .isub, 75, 0, [], [], .null),
  (75, .istore 4, 77, 4, [], [], .null),
  (77, .aload_n 0, 78, 0, [], [], .null),
  (78, .dup, 79, 0, [], [], .null),
  (79, .getfield 54, 82, 0, [(2, 9)], [128], .null),
  (82, .iconst 1, 83, 0, [], [], .int 1),
  (83, .iadd, 84, 0, [], [], .null),
  (84, .putfield 54, 87, 0, [(2, 9)], [128], .null),
  (87, .goto (-79), 90, 8, [], [], .null),
  (90, .aload_n 0, 91, 0, [], [], .null),
  (91, .getfield 54, 94, 0, [(2, 9)], [128], .null),
  (94, .iload_n 3, 95, 3, [], [], .null),
  (95, .if_icmp .eq 15, 98, 110, [], [], .null),
  (98, .iload 4, 100, 4, [], [], .null),
  (100, .iload_n 1, 101, 1, [], [], .null),
  (101, .if_icmp .lt 9, 104, 110, [], [], .null),
  (104, .iload 4, 106, 4, [], [], .null),
  (106, .iload_n 2, 107, 2, [], [], .null),
  (107, .if_icmp .le 8, 110, 115, [], [], .null),
  (110, .aload_n 0, 111, 0, [], [], .null),
  (111, .iload_n 3, 112, 3, [], [], .null),
  (112, .invokevirtual 72, 115, 0, [(2, 16)], [482, 484, 9, 87, 0, 0, 0, 0], .retAddr 1),
  (115, .iload 4, 117, 4, [], [], .null),
  (117, .ireturn, 118, 0, [], [], .null)]
def rX2_readNumber : List xRow := rX2_readNumber_0 ++ (rX2_readNumber_1)
def MX2_readNumber : xM := (yX2_readNumber, prog_4_method_11_code, 5, (some .int), rX2_readNumber)
set_option maxRecDepth 100000 in
theorem oX2_readNumber_0 : rX2_readNumber_0.all (xokR yX2_readNumber.cls yX2_readNumber.name prog_4_method_11_code (some .int)) = true := by decide +kernel
set_option maxRecDepth 100000 in
theorem oX2_readNumber_1 : rX2_readNumber_1.all (xokR yX2_readNumber.cls yX2_readNumber.name prog_4_method_11_code (some .int)) = true := by decide +kernel
theorem oX2_readNumber : xokM MX2_readNumber = true := xall_app oX2_readNumber_0 (oX2_readNumber_1)
def rX2_aboutPanel : List xRow := [
(0, .aload_n 0, 1, 0, [], [], .null),
  (1, .iload_n 1, 2, 1, [], [], .null),
  (2, .invokevirtual 81, 5, 0, [(2, 11)], [502, 495, 496, 87, 0, 0, 0, 0], .retAddr 1),
  (5, .ifCond .ne 5, 8, 10, [], [], .null),
  (8, .iconst (-1), 9, 0, [], [], .int (-1)),
  (9, .ireturn, 10, 0, [], [], .null),
  (10, .iload_n 2, 11, 2, [], [], .null),
  (11, .tableswitch 66 0 4 #[33, 40, 47, 54, 60], 44, 77, [(0, 44), (1, 51), (2, 58), (3, 65), (4, 71)], [], .null),
  (44, .aload_n 0, 45, 0, [], [], .null),
  (45, .getfield 11, 48, 0, [(2, 0)], [119], .null),
  (48, .iload_n 1, 49, 1, [], [], .null),
  (49, .iaload, 50, 0, [], [], .null),
  (50, .ireturn, 51, 0, [], [], .null),
  (51, .aload_n 0, 52, 0, [], [], .null),
  (52, .getfield 15, 55, 0, [(2, 1)], [120], .null),
  (55, .iload_n 1, 56, 1, [], [], .null),
  (56, .iaload, 57, 0, [], [], .null),
  (57, .ireturn, 58, 0, [], [], .null),
  (58, .aload_n 0, 59, 0, [], [], .null),
  (59, .getfield 18, 62, 0, [(2, 2)], [121], .null),
  (62, .iload_n 1, 63, 1, [], [], .null),
  (63, .iaload, 64, 0, [], [], .null),
  (64, .ireturn, 65, 0, [], [], .null),
  (65, .aload_n 0, 66, 0, [], [], .null),
  (66, .iload_n 1, 67, 1, [], [], .null),
  (67, .invokevirtual 84, 70, 0, [(2, 21)], [503, 505, 11, 87, 0, 0, 0, 0], .retAddr 1),
  (70, .ireturn, 71, 0, [], [], .null),
  (71, .aload_n 0, 72, 0, [], [], .null),
  (72, .iload_n 1, 73, 1, [], [], .null),
  (73, .invokevirtual 88, 76, 0, [(2, 23)], [507, 509, 12, 87, 0, 0, 0, 0], .retAddr 1),
  (76, .ireturn, 77, 0, [], [], .null),
  (77, .aload_n 0, 78, 0, [], [], .null),
  (78, .iload_n 1, 79, 1, [], [], .null),
  (79, .invokevirtual 91, 82, 0, [(2, 24)], [518, 520, 14, 87, 0, 0, 0, 0], .retAddr 1),
  (82, .ireturn, 83, 0, [], [], .null)]
def MX2_aboutPanel : xM := (yX2_aboutPanel, prog_4_method_12_code, 3, (some .int), rX2_aboutPanel)
set_option maxRecDepth 100000 in
theorem oX2_aboutPanel : xokM MX2_aboutPanel = true := by decide +kernel
def rX2_weightDownTo : List xRow := [
(0, .iconst 0, 1, 0, [], [], .int 0),
  (1, .istore_n 2, 2, 2, [], [], .null),
  (2, .iconst 0, 3, 0, [], [], .int 0),
  (3, .istore_n 3, 4, 3, [], [], .null),
  (4, .iload_n 3, 5, 3, [], [], .null),
  (5, .iload_n 1, 6, 1, [], [], .null),
  (6, .if_icmp .gt 26, 9, 32, [], [], .null),
  (9, .iload_n 3, 10, 3, [], [], .null),
  (10, .aload_n 0, 11, 0, [], [], .null),
  (11, .getfield 38, 14, 0, [(2, 3)], [122], .null),
  (14, .if_icmp .ge 18, 17, 32, [], [], .null),
  (17, .iload_n 2, 18, 2, [], [], .null),
  (18, .aload_n 0, 19, 0, [], [], .null),
  (19, .getfield 18, 22, 0, [(2, 2)], [121], .null),
  (22, .iload_n 3, 23, 3, [], [], .null),
  (23, .iaload, 24, 0, [], [], .null),
  (24, .iadd, 25, 0, [], [], .null),
  (25, .istore_n 2, 26, 2, [], [], .null),
  (26, .iinc 3 1, 29, 3, [], [], .int 1),
  (29, .goto (-25), 32, 4, [], [], .null),
  (32, .iload_n 2, 33, 2, [], [], .null),
  (33, .ireturn, 34, 0, [], [], .null)]
def MX2_weightDownTo : xM := (yX2_weightDownTo, prog_4_method_13_code, 4, (some .int), rX2_weightDownTo)
set_option maxRecDepth 100000 in
theorem oX2_weightDownTo : xokM MX2_weightDownTo = true := by decide +kernel
def rX2_squareOf : List xRow := [
(0, .aload_n 0, 1, 0, [], [], .null),
  (1, .getfield 11, 4, 0, [(2, 0)], [119], .null),
  (4, .iload_n 1, 5, 1, [], [], .null),
  (5, .iaload, 6, 0, [], [], .null),
  (6, .i2l, 7, 0, [], [], .null),
  (7, .aload_n 0, 8, 0, [], [], .null),
  (8, .getfield 11, 11, 0, [(2, 0)], [119], .null),
  (11, .iload_n 1, 12, 1, [], [], .null),
  (12, .iaload, 13, 0, [], [], .null),
  (13, .i2l, 14, 0, [], [], .null),
  (14, .lmul, 15, 0, [], [], .null),
  (15, .aload_n 0, 16, 0, [], [], .null),
  (16, .getfield 15, 19, 0, [(2, 1)], [120], .null),
  (19, .iload_n 1, 20, 1, [], [], .null),
  (20, .iaload, 21, 0, [], [], .null),
  (21, .i2l, 22, 0, [], [], .null),
  (22, .aload_n 0, 23, 0, [], [], .null),
  (23, .getfield 15, 26, 0, [(2, 1)], [120], .null),
  (26, .iload_n 1, 27, 1, [], [], .null),
  (27, .iaload, 28, 0, [], [], .null),
  (28, .i2l, 29, 0, [], [], .null),
  (29, .lmul, 30, 0, [], [], .null),
  (30, .ladd, 31, 0, [], [], .null),
  (31, .lreturn, 32, 0, [], [], .null)]
def MX2_squareOf : xM := (yX2_squareOf, prog_4_method_14_code, 2, (some .long), rX2_squareOf)
set_option maxRecDepth 100000 in
theorem oX2_squareOf : xokM MX2_squareOf = true := by decide +kernel
def rX2_pushAlong : List xRow := [
(0, .aload_n 0, 1, 0, [], [], .null),
  (1, .iload_n 1, 2, 1, [], [], .null),
  (2, .invokevirtual 84, 5, 0, [(2, 21)], [503, 505, 11, 87, 0, 0, 0, 0], .retAddr 1),
  (5, .i2l, 6, 0, [], [], .null),
  (6, .lstore_n 2, 7, 2, [], [], .null),
  (7, .aload_n 0, 8, 0, [], [], .null),
  (8, .getfield 15, 11, 0, [(2, 1)], [120], .null),
  (11, .iload_n 1, 12, 1, [], [], .null),
  (12, .iaload, 13, 0, [], [], .null),
  (13, .i2l, 14, 0, [], [], .null),
  (14, .lstore 4, 16, 4, [], [], .null),
  (16, .lload 4, 18, 4, [], [], .null),
  (18, .lconst 0, 19, 0, [], [], .long 0),
  (19, .lcmp, 20, 0, [], [], .null),
  (20, .ifCond .ne 7, 23, 27, [], [], .null),
  (23, .iconst 0, 24, 0, [], [], .int 0),
  (24, .goto 22, 27, 46, [], [], .null),
  (27, .lload_n 2, 28, 2, [], [], .null),
  (28, .lload_n 2, 29, 2, [], [], .null),
  (29, .lmul, 30, 0, [], [], .null),
  (30, .aload_n 0, 31, 0, [], [], .null),
  (31, .iload_n 1, 32, 1, [], [], .null),
  (32, .invokevirtual 94, 35, 0, [(2, 22)], [511, 513, 13, 87, 0, 0, 0, 0], .retAddr 1),
  (35, .lmul, 36, 0, [], [], .null),
  (36, .lload 4, 38, 4, [], [], .null),
  (38, .lload 4, 40, 4, [], [], .null),
  (40, .lmul, 41, 0, [], [], .null),
  (41, .ldiv, 42, 0, [], [], .null),
  (42, .invokestatic 98, 45, 186, [], [515, 516, 86, 517], .retAddr 1),
  (45, .l2i, 46, 0, [], [], .null),
  (46, .ireturn, 47, 0, [], [], .null)]
def MX2_pushAlong : xM := (yX2_pushAlong, prog_4_method_15_code, 6, (some .int), rX2_pushAlong)
set_option maxRecDepth 100000 in
theorem oX2_pushAlong : xokM MX2_pushAlong = true := by decide +kernel
def rX2_lengthOf : List xRow := [
(0, .aload_n 0, 1, 0, [], [], .null),
  (1, .iload_n 1, 2, 1, [], [], .null),
  (2, .invokevirtual 94, 5, 0, [(2, 22)], [511, 513, 13, 87, 0, 0, 0, 0], .retAddr 1),
  (5, .invokestatic 98, 8, 186, [], [515, 516, 86, 517], .retAddr 1),
  (8, .l2i, 9, 0, [], [], .null),
  (9, .ireturn, 10, 0, [], [], .null)]
def MX2_lengthOf : xM := (yX2_lengthOf, prog_4_method_16_code, 2, (some .int), rX2_lengthOf)
set_option maxRecDepth 100000 in
theorem oX2_lengthOf : xokM MX2_lengthOf = true := by decide +kernel
def rX2_thrustOf : List xRow := [
(0, .aload_n 0, 1, 0, [], [], .null),
  (1, .iload_n 1, 2, 1, [], [], .null),
  (2, .invokevirtual 81, 5, 0, [(2, 11)], [502, 495, 496, 87, 0, 0, 0, 0], .retAddr 1),
  (5, .ifCond .eq 31, 8, 36, [], [], .null),
  (8, .aload_n 0, 9, 0, [], [], .null),
  (9, .iload_n 1, 10, 1, [], [], .null),
  (10, .invokevirtual 84, 13, 0, [(2, 21)], [503, 505, 11, 87, 0, 0, 0, 0], .retAddr 1),
  (13, .i2l, 14, 0, [], [], .null),
  (14, .aload_n 0, 15, 0, [], [], .null),
  (15, .getfield 11, 18, 0, [(2, 0)], [119], .null),
  (18, .iload_n 1, 19, 1, [], [], .null),
  (19, .iaload, 20, 0, [], [], .null),
  (20, .i2l, 21, 0, [], [], .null),
  (21, .lmul, 22, 0, [], [], .null),
  (22, .aload_n 0, 23, 0, [], [], .null),
  (23, .getfield 15, 26, 0, [(2, 1)], [120], .null),
  (26, .iload_n 1, 27, 1, [], [], .null),
  (27, .iaload, 28, 0, [], [], .null),
  (28, .i2l, 29, 0, [], [], .null),
  (29, .iload_n 2, 30, 2, [], [], .null),
  (30, .invokestatic 102, 33, 185, [], [534, 535, 86, 536], .retAddr 3),
  (33, .goto 6, 36, 39, [], [], .null),
  (36, .ldc2_w 106, 39, 0, [], [543], .long (-9223372036854775808)),
  (39, .lreturn, 40, 0, [], [], .null)]
def MX2_thrustOf : xM := (yX2_thrustOf, prog_4_method_17_code, 3, (some .long), rX2_thrustOf)
set_option maxRecDepth 100000 in
theorem oX2_thrustOf : xokM MX2_thrustOf = true := by decide +kernel
def rX2_pullOf_0 : List xRow := [
  (0, .aload_n 0, 1, 0, [], [], .null),
  (1, .iload_n 1, 2, 1, [], [], .null),
  (2, .iconst 1, 3, 0, [], [], .int 1),
  (3, .iadd, 4, 0, [], [], .null),
  (4, .invokevirtual 81, 7, 0, [(2, 11)], [502, 495, 496, 87, 0, 0, 0, 0], .retAddr 1),
  (7, .ifCond .ne 10, 10, 17, [], [], .null),
  (10, .aload_n 0, 11, 0, [], [], .null),
  (11, .iload_n 1, 12, 1, [], [], .null),
  (12, .iload_n 2, 13, 2, [], [], .null),
  (13, .invokevirtual 108, 16, 0, [(2, 25)], [552, 531, 532, 87, 0, 0, 0, 0], .retAddr 2),
  (16, .lreturn, 17, 0, [], [], .null),
  (17, .aload_n 0, 18, 0, [], [], .null),
  (18, .iload_n 1, 19, 1, [], [], .null),
  (19, .invokevirtual 84, 22, 0, [(2, 21)], [503, 505, 11, 87, 0, 0, 0, 0], .retAddr 1),
  (22, .i2l, 23, 0, [], [], .null),
  (23, .aload_n 0, 24, 0, [], [], .null),
  (24, .getfield 11, 27, 0, [(2, 0)], [119], .null),
  (27, .iload_n 1, 28, 1, [], [], .null),
  (28, .iaload, 29, 0, [], [], .null),
  (29, .i2l, 30, 0, [], [], .null),
  (30, .lmul, 31, 0, [], [], .null),
  (31, .aload_n 0, 32, 0, [], [], .null),
  (32, .getfield 15, 35, 0, [(2, 1)], [120], .null),
  (35, .iload_n 1, 36, 1, [], [], .null),
  (36, .iconst 1, 37, 0, [], [], .int 1),
  (37, .iadd, 38, 0, [], [], .null),
  (38, .iaload, 39, 0, [], [], .null),
  (39, .i2l, 40, 0, [], [], .null),
  (40, .lmul, 41, 0, [], [], .null),
  (41, .aload_n 0, 42, 0, [], [], .null),
  (42, .iload_n 1, 43, 1, [], [], .null),
  (43, .iconst 1, 44, 0, [], [], .int 1),
  (44, .iadd, 45, 0, [], [], .null),
  (45, .invokevirtual 84, 48, 0, [(2, 21)], [503, 505, 11, 87, 0, 0, 0, 0], .retAddr 1),
  (48, .i2l, 49, 0, [], [], .null),
  (49, .aload_n 0, 50, 0, [], [], .null),
  (50, .getfield 11, 53, 0, [(2, 0)], [119], .null),
  (53, .iload_n 1, 54, 1, [], [], .null),
  (54, .iconst 1, 55, 0, [], [], .int 1),
  (55, .iadd, 56, 0, [], [], .null)]
def rX2_pullOf_1 : List xRow := [
  (56, .iaload, 57, 0, [], [], .null),
  (57, .i2l, 58, 0, [], [], .null),
  (58, .lmul, 59, 0, [], [], .null),
  (59, .aload_n 0, 60, 0, [], [], .null),
  (60, .getfield 15, 63, 0, [(2, 1)], [120], .null),
  (63, .iload_n 1, 64, 1, [], [], .null),
  (64, .iaload, 65, 0, [], [], .null),
  (65, .i2l, 66, 0, [], [], .null),
  (66, .lmul, 67, 0, [], [], .null),
  (67, .lsub, 68, 0, [], [], .null),
  (68, .lstore_n 3, 69, 3, [], [], .null),
  (69, .lload_n 3, 70, 3, [], [], .null),
  (70, .aload_n 0, 71, 0, [], [], .null),
  (71, .getfield 15, 74, 0, [(2, 1)], [120], .null),
  (74, .iload_n 1, 75, 1, [], [], .null),
  (75, .iaload, 76, 0, [], [], .null),
  (76, .i2l, 77, 0, [], [], .null),
  (77, .aload_n 0, 78, 0, [], [], .null),
  (78, .getfield 15, 81, 0, [(2, 1)], [120], .null),
  (81, .iload_n 1, 82, 1, [], [], .null),
  (82, .iconst 1, 83, 0, [], [], .int 1),
  (83, .iadd, 84, 0, [], [], .null),
  (84, .iaload, 85, 0, [], [], .null),
  (85, .i2l, 86, 0, [], [], .null),
  (86, .lmul, 87, 0, [], [], .null),
  (87, .iload_n 2, 88, 2, [], [], .null),
  (88, .invokestatic 102, 91, 185, [], [534, 535, 86, 536], .retAddr 3),
  (91, .lreturn, 92, 0, [], [], .null)]
def rX2_pullOf : List xRow := rX2_pullOf_0 ++ (rX2_pullOf_1)
def MX2_pullOf : xM := (yX2_pullOf, prog_4_method_18_code, 5, (some .long), rX2_pullOf)
set_option maxRecDepth 100000 in
theorem oX2_pullOf_0 : rX2_pullOf_0.all (xokR yX2_pullOf.cls yX2_pullOf.name prog_4_method_18_code (some .long)) = true := by decide +kernel
set_option maxRecDepth 100000 in
theorem oX2_pullOf_1 : rX2_pullOf_1.all (xokR yX2_pullOf.cls yX2_pullOf.name prog_4_method_18_code (some .long)) = true := by decide +kernel
theorem oX2_pullOf : xokM MX2_pullOf = true := xall_app oX2_pullOf_0 (oX2_pullOf_1)
def rX2_thickness : List xRow := [
(0, .aload_n 0, 1, 0, [], [], .null),
  (1, .getfield 38, 4, 0, [(2, 3)], [122], .null),
  (4, .iconst 1, 5, 0, [], [], .int 1),
  (5, .isub, 6, 0, [], [], .null),
  (6, .istore_n 3, 7, 3, [], [], .null),
  (7, .iload_n 3, 8, 3, [], [], .null),
  (8, .ifCond .lt 15, 11, 23, [], [], .null),
  (11, .aload_n 0, 12, 0, [], [], .null),
  (12, .iload_n 3, 13, 3, [], [], .null),
  (13, .iload_n 1, 14, 1, [], [], .null),
  (14, .invokevirtual 112, 17, 0, [(2, 28)], [565, 567, 15, 87, 0, 0, 0, 0], .retAddr 2),
  (17, .iinc 3 (-1), 20, 3, [], [], .int (-1)),
  (20, .goto (-13), 23, 7, [], [], .null),
  (23, .aload_n 0, 24, 0, [], [], .null),
  (24, .iconst 0, 25, 0, [], [], .int 0),
  (25, .iconst 1, 26, 0, [], [], .int 1),
  (26, .iconst 5, 27, 0, [], [], .int 5),
  (27, .invokevirtual 116, 30, 0, [(2, 29)], [569, 571, 16, 87, 0, 0, 0, 0], .retAddr 3),
  (30, .istore_n 3, 31, 3, [], [], .null),
  (31, .iload_n 3, 32, 3, [], [], .null),
  (32, .ifCond .ne 6, 35, 38, [], [], .null),
  (35, .bipush (-9), 37, 0, [], [], .int (-9)),
  (37, .ireturn, 38, 0, [], [], .null),
  (38, .aload_n 0, 39, 0, [], [], .null),
  (39, .iload_n 2, 40, 2, [], [], .null),
  (40, .invokevirtual 81, 43, 0, [(2, 11)], [502, 495, 496, 87, 0, 0, 0, 0], .retAddr 1),
  (43, .ifCond .ne 12, 46, 55, [], [], .null),
  (46, .aload_n 0, 47, 0, [], [], .null),
  (47, .getfield 35, 50, 0, [(2, 11)], [130], .null),
  (50, .iconst 0, 51, 0, [], [], .int 0),
  (51, .aaload, 52, 0, [], [], .null),
  (52, .iload_n 3, 53, 3, [], [], .null),
  (53, .iaload, 54, 0, [], [], .null),
  (54, .ireturn, 55, 0, [], [], .null),
  (55, .iconst 1, 56, 0, [], [], .int 1),
  (56, .istore 4, 58, 4, [], [], .null),
  (58, .iload 4, 60, 4, [], [], .null),
  (60, .iload_n 2, 61, 2, [], [], .null),
  (61, .if_icmp .gt 22, 64, 83, [], [], .null),
  (64, .aload_n 0, 65, 0, [], [], .null),
  (65, .iload 4, 67, 4, [], [], .null),
  (67, .iload_n 3, 68, 3, [], [], .null),
  (68, .iconst 1, 69, 0, [], [], .int 1),
  (69, .isub, 70, 0, [], [], .null),
  (70, .iload_n 3, 71, 3, [], [], .null),
  (71, .iconst 1, 72, 0, [], [], .int 1),
  (72, .iadd, 73, 0, [], [], .null),
  (73, .invokevirtual 116, 76, 0, [(2, 29)], [569, 571, 16, 87, 0, 0, 0, 0], .retAddr 3),
  (76, .istore_n 3, 77, 3, [], [], .null),
  (77, .iinc 4 1, 80, 4, [], [], .int 1),
  (80, .goto (-22), 83, 58, [], [], .null),
  (83, .iload_n 3, 84, 3, [], [], .null),
  (84, .ireturn, 85, 0, [], [], .null)]
def MX2_thickness : xM := (yX2_thickness, prog_4_method_19_code, 5, (some .int), rX2_thickness)
set_option maxRecDepth 100000 in
theorem oX2_thickness : xokM MX2_thickness = true := by decide +kernel
def rX2_sumFrom_0 : List xRow := [
  (0, .aload_n 0, 1, 0, [], [], .null),
  (1, .iload_n 1, 2, 1, [], [], .null),
  (2, .invokevirtual 88, 5, 0, [(2, 23)], [507, 509, 12, 87, 0, 0, 0, 0], .retAddr 1),
  (5, .istore_n 3, 6, 3, [], [], .null),
  (6, .aload_n 0, 7, 0, [], [], .null),
  (7, .iload_n 1, 8, 1, [], [], .null),
  (8, .invokevirtual 91, 11, 0, [(2, 24)], [518, 520, 14, 87, 0, 0, 0, 0], .retAddr 1),
  (11, .istore 4, 13, 4, [], [], .null),
  (13, .iconst 1, 14, 0, [], [], .int 1),
  (14, .istore 5, 16, 5, [], [], .null),
  (16, .iload 5, 18, 5, [], [], .null),
  (18, .iconst 5, 19, 0, [], [], .int 5),
  (19, .if_icmp .gt 111, 22, 130, [], [], .null),
  (22, .iconst 0, 23, 0, [], [], .int 0),
  (23, .istore 6, 25, 6, [], [], .null),
  (25, .aload_n 0, 26, 0, [], [], .null),
  (26, .iload_n 1, 27, 1, [], [], .null),
  (27, .iconst 1, 28, 0, [], [], .int 1),
  (28, .iadd, 29, 0, [], [], .null),
  (29, .invokevirtual 81, 32, 0, [(2, 11)], [502, 495, 496, 87, 0, 0, 0, 0], .retAddr 1),
  (32, .ifCond .eq 43, 35, 75, [], [], .null),
  (35, .aload_n 0, 36, 0, [], [], .null),
  (36, .iload_n 1, 37, 1, [], [], .null),
  (37, .iconst 1, 38, 0, [], [], .int 1),
  (38, .iadd, 39, 0, [], [], .null),
  (39, .iload 5, 41, 5, [], [], .null),
  (41, .iconst 1, 42, 0, [], [], .int 1),
  (42, .isub, 43, 0, [], [], .null),
  (43, .iload 5, 45, 5, [], [], .null),
  (45, .iconst 1, 46, 0, [], [], .int 1),
  (46, .iadd, 47, 0, [], [], .null),
  (47, .invokevirtual 116, 50, 0, [(2, 29)], [569, 571, 16, 87, 0, 0, 0, 0], .retAddr 3),
  (50, .istore 7, 52, 7, [], [], .null),
  (52, .iload 7, 54, 7, [], [], .null),
  (54, .ifCond .ne 8, 57, 62, [], [], .null),
  (57, .ldc 120, 59, 0, [], [573], .int 1000000),
  (59, .goto 14, 62, 73, [], [], .null),
  (62, .aload_n 0, 63, 0, [], [], .null),
  (63, .getfield 35, 66, 0, [(2, 11)], [130], .null),
  (66, .iload_n 1, 67, 1, [], [], .null)]
def rX2_sumFrom_1 : List xRow := [
  (67, .iconst 1, 68, 0, [], [], .int 1),
  (68, .iadd, 69, 0, [], [], .null),
  (69, .aaload, 70, 0, [], [], .null),
  (70, .iload 7, 72, 7, [], [], .null),
  (72, .iaload, 73, 0, [], [], .null),
  (73, .istore 6, 75, 6, [], [], .null),
  (75, .iload 5, 77, 5, [], [], .null),
  (77, .iload_n 2, 78, 2, [], [], .null),
  (78, .imul, 79, 0, [], [], .null),
  (79, .iload_n 3, 80, 3, [], [], .null),
  (80, .if_icmp .lt 14, 83, 94, [], [], .null),
  (83, .iload 6, 85, 6, [], [], .null),
  (85, .ldc 120, 87, 0, [], [573], .int 1000000),
  (87, .if_icmp .ge 7, 90, 94, [], [], .null),
  (90, .iconst 1, 91, 0, [], [], .int 1),
  (91, .goto 4, 94, 95, [], [], .null),
  (94, .iconst 0, 95, 0, [], [], .int 0),
  (95, .istore 7, 97, 7, [], [], .null),
  (97, .aload_n 0, 98, 0, [], [], .null),
  (98, .getfield 35, 101, 0, [(2, 11)], [130], .null),
  (101, .iload_n 1, 102, 1, [], [], .null),
  (102, .aaload, 103, 0, [], [], .null),
  (103, .iload 5, 105, 5, [], [], .null),
  (105, .iload 7, 107, 7, [], [], .null),
  (107, .ifCond .eq 14, 110, 121, [], [], .null),
  (110, .iload 5, 112, 5, [], [], .null),
  (112, .iload 4, 114, 4, [], [], .null),
  (114, .imul, 115, 0, [], [], .null),
  (115, .iload 6, 117, 6, [], [], .null),
  (117, .iadd, 118, 0, [], [], .null),
  (118, .goto 5, 121, 123, [], [], .null),
  (121, .ldc 120, 123, 0, [], [573], .int 1000000),
  (123, .iastore, 124, 0, [], [], .null),
  (124, .iinc 5 1, 127, 5, [], [], .int 1),
  (127, .goto (-111), 130, 16, [], [], .null),
  (130, .return_, 131, 0, [], [], .null)]
def rX2_sumFrom : List xRow := rX2_sumFrom_0 ++ (rX2_sumFrom_1)
def MX2_sumFrom : xM := (yX2_sumFrom, prog_4_method_20_code, 8, none, rX2_sumFrom)
set_option maxRecDepth 100000 in
theorem oX2_sumFrom_0 : rX2_sumFrom_0.all (xokR yX2_sumFrom.cls yX2_sumFrom.name prog_4_method_20_code none) = true := by decide +kernel
set_option maxRecDepth 100000 in
theorem oX2_sumFrom_1 : rX2_sumFrom_1.all (xokR yX2_sumFrom.cls yX2_sumFrom.name prog_4_method_20_code none) = true := by decide +kernel
theorem oX2_sumFrom : xokM MX2_sumFrom = true := xall_app oX2_sumFrom_0 (oX2_sumFrom_1)
def rX2_bestThickness : List xRow := [
(0, .iconst 0, 1, 0, [], [], .int 0),
  (1, .istore 4, 3, 4, [], [], .null),
  (3, .ldc 120, 5, 0, [], [573], .int 1000000),
  (5, .istore 5, 7, 5, [], [], .null),
  (7, .iconst 1, 8, 0, [], [], .int 1),
  (8, .iload_n 2, 9, 2, [], [], .null),
  (9, .invokestatic 48, 12, 286, [], [465, 173, 89, 174], .retAddr 2),
  (12, .istore 6, 14, 6, [], [], .null),
  (14, .iload 6, 16, 6, [], [], .null),
  (16, .iconst 5, 17, 0, [], [], .int 5),
  (17, .iload_n 3, 18, 3, [], [], .null),
  (18, .invokestatic 42, 21, 287, [], [464, 170, 89, 171], .retAddr 2),
  (21, .if_icmp .gt 38, 24, 59, [], [], .null),
  (24, .aload_n 0, 25, 0, [], [], .null),
  (25, .getfield 35, 28, 0, [(2, 11)], [130], .null),
  (28, .iload_n 1, 29, 1, [], [], .null),
  (29, .aaload, 30, 0, [], [], .null),
  (30, .iload 6, 32, 6, [], [], .null),
  (32, .iaload, 33, 0, [], [], .null),
  (33, .iload 5, 35, 5, [], [], .null),
  (35, .if_icmp .ge 18, 38, 53, [], [], .null),
  (38, .aload_n 0, 39, 0, [], [], .null),
  (39, .getfield 35, 42, 0, [(2, 11)], [130], .null),
  (42, .iload_n 1, 43, 1, [], [], .null),
  (43, .aaload, 44, 0, [], [], .null),
  (44, .iload 6, 46, 6, [], [], .null),
  (46, .iaload, 47, 0, [], [], .null),
  (47, .istore 5, 49, 5, [], [], .null),
  (49, .iload 6, 51, 6, [], [], .null),
  (51, .istore 4, 53, 4, [], [], .null),
  (53, .iinc 6 1, 56, 6, [], [], .int 1),
  (56, .goto (-42), 59, 14, [], [], .null),
  (59, .iload 4, 61, 4, [], [], .null),
  (61, .ireturn, 62, 0, [], [], .null)]
def MX2_bestThickness : xM := (yX2_bestThickness, prog_4_method_21_code, 7, (some .int), rX2_bestThickness)
set_option maxRecDepth 100000 in
theorem oX2_bestThickness : xokM MX2_bestThickness = true := by decide +kernel
def rX3_init : List xRow := [
(0, .aload_n 0, 1, 0, [], [], .null),
  (1, .iload_n 1, 2, 1, [], [], .null),
  (2, .iload_n 2, 3, 2, [], [], .null),
  (3, .iload_n 3, 4, 3, [], [], .null),
  (4, .iload 4, 6, 4, [], [], .null),
  (6, .invokespecial 1, 9, 0, [], [690, 691, 100, 692], .retAddr 4),
  (9, .return_, 10, 0, [], [], .null)]
def MX3_init : xM := (yX3_init, prog_5_method_1_code, 5, none, rX3_init)
set_option maxRecDepth 100000 in
theorem oX3_init : xokM MX3_init = true := by decide +kernel
def rX3_kindNumber : List xRow := [
(0, .iconst 1, 1, 0, [], [], .int 1),
  (1, .ireturn, 2, 0, [], [], .null)]
def MX3_kindNumber : xM := (yX3_kindNumber, prog_5_method_2_code, 1, (some .int), rX3_kindNumber)
set_option maxRecDepth 100000 in
theorem oX3_kindNumber : xokM MX3_kindNumber = true := by decide +kernel
def rX3_telling : List xRow := [
(0, .aload_n 1, 1, 1, [], [], .null),
  (1, .iconst 2, 2, 0, [], [], .int 2),
  (2, .invokevirtual 7, 5, 0, [(10, 141)], [1138, 1132, 1133, 93, 0, 0, 0, 0], .retAddr 1),
  (5, .aload_n 0, 6, 0, [], [], .null),
  (6, .aload_n 1, 7, 1, [], [], .null),
  (7, .invokevirtual 13, 10, 0, [(3, 3), (1, 3)], [1139, 1144, 1143, 100, 1140, 1144, 1145, 0, 1144, 1142, 100, 1140, 1144, 1145, 0], .retAddr 1),
  (10, .aload_n 0, 11, 0, [], [], .null),
  (11, .getfield 19, 14, 0, [(3, 4), (1, 4)], [705, 706], .null),
  (14, .ifCond .eq 9, 17, 23, [], [], .null),
  (17, .sipush 1000, 20, 0, [], [], .int 1000),
  (20, .goto 4, 23, 24, [], [], .null),
  (23, .iconst 0, 24, 0, [], [], .int 0),
  (24, .iadd, 25, 0, [], [], .null),
  (25, .ireturn, 26, 0, [], [], .null)]
def MX3_telling : xM := (yX3_telling, prog_5_method_3_code, 2, (some .int), rX3_telling)
set_option maxRecDepth 100000 in
theorem oX3_telling : xokM MX3_telling = true := by decide +kernel
def rX10_init : List xRow := [
(0, .aload_n 0, 1, 0, [], [], .null),
  (1, .invokespecial 1, 4, 0, [], [241, 109, 110], .null),
  (4, .return_, 5, 0, [], [], .null)]
def MX10_init : xM := (yX10_init, prog_12_method_1_code, 1, none, rX10_init)
set_option maxRecDepth 100000 in
theorem oX10_init : xokM MX10_init = true := by decide +kernel
def rX10_leave : List xRow := [
(0, .aload_n 0, 1, 0, [], [], .null),
  (1, .bipush 31, 3, 0, [], [], .int 31),
  (3, .aload_n 0, 4, 0, [], [], .null),
  (4, .getfield 7, 7, 0, [(10, 0)], [242], .null),
  (7, .imul, 8, 0, [], [], .null),
  (8, .iload_n 1, 9, 1, [], [], .null),
  (9, .iadd, 10, 0, [], [], .null),
  (10, .putfield 7, 13, 0, [(10, 0)], [242], .null),
  (13, .return_, 14, 0, [], [], .null)]
def MX10_leave : xM := (yX10_leave, prog_12_method_2_code, 2, none, rX10_leave)
set_option maxRecDepth 100000 in
theorem oX10_leave : xokM MX10_leave = true := by decide +kernel
def rJ6_bitCount_0f7a4 : List xRow := [
(0, .iload_n 0, 1, 0, [], [], .null),
  (1, .iload_n 0, 2, 0, [], [], .null),
  (2, .iconst 1, 3, 0, [], [], .int 1),
  (3, .iushr, 4, 0, [], [], .null),
  (4, .ldc_w 265, 7, 0, [], [200], .int 1431655765),
  (7, .iand, 8, 0, [], [], .null),
  (8, .isub, 9, 0, [], [], .null),
  (9, .istore_n 0, 10, 0, [], [], .null),
  (10, .iload_n 0, 11, 0, [], [], .null),
  (11, .ldc_w 266, 14, 0, [], [201], .int 858993459),
  (14, .iand, 15, 0, [], [], .null),
  (15, .iload_n 0, 16, 0, [], [], .null),
  (16, .iconst 2, 17, 0, [], [], .int 2),
  (17, .iushr, 18, 0, [], [], .null),
  (18, .ldc_w 266, 21, 0, [], [201], .int 858993459),
  (21, .iand, 22, 0, [], [], .null),
  (22, .iadd, 23, 0, [], [], .null),
  (23, .istore_n 0, 24, 0, [], [], .null),
  (24, .iload_n 0, 25, 0, [], [], .null),
  (25, .iload_n 0, 26, 0, [], [], .null),
  (26, .iconst 4, 27, 0, [], [], .int 4),
  (27, .iushr, 28, 0, [], [], .null),
  (28, .iadd, 29, 0, [], [], .null),
  (29, .ldc_w 267, 32, 0, [], [202], .int 252645135),
  (32, .iand, 33, 0, [], [], .null),
  (33, .istore_n 0, 34, 0, [], [], .null),
  (34, .iload_n 0, 35, 0, [], [], .null),
  (35, .iload_n 0, 36, 0, [], [], .null),
  (36, .bipush 8, 38, 0, [], [], .int 8),
  (38, .iushr, 39, 0, [], [], .null),
  (39, .iadd, 40, 0, [], [], .null),
  (40, .istore_n 0, 41, 0, [], [], .null),
  (41, .iload_n 0, 42, 0, [], [], .null),
  (42, .iload_n 0, 43, 0, [], [], .null),
  (43, .bipush 16, 45, 0, [], [], .int 16),
  (45, .iushr, 46, 0, [], [], .null),
  (46, .iadd, 47, 0, [], [], .null),
  (47, .istore_n 0, 48, 0, [], [], .null),
  (48, .iload_n 0, 49, 0, [], [], .null),
  (49, .bipush 63, 51, 0, [], [], .int 63),
  (51, .iand, 52, 0, [], [], .null),
  (52, .ireturn, 53, 0, [], [], .null)]
def MJ6_bitCount_0f7a4 : xM := (yJ6_bitCount_0f7a4, prog_15_method_49_code, 1, (some .int), rJ6_bitCount_0f7a4)
set_option maxRecDepth 100000 in
theorem oJ6_bitCount_0f7a4 : xokM MJ6_bitCount_0f7a4 = true := by decide +kernel
def rJ13_compare_74951 : List xRow := [
(0, .lload_n 0, 1, 0, [], [], .null),
  (1, .lload_n 2, 2, 2, [], [], .null),
  (2, .lcmp, 3, 0, [], [], .null),
  (3, .ifCond .ge 7, 6, 10, [], [], .null),
  (6, .iconst (-1), 7, 0, [], [], .int (-1)),
  (7, .goto 14, 10, 21, [], [], .null),
  (10, .lload_n 0, 11, 0, [], [], .null),
  (11, .lload_n 2, 12, 2, [], [], .null),
  (12, .lcmp, 13, 0, [], [], .null),
  (13, .ifCond .ne 7, 16, 20, [], [], .null),
  (16, .iconst 0, 17, 0, [], [], .int 0),
  (17, .goto 4, 20, 21, [], [], .null),
  (20, .iconst 1, 21, 0, [], [], .int 1),
  (21, .ireturn, 22, 0, [], [], .null)]
def MJ13_compare_74951 : xM := (yJ13_compare_74951, prog_16_method_42_code, 4, (some .int), rJ13_compare_74951)
set_option maxRecDepth 100000 in
theorem oJ13_compare_74951 : xokM MJ13_compare_74951 = true := by decide +kernel
def rJ9_abs_067f4 : List xRow := [
(0, .lload_n 0, 1, 0, [], [], .null),
  (1, .lconst 0, 2, 0, [], [], .long 0),
  (2, .lcmp, 3, 0, [], [], .null),
  (3, .ifCond .ge 8, 6, 11, [], [], .null),
  (6, .lload_n 0, 7, 0, [], [], .null),
  (7, .lneg, 8, 0, [], [], .null),
  (8, .goto 4, 11, 12, [], [], .null),
  (11, .lload_n 0, 12, 0, [], [], .null),
  (12, .lreturn, 13, 0, [], [], .null)]
def MJ9_abs_067f4 : xM := (yJ9_abs_067f4, prog_17_method_61_code, 2, (some .long), rJ9_abs_067f4)
set_option maxRecDepth 100000 in
theorem oJ9_abs_067f4 : xokM MJ9_abs_067f4 = true := by decide +kernel
def rJ9_max_7cf53 : List xRow := [
(0, .iload_n 0, 1, 0, [], [], .null),
  (1, .iload_n 1, 2, 1, [], [], .null),
  (2, .if_icmp .lt 7, 5, 9, [], [], .null),
  (5, .iload_n 0, 6, 0, [], [], .null),
  (6, .goto 4, 9, 10, [], [], .null),
  (9, .iload_n 1, 10, 1, [], [], .null),
  (10, .ireturn, 11, 0, [], [], .null)]
def MJ9_max_7cf53 : xM := (yJ9_max_7cf53, prog_17_method_65_code, 2, (some .int), rJ9_max_7cf53)
set_option maxRecDepth 100000 in
theorem oJ9_max_7cf53 : xokM MJ9_max_7cf53 = true := by decide +kernel
def rJ9_min_7cf53 : List xRow := [
(0, .iload_n 0, 1, 0, [], [], .null),
  (1, .iload_n 1, 2, 1, [], [], .null),
  (2, .if_icmp .gt 7, 5, 9, [], [], .null),
  (5, .iload_n 0, 6, 0, [], [], .null),
  (6, .goto 4, 9, 10, [], [], .null),
  (9, .iload_n 1, 10, 1, [], [], .null),
  (10, .ireturn, 11, 0, [], [], .null)]
def MJ9_min_7cf53 : xM := (yJ9_min_7cf53, prog_17_method_69_code, 2, (some .int), rJ9_min_7cf53)
set_option maxRecDepth 100000 in
theorem oJ9_min_7cf53 : xokM MJ9_min_7cf53 = true := by decide +kernel
def rJ7_fill_d0a16 : List xRow := [
(0, .iconst 0, 1, 0, [], [], .int 0),
  (1, .istore_n 3, 2, 3, [], [], .null),
  (2, .aload_n 0, 3, 0, [], [], .null),
  (3, .arraylength, 4, 0, [], [], .null),
  (4, .istore 4, 6, 4, [], [], .null),
  (6, .iload_n 3, 7, 3, [], [], .null),
  (7, .iload 4, 9, 4, [], [], .null),
  (9, .if_icmp .ge 13, 12, 22, [], [], .null),
  (12, .aload_n 0, 13, 0, [], [], .null),
  (13, .iload_n 3, 14, 3, [], [], .null),
  (14, .lload_n 1, 15, 1, [], [], .null),
  (15, .lastore, 16, 0, [], [], .null),
  (16, .iinc 3 1, 19, 3, [], [], .int 1),
  (19, .goto (-13), 22, 6, [], [], .null),
  (22, .return_, 23, 0, [], [], .null)]
def MJ7_fill_d0a16 : xM := (yJ7_fill_d0a16, prog_18_method_101_code, 5, none, rJ7_fill_d0a16)
set_option maxRecDepth 100000 in
theorem oJ7_fill_d0a16 : xokM MJ7_fill_d0a16 = true := by decide +kernel
def rJ7_fill_53178 : List xRow := [
(0, .iconst 0, 1, 0, [], [], .int 0),
  (1, .istore_n 2, 2, 2, [], [], .null),
  (2, .aload_n 0, 3, 0, [], [], .null),
  (3, .arraylength, 4, 0, [], [], .null),
  (4, .istore_n 3, 5, 3, [], [], .null),
  (5, .iload_n 2, 6, 2, [], [], .null),
  (6, .iload_n 3, 7, 3, [], [], .null),
  (7, .if_icmp .ge 13, 10, 20, [], [], .null),
  (10, .aload_n 0, 11, 0, [], [], .null),
  (11, .iload_n 2, 12, 2, [], [], .null),
  (12, .iload_n 1, 13, 1, [], [], .null),
  (13, .iastore, 14, 0, [], [], .null),
  (14, .iinc 2 1, 17, 2, [], [], .int 1),
  (17, .goto (-12), 20, 5, [], [], .null),
  (20, .return_, 21, 0, [], [], .null)]
def MJ7_fill_53178 : xM := (yJ7_fill_53178, prog_18_method_103_code, 4, none, rJ7_fill_53178)
set_option maxRecDepth 100000 in
theorem oJ7_fill_53178 : xokM MJ7_fill_53178 = true := by decide +kernel
