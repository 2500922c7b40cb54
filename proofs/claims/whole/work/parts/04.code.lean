/-- MoleSecrets$Carrier.<init>()V -/
def am_b0 : Nat → List En := fun L => match L with
  | 0 => [(0, .aload 0, [], .null, []), (1, .invokespecial 1, [21, 1], .null, []), (4, .return_, [], .null, [])]
  | _ => []
/-- MoleSecrets$Carrier.word()Ljava/lang/String; -/
def am_b1 : Nat → List En := fun L => match L with
  | 0 => [(0, .aconst_null, [], .ref 1002, []), (2, .areturn, [], .null, [])]
  | _ => []
/-- MoleSecrets$Carrier.steps(IZ)I -/
def am_b2 : Nat → List En := fun L => match L with
  | 0 => [(0, .aload 0, [], .null, []), (1, .iload 1, [], .null, []), (2, .iload 2, [], .null, []), (3, .invokespecial 9, [23, 3], .null, []), (6, .iload 2, [], .null, []), (7, .ifCond .eq 7, [14], .null, []), (10, .aconst_null, [], .int 1, []), (11, .goto 4, [15], .null, [])]
  | 14 => [(14, .aconst_null, [], .int 0, []), (15, .nop, [15], .null, [])]
  | 15 => [(15, .iadd, [], .null, []), (16, .ireturn, [0], .null, [])]
  | _ => []
/-- MoleSecrets$Carrier.payForSecret()I -/
def am_b3 : Nat → List En := fun L => match L with
  | 0 => [(0, .aconst_null, [], .int 15, []), (2, .ireturn, [0], .null, [])]
  | _ => []
/-- MoleSecrets$Digger.<init>()V -/
def am_b4 : Nat → List En := fun L => match L with
  | 0 => [(0, .aload 0, [], .null, []), (1, .invokespecial 1, [21, 1], .null, []), (4, .return_, [], .null, [])]
  | _ => []
/-- MoleSecrets$Digger.word()Ljava/lang/String; -/
def am_b5 : Nat → List En := fun L => match L with
  | 0 => [(0, .aconst_null, [], .ref 1001, []), (2, .areturn, [], .null, [])]
  | _ => []
/-- MoleSecrets$Digger.diggingWay()I -/
def am_b6 : Nat → List En := fun L => match L with
  | 0 => [(0, .aconst_null, [], .int 1, []), (1, .ireturn, [0], .null, [])]
  | _ => []
/-- MoleSecrets$Digger.turnsFirst(I)Z -/
def am_b7 : Nat → List En := fun L => match L with
  | 0 => [(0, .aconst_null, [], .int 1, []), (1, .ireturn, [1], .null, [])]
  | _ => []
/-- MoleSecrets$Digger.payForCell()I -/
def am_b8 : Nat → List En := fun L => match L with
  | 0 => [(0, .aconst_null, [], .int 1, []), (1, .ireturn, [0], .null, [])]
  | _ => []
/-- MoleSecrets$Findings.<init>()V -/
def am_b9 : Nat → List En := fun L => match L with
  | 0 => [(0, .aload 0, [], .null, []), (1, .monitorexit, [3], .null, []), (4, .aload 0, [], .null, []), (5, .aconst_null, [], .int 7, []), (7, .newarray .int, [], .null, []), (9, .putfield 9, [2, 0, 2], .null, []), (12, .return_, [], .null, [])]
  | _ => []
/-- MoleSecrets$Findings.found(I)I -/
def am_b10 : Nat → List En := fun L => match L with
  | 0 => [(0, .aconst_null, [], .int (-1000000001), []), (2, .iload 1, [], .null, []), (3, .isub, [], .null, []), (4, .istore 2, [], .null, []), (5, .iload 2, [], .null, []), (6, .ifCond .lt 19, [25], .null, []), (9, .iload 2, [], .null, []), (10, .aconst_null, [], .int 7, []), (12, .if_icmp .ge 13, [25], .null, []), (15, .aload 0, [], .null, []), (16, .getfield 9, [2, 0], .null, []), (19, .iload 2, [], .null, []), (20, .dup2, [], .null, []), (21, .iaload, [], .null, []), (22, .aconst_null, [], .int 1, []), (23, .iadd, [], .null, []), (24, .iastore, [], .null, []), (25, .nop, [25], .null, [])]
  | 25 => [(25, .iload 1, [], .null, []), (26, .ireturn, [0], .null, [])]
  | _ => []
/-- MoleSecrets$Findings.all()I -/
def am_b11 : Nat → List En := fun L => match L with
  | 0 => [(0, .aconst_null, [], .int 0, []), (1, .istore 1, [], .null, []), (2, .aconst_null, [], .int 0, []), (3, .istore 2, [], .null, []), (4, .nop, [4], .null, [])]
  | 4 => [(4, .iload 2, [], .null, []), (5, .aconst_null, [], .int 7, []), (7, .if_icmp .ge 18, [25], .null, []), (10, .iload 1, [], .null, []), (11, .aload 0, [], .null, []), (12, .getfield 9, [2, 0], .null, []), (15, .iload 2, [], .null, []), (16, .iaload, [], .null, []), (17, .iadd, [], .null, []), (18, .istore 1, [], .null, []), (19, .iinc 2 1, [], .int 1, []), (22, .goto (-18), [4], .null, [])]
  | 25 => [(25, .iload 1, [], .null, []), (26, .ireturn, [0], .null, [])]
  | _ => []
/-- MoleSecrets$Hurrier.<init>()V -/
def am_b12 : Nat → List En := fun L => match L with
  | 0 => [(0, .aload 0, [], .null, []), (1, .invokespecial 1, [0, 1], .null, []), (4, .return_, [], .null, [])]
  | _ => []
/-- MoleSecrets$Hurrier.word()Ljava/lang/String; -/
def am_b13 : Nat → List En := fun L => match L with
  | 0 => [(0, .aconst_null, [], .ref 1005, []), (2, .areturn, [], .null, [])]
  | _ => []
/-- MoleSecrets$Hurrier.steps(IZ)I -/
def am_b14 : Nat → List En := fun L => match L with
  | 0 => [(0, .aload 0, [], .null, []), (1, .iload 1, [], .null, []), (2, .iload 2, [], .null, []), (3, .invokespecial 9, [2, 3], .null, []), (6, .aconst_null, [], .int 1, []), (7, .iadd, [], .null, []), (8, .ireturn, [0], .null, [])]
  | _ => []
/-- MoleSecrets$Hurrier.payForSecret()I -/
def am_b15 : Nat → List En := fun L => match L with
  | 0 => [(0, .aconst_null, [], .int 2, []), (1, .aload 0, [], .null, []), (2, .invokespecial 13, [3, 1], .null, []), (5, .imul, [], .null, []), (6, .ireturn, [0], .null, [])]
  | _ => []
/-- MoleSecrets$Master.<init>()V -/
def am_b16 : Nat → List En := fun L => match L with
  | 0 => [(0, .aload 0, [], .null, []), (1, .invokespecial 1, [4, 1], .null, []), (4, .return_, [], .null, [])]
  | _ => []
/-- MoleSecrets$Master.word()Ljava/lang/String; -/
def am_b17 : Nat → List En := fun L => match L with
  | 0 => [(0, .aconst_null, [], .ref 1004, []), (2, .areturn, [], .null, [])]
  | _ => []
/-- MoleSecrets$Master.steps(IZ)I -/
def am_b18 : Nat → List En := fun L => match L with
  | 0 => [(0, .aload 0, [], .null, []), (1, .iload 1, [], .null, []), (2, .iload 2, [], .null, []), (3, .invokespecial 9, [23, 3], .null, []), (6, .aconst_null, [], .int 1, []), (7, .iadd, [], .null, []), (8, .ireturn, [0], .null, [])]
  | _ => []
/-- MoleSecrets$Master.turnsFirst(I)Z -/
def am_b19 : Nat → List En := fun L => match L with
  | 0 => [(0, .iload 1, [], .null, []), (1, .aconst_null, [], .int 2, []), (2, .irem, [], .null, []), (3, .ifCond .ne 15, [18], .null, []), (6, .aload 0, [], .null, []), (7, .iload 1, [], .null, []), (8, .invokespecial 13, [7, 2], .null, []), (11, .ifCond .eq 7, [18], .null, []), (14, .aconst_null, [], .int 1, []), (15, .goto 4, [19], .null, [])]
  | 18 => [(18, .aconst_null, [], .int 0, []), (19, .nop, [19], .null, [])]
  | 19 => [(19, .ireturn, [1], .null, [])]
  | _ => []
/-- MoleSecrets$Master.payForSecret()I -/
def am_b20 : Nat → List En := fun L => match L with
  | 0 => [(0, .aload 0, [], .null, []), (1, .invokespecial 17, [27, 1], .null, []), (4, .aconst_null, [], .int 4, []), (5, .iadd, [], .null, []), (6, .ireturn, [0], .null, [])]
  | _ => []
/-- MoleSecrets$Mole.<init>()V -/
def am_b21 : Nat → List En := fun L => match L with
  | 0 => [(0, .aload 0, [], .null, []), (1, .monitorexit, [1], .null, []), (4, .return_, [], .null, [])]
  | _ => []
/-- MoleSecrets$Mole.word()Ljava/lang/String; -/
def am_b22 : Nat → List En := fun L => match L with
  | 0 => [(0, .aconst_null, [], .ref 1000, []), (2, .areturn, [], .null, [])]
  | _ => []
/-- MoleSecrets$Mole.steps(IZ)I -/
def am_b23 : Nat → List En := fun L => match L with
  | 0 => [(0, .aconst_null, [], .int 1, []), (1, .ireturn, [0], .null, [])]
  | _ => []
/-- MoleSecrets$Mole.diggingWay()I -/
def am_b24 : Nat → List En := fun L => match L with
  | 0 => [(0, .aconst_null, [], .int 0, []), (1, .ireturn, [0], .null, [])]
  | _ => []
/-- MoleSecrets$Mole.turnsFirst(I)Z -/
def am_b25 : Nat → List En := fun L => match L with
  | 0 => [(0, .aconst_null, [], .int 0, []), (1, .ireturn, [1], .null, [])]
  | _ => []
/-- MoleSecrets$Mole.payForCell()I -/
def am_b26 : Nat → List En := fun L => match L with
  | 0 => [(0, .aconst_null, [], .int 2, []), (1, .ireturn, [0], .null, [])]
  | _ => []
/-- MoleSecrets$Mole.payForSecret()I -/
def am_b27 : Nat → List En := fun L => match L with
  | 0 => [(0, .aconst_null, [], .int 10, []), (2, .ireturn, [0], .null, [])]
  | _ => []
/-- MoleSecrets$Retired.<init>()V -/
def am_b28 : Nat → List En := fun L => match L with
  | 0 => [(0, .aload 0, [], .null, []), (1, .invokespecial 1, [21, 1], .null, []), (4, .return_, [], .null, [])]
  | _ => []
/-- MoleSecrets$Retired.word()Ljava/lang/String; -/
def am_b29 : Nat → List En := fun L => match L with
  | 0 => [(0, .aconst_null, [], .ref 1003, []), (2, .areturn, [], .null, [])]
  | _ => []
/-- MoleSecrets$Retired.steps(IZ)I -/
def am_b30 : Nat → List En := fun L => match L with
  | 0 => [(0, .iload 1, [], .null, []), (1, .aconst_null, [], .int 3, []), (2, .irem, [], .null, []), (3, .ifCond .ne 7, [10], .null, []), (6, .aconst_null, [], .int 1, []), (7, .goto 4, [11], .null, [])]
  | 10 => [(10, .aconst_null, [], .int 0, []), (11, .nop, [11], .null, [])]
  | 11 => [(11, .ireturn, [0], .null, [])]
  | _ => []
/-- MoleSecrets$Retired.diggingWay()I -/
def am_b31 : Nat → List En := fun L => match L with
  | 0 => [(0, .aconst_null, [], .int (-1), []), (1, .ireturn, [0], .null, [])]
  | _ => []
/-- MoleSecrets$Retired.turnsFirst(I)Z -/
def am_b32 : Nat → List En := fun L => match L with
  | 0 => [(0, .aconst_null, [], .int 1, []), (1, .ireturn, [1], .null, [])]
  | _ => []
/-- MoleSecrets$Retired.payForCell()I -/
def am_b33 : Nat → List En := fun L => match L with
  | 0 => [(0, .aconst_null, [], .int 0, []), (1, .ireturn, [0], .null, [])]
  | _ => []
/-- MoleSecrets$Retired.payForSecret()I -/
def am_b34 : Nat → List En := fun L => match L with
  | 0 => [(0, .aconst_null, [], .int 0, []), (1, .ireturn, [0], .null, [])]
  | _ => []
/-- MoleSecrets$Sheet.<init>()V -/
def am_b35 : Nat → List En := fun L => match L with
  | 0 => [(0, .aload 0, [], .null, []), (1, .monitorexit, [3], .null, []), (4, .aload 0, [], .null, []), (5, .aconst_null, [], .int 40, []), (7, .newarray .long, [], .null, []), (9, .putfield 9, [7, 2, 2], .null, []), (12, .return_, [], .null, [])]
  | _ => []
/-- MoleSecrets$Sheet.isMissing()Z -/
def am_b36 : Nat → List En := fun L => match L with
  | 0 => [(0, .aload 0, [], .null, []), (1, .getfield 15, [7, 0], .null, []), (4, .ifCond .ne 7, [11], .null, []), (7, .aconst_null, [], .int 1, []), (8, .goto 4, [12], .null, [])]
  | 11 => [(11, .aconst_null, [], .int 0, []), (12, .nop, [12], .null, [])]
  | 12 => [(12, .ireturn, [1], .null, [])]
  | _ => []
/-- MoleSecrets$Sheet.renew(II)I -/
def am_b37 : Nat → List En := fun L => match L with
  | 0 => [(0, .aload 0, [], .null, []), (1, .iload 1, [], .null, []), (2, .putfield 15, [7, 0, 0], .null, []), (5, .aload 0, [], .null, []), (6, .iload 2, [], .null, []), (7, .putfield 19, [7, 1, 0], .null, []), (10, .aload 0, [], .null, []), (11, .getfield 9, [7, 2], .null, []), (14, .aconst_null, [], .long 0, []), (15, .invokestatic 22, [232, 2], .null, []), (18, .aload 0, [], .null, []), (19, .getfield 19, [7, 1], .null, []), (22, .ireturn, [0], .null, [])]
  | _ => []
/-- MoleSecrets$Sheet.has(II)Z -/
def am_b38 : Nat → List En := fun L => match L with
  | 0 => [(0, .iload 1, [], .null, []), (1, .ifCond .lt 29, [30], .null, []), (4, .iload 2, [], .null, []), (5, .ifCond .lt 25, [30], .null, []), (8, .iload 2, [], .null, []), (9, .aload 0, [], .null, []), (10, .getfield 19, [7, 1], .null, []), (13, .if_icmp .gt 17, [30], .null, []), (16, .iload 1, [], .null, []), (17, .aload 0, [], .null, []), (18, .getfield 19, [7, 1], .null, []), (21, .iload 2, [], .null, []), (22, .isub, [], .null, []), (23, .if_icmp .gt 7, [30], .null, []), (26, .aconst_null, [], .int 1, []), (27, .goto 4, [31], .null, [])]
  | 30 => [(30, .aconst_null, [], .int 0, []), (31, .nop, [31], .null, [])]
  | 31 => [(31, .ireturn, [1], .null, [])]
  | _ => []
/-- MoleSecrets$Sheet.put(IJ)V -/
def am_b39 : Nat → List En := fun L => match L with
  | 0 => [(0, .aload 0, [], .null, []), (1, .getfield 15, [7, 0], .null, []), (4, .lookupswitch 54 #[(8, 28), (16, 41)], [58], .null, [(8, 32), (16, 45)])]
  | 32 => [(32, .aload 0, [], .null, []), (33, .getfield 9, [7, 2], .null, []), (36, .iload 1, [], .null, []), (37, .lload 2, [], .null, []), (38, .l2i, [], .null, []), (39, .i2b, [], .null, []), (40, .i2l, [], .null, []), (41, .lastore, [], .null, []), (42, .goto 23, [65], .null, [])]
  | 45 => [(45, .aload 0, [], .null, []), (46, .getfield 9, [7, 2], .null, []), (49, .iload 1, [], .null, []), (50, .lload 2, [], .null, []), (51, .l2i, [], .null, []), (52, .i2s, [], .null, []), (53, .i2l, [], .null, []), (54, .lastore, [], .null, []), (55, .goto 10, [65], .null, [])]
  | 58 => [(58, .aload 0, [], .null, []), (59, .getfield 9, [7, 2], .null, []), (62, .iload 1, [], .null, []), (63, .lload 2, [], .null, []), (64, .lastore, [], .null, []), (65, .nop, [65], .null, [])]
  | 65 => [(65, .return_, [], .null, [])]
  | _ => []
/-- MoleSecrets$Shire.<init>([LMoleSecrets$Mole;)V -/
def am_b40 : Nat → List En := fun L => match L with
  | 0 => [(0, .aload 0, [], .null, []), (1, .monitorexit, [3], .null, []), (4, .aload 0, [], .null, []), (5, .aload 1, [], .null, []), (6, .putfield 9, [8, 0, 2], .null, []), (9, .aload 0, [], .null, []), (10, .aconst_null, [], .int 30, []), (12, .newarray .int, [], .null, []), (14, .putfield 15, [8, 4, 2], .null, []), (17, .aload 0, [], .null, []), (18, .aconst_null, [], .int 6, []), (20, .newarray .int, [], .null, []), (22, .putfield 19, [8, 5, 2], .null, []), (25, .aload 0, [], .null, []), (26, .getfield 19, [8, 5], .null, []), (29, .aconst_null, [], .int (-1), []), (30, .invokestatic 22, [233, 2], .null, []), (33, .aload 0, [], .null, []), (34, .aconst_null, [], .int 6, []), (36, .newarray .int, [], .null, []), (38, .putfield 28, [8, 6, 2], .null, []), (41, .aload 0, [], .null, []), (42, .aconst_null, [], .int 6, []), (44, .newarray .int, [], .null, []), (46, .putfield 31, [8, 7, 2], .null, []), (49, .aload 0, [], .null, []), (50, .aconst_null, [], .int 6, []), (52, .newarray .int, [], .null, []), (54, .putfield 34, [8, 8, 2], .null, []), (57, .aload 0, [], .null, []), (58, .aconst_null, [], .int 6, []), (60, .newarray .int, [], .null, []), (62, .putfield 37, [8, 9, 2], .null, []), (65, .aload 0, [], .null, []), (66, .aconst_null, [], .int 6, []), (68, .newarray .int, [], .null, []), (70, .putfield 40, [8, 10, 2], .null, []), (73, .aload 0, [], .null, []), (74, .aconst_null, [], .int 6, []), (76, .newarray .int, [], .null, []), (78, .putfield 43, [8, 11, 2], .null, []), (81, .aload 0, [], .null, []), (82, .aconst_null, [], .int 6, []), (84, .newarray .int, [], .null, []), (86, .putfield 46, [8, 12, 2], .null, []), (89, .return_, [], .null, [])]
  | _ => []
/-- MoleSecrets$Shire.become(LMoleSecrets$Shire;)V -/
def am_b41 : Nat → List En := fun L => match L with
  | 0 => [(0, .aload 0, [], .null, []), (1, .aload 1, [], .null, []), (2, .getfield 49, [8, 1], .null, []), (5, .putfield 49, [8, 1, 0], .null, []), (8, .aload 0, [], .null, []), (9, .aload 1, [], .null, []), (10, .getfield 53, [8, 2], .null, []), (13, .putfield 53, [8, 2, 0], .null, []), (16, .aload 0, [], .null, []), (17, .aload 1, [], .null, []), (18, .getfield 56, [8, 3], .null, []), (21, .putfield 56, [8, 3, 0], .null, []), (24, .aload 1, [], .null, []), (25, .getfield 15, [8, 4], .null, []), (28, .aconst_null, [], .int 0, []), (29, .aload 0, [], .null, []), (30, .getfield 15, [8, 4], .null, []), (33, .aconst_null, [], .int 0, []), (34, .aconst_null, [], .int 30, []), (36, .invokedynamic 59, [], .null, []), (39, .aload 1, [], .null, []), (40, .getfield 19, [8, 5], .null, []), (43, .aconst_null, [], .int 0, []), (44, .aload 0, [], .null, []), (45, .getfield 19, [8, 5], .null, []), (48, .aconst_null, [], .int 0, []), (49, .aconst_null, [], .int 6, []), (51, .invokedynamic 59, [], .null, []), (54, .aload 1, [], .null, []), (55, .getfield 28, [8, 6], .null, []), (58, .aconst_null, [], .int 0, []), (59, .aload 0, [], .null, []), (60, .getfield 28, [8, 6], .null, []), (63, .aconst_null, [], .int 0, []), (64, .aconst_null, [], .int 6, []), (66, .invokedynamic 59, [], .null, []), (69, .aload 1, [], .null, []), (70, .getfield 31, [8, 7], .null, []), (73, .aconst_null, [], .int 0, []), (74, .aload 0, [], .null, []), (75, .getfield 31, [8, 7], .null, []), (78, .aconst_null, [], .int 0, []), (79, .aconst_null, [], .int 6, []), (81, .invokedynamic 59, [], .null, []), (84, .aload 1, [], .null, []), (85, .getfield 34, [8, 8], .null, []), (88, .aconst_null, [], .int 0, []), (89, .aload 0, [], .null, []), (90, .getfield 34, [8, 8], .null, []), (93, .aconst_null, [], .int 0, []), (94, .aconst_null, [], .int 6, []), (96, .invokedynamic 59, [], .null, []), (99, .aload 1, [], .null, []), (100, .getfield 37, [8, 9], .null, []), (103, .aconst_null, [], .int 0, []), (104, .aload 0, [], .null, []), (105, .getfield 37, [8, 9], .null, []), (108, .aconst_null, [], .int 0, []), (109, .aconst_null, [], .int 6, []), (111, .invokedynamic 59, [], .null, []), (114, .aload 1, [], .null, []), (115, .getfield 40, [8, 10], .null, []), (118, .aconst_null, [], .int 0, []), (119, .aload 0, [], .null, []), (120, .getfield 40, [8, 10], .null, []), (123, .aconst_null, [], .int 0, []), (124, .aconst_null, [], .int 6, []), (126, .invokedynamic 59, [], .null, []), (129, .aload 1, [], .null, []), (130, .getfield 43, [8, 11], .null, []), (133, .aconst_null, [], .int 0, []), (134, .aload 0, [], .null, []), (135, .getfield 43, [8, 11], .null, []), (138, .aconst_null, [], .int 0, []), (139, .aconst_null, [], .int 6, []), (141, .invokedynamic 59, [], .null, []), (144, .aload 1, [], .null, []), (145, .getfield 46, [8, 12], .null, []), (148, .aconst_null, [], .int 0, []), (149, .aload 0, [], .null, []), (150, .getfield 46, [8, 12], .null, []), (153, .aconst_null, [], .int 0, []), (154, .aconst_null, [], .int 6, []), (156, .invokedynamic 59, [], .null, []), (159, .return_, [], .null, [])]
  | _ => []
/-- MoleSecrets$Shire.isFull()Z -/
def am_b42 : Nat → List En := fun L => match L with
  | 0 => [(0, .aload 0, [], .null, []), (1, .getfield 56, [8, 3], .null, []), (4, .aconst_null, [], .int 6, []), (6, .if_icmp .lt 7, [13], .null, []), (9, .aconst_null, [], .int 1, []), (10, .goto 4, [14], .null, [])]
  | 13 => [(13, .aconst_null, [], .int 0, []), (14, .nop, [14], .null, [])]
  | 14 => [(14, .ireturn, [1], .null, [])]
  | _ => []
/-- MoleSecrets$Shire.contract(III)I -/
def am_b43 : Nat → List En := fun L => match L with
  | 0 => [(0, .aload 0, [], .null, []), (1, .getfield 56, [8, 3], .null, []), (4, .istore 4, [], .null, []), (6, .aload 0, [], .null, []), (7, .getfield 28, [8, 6], .null, []), (10, .iload 4, [], .null, []), (12, .iload 1, [], .null, []), (13, .iastore, [], .null, []), (14, .aload 0, [], .null, []), (15, .getfield 31, [8, 7], .null, []), (18, .iload 4, [], .null, []), (20, .iload 2, [], .null, []), (21, .iastore, [], .null, []), (22, .aload 0, [], .null, []), (23, .getfield 34, [8, 8], .null, []), (26, .iload 4, [], .null, []), (28, .iload 2, [], .null, []), (29, .iastore, [], .null, []), (30, .aload 0, [], .null, []), (31, .getfield 37, [8, 9], .null, []), (34, .iload 4, [], .null, []), (36, .iload 3, [], .null, []), (37, .iastore, [], .null, []), (38, .aload 0, [], .null, []), (39, .getfield 40, [8, 10], .null, []), (42, .iload 4, [], .null, []), (44, .aconst_null, [], .int 1, []), (45, .iastore, [], .null, []), (46, .aload 0, [], .null, []), (47, .getfield 43, [8, 11], .null, []), (50, .iload 4, [], .null, []), (52, .aconst_null, [], .int 0, []), (53, .iastore, [], .null, []), (54, .aload 0, [], .null, []), (55, .getfield 46, [8, 12], .null, []), (58, .iload 4, [], .null, []), (60, .aconst_null, [], .int (-1), []), (61, .iastore, [], .null, []), (62, .aload 0, [], .null, []), (63, .dup, [], .null, []), (64, .getfield 56, [8, 3], .null, []), (67, .aconst_null, [], .int 1, []), (68, .iadd, [], .null, []), (69, .putfield 56, [8, 3, 0], .null, []), (72, .iload 4, [], .null, []), (74, .ireturn, [0], .null, [])]
  | _ => []
/-- MoleSecrets$Shire.lay(II)V -/
def am_b44 : Nat → List En := fun L => match L with
  | 0 => [(0, .aconst_null, [], .int 1, []), (1, .iload 1, [], .null, []), (2, .ishl, [], .null, []), (3, .istore 3, [], .null, []), (4, .aload 0, [], .null, []), (5, .iload 2, [], .null, []), (6, .aconst_null, [], .int 1, []), (7, .if_icmp .ne 12, [19], .null, []), (10, .aload 0, [], .null, []), (11, .getfield 53, [8, 2], .null, []), (14, .iload 3, [], .null, []), (15, .ior, [], .null, []), (16, .goto 11, [27], .null, [])]
  | 19 => [(19, .aload 0, [], .null, []), (20, .getfield 53, [8, 2], .null, []), (23, .iload 3, [], .null, []), (24, .aconst_null, [], .int (-1), []), (25, .ixor, [], .null, []), (26, .iand, [], .null, []), (27, .nop, [27], .null, [])]
  | 27 => [(27, .putfield 53, [8, 2, 0], .null, []), (30, .return_, [], .null, [])]
  | _ => []
/-- MoleSecrets$Shire.isTunnel(I)Z -/
def am_b45 : Nat → List En := fun L => match L with
  | 0 => [(0, .aload 0, [], .null, []), (1, .getfield 53, [8, 2], .null, []), (4, .iload 1, [], .null, []), (5, .ishr, [], .null, []), (6, .aconst_null, [], .int 1, []), (7, .iand, [], .null, []), (8, .aconst_null, [], .int 1, []), (9, .if_icmp .ne 7, [16], .null, []), (12, .aconst_null, [], .int 1, []), (13, .goto 4, [17], .null, [])]
  | 16 => [(16, .aconst_null, [], .int 0, []), (17, .nop, [17], .null, [])]
  | 17 => [(17, .ireturn, [1], .null, [])]
  | _ => []
/-- MoleSecrets$Shire.putSecret(II)V -/
def am_b46 : Nat → List En := fun L => match L with
  | 0 => [(0, .aconst_null, [], .int 0, []), (1, .istore 3, [], .null, []), (2, .nop, [2], .null, [])]
  | 2 => [(2, .iload 3, [], .null, []), (3, .aload 0, [], .null, []), (4, .getfield 56, [8, 3], .null, []), (7, .if_icmp .ge 26, [33], .null, []), (10, .aload 0, [], .null, []), (11, .getfield 46, [8, 12], .null, []), (14, .iload 3, [], .null, []), (15, .iaload, [], .null, []), (16, .iload 1, [], .null, []), (17, .if_icmp .ne 10, [27], .null, []), (20, .aload 0, [], .null, []), (21, .getfield 46, [8, 12], .null, []), (24, .iload 3, [], .null, []), (25, .aconst_null, [], .int (-1), []), (26, .iastore, [], .null, []), (27, .nop, [27], .null, [])]
  | 27 => [(27, .iinc 3 1, [], .int 1, []), (30, .goto (-28), [2], .null, [])]
  | 33 => [(33, .aload 0, [], .null, []), (34, .getfield 19, [8, 5], .null, []), (37, .iload 1, [], .null, []), (38, .iload 2, [], .null, []), (39, .iastore, [], .null, []), (40, .return_, [], .null, [])]
  | _ => []
/-- MoleSecrets$Shire.kindOf(I)LMoleSecrets$Mole; -/
def am_b47 : Nat → List En := fun L => match L with
  | 0 => [(0, .aload 0, [], .null, []), (1, .getfield 9, [8, 0], .null, []), (4, .aload 0, [], .null, []), (5, .getfield 28, [8, 6], .null, []), (8, .iload 1, [], .null, []), (9, .iaload, [], .null, []), (10, .aaload, [], .null, []), (11, .areturn, [], .null, [])]
  | _ => []
/-- MoleSecrets$Shire.stepsOf(I)I -/
def am_b48 : Nat → List En := fun L => match L with
  | 0 => [(0, .aload 0, [], .null, []), (1, .iload 1, [], .null, []), (2, .invokevirtual 65, [2, 8, 47], .null, []), (5, .aload 0, [], .null, []), (6, .getfield 49, [8, 1], .null, []), (9, .aload 0, [], .null, []), (10, .getfield 46, [8, 12], .null, []), (13, .iload 1, [], .null, []), (14, .iaload, [], .null, []), (15, .aconst_null, [], .int (-1), []), (16, .if_icmp .eq 7, [23], .null, []), (19, .aconst_null, [], .int 1, []), (20, .goto 4, [24], .null, [])]
  | 23 => [(23, .aconst_null, [], .int 0, []), (24, .nop, [24], .null, [])]
  | 24 => [(24, .invokevirtual 69, [3, 5, 23, 0, 2, 1, 23, 3, 14, 4, 18, 6, 30], .null, []), (27, .ireturn, [0], .null, [])]
  | _ => []
/-- MoleSecrets$Shire.molesAt(I)I -/
def am_b49 : Nat → List En := fun L => match L with
  | 0 => [(0, .aconst_null, [], .int 0, []), (1, .istore 2, [], .null, []), (2, .aconst_null, [], .int 0, []), (3, .istore 3, [], .null, []), (4, .nop, [4], .null, [])]
  | 4 => [(4, .iload 3, [], .null, []), (5, .aload 0, [], .null, []), (6, .getfield 56, [8, 3], .null, []), (9, .if_icmp .ge 25, [34], .null, []), (12, .aload 0, [], .null, []), (13, .getfield 31, [8, 7], .null, []), (16, .iload 3, [], .null, []), (17, .iaload, [], .null, []), (18, .iload 1, [], .null, []), (19, .if_icmp .ne 9, [28], .null, []), (22, .iload 2, [], .null, []), (23, .aconst_null, [], .int 1, []), (24, .iload 3, [], .null, []), (25, .ishl, [], .null, []), (26, .ior, [], .null, []), (27, .istore 2, [], .null, []), (28, .nop, [28], .null, [])]
  | 28 => [(28, .iinc 3 1, [], .int 1, []), (31, .goto (-27), [4], .null, [])]
  | 34 => [(34, .iload 2, [], .null, []), (35, .ireturn, [0], .null, [])]
  | _ => []
/-- MoleSecrets$Shire.secretsAt(I)I -/
def am_b50 : Nat → List En := fun L => match L with
  | 0 => [(0, .aconst_null, [], .int 0, []), (1, .istore 2, [], .null, []), (2, .aconst_null, [], .int 0, []), (3, .istore 3, [], .null, []), (4, .nop, [4], .null, [])]
  | 4 => [(4, .iload 3, [], .null, []), (5, .aconst_null, [], .int 6, []), (7, .if_icmp .ge 25, [32], .null, []), (10, .aload 0, [], .null, []), (11, .getfield 19, [8, 5], .null, []), (14, .iload 3, [], .null, []), (15, .iaload, [], .null, []), (16, .iload 1, [], .null, []), (17, .if_icmp .ne 9, [26], .null, []), (20, .iload 2, [], .null, []), (21, .aconst_null, [], .int 1, []), (22, .iload 3, [], .null, []), (23, .ishl, [], .null, []), (24, .ior, [], .null, []), (25, .istore 2, [], .null, []), (26, .nop, [26], .null, [])]
  | 26 => [(26, .iinc 3 1, [], .int 1, []), (29, .goto (-25), [4], .null, [])]
  | 32 => [(32, .iload 2, [], .null, []), (33, .ireturn, [0], .null, [])]
  | _ => []
/-- MoleSecrets$Shire.heapsOfAll()I -/
def am_b51 : Nat → List En := fun L => match L with
  | 0 => [(0, .aconst_null, [], .int 0, []), (1, .istore 1, [], .null, []), (2, .aconst_null, [], .int 0, []), (3, .istore 2, [], .null, []), (4, .nop, [4], .null, [])]
  | 4 => [(4, .iload 2, [], .null, []), (5, .aconst_null, [], .int 30, []), (7, .if_icmp .ge 18, [25], .null, []), (10, .iload 1, [], .null, []), (11, .aload 0, [], .null, []), (12, .getfield 15, [8, 4], .null, []), (15, .iload 2, [], .null, []), (16, .iaload, [], .null, []), (17, .iadd, [], .null, []), (18, .istore 1, [], .null, []), (19, .iinc 2 1, [], .int 1, []), (22, .goto (-18), [4], .null, [])]
  | 25 => [(25, .iload 1, [], .null, []), (26, .ireturn, [0], .null, [])]
  | _ => []
/-- MoleSecrets$Shire.handsOfAll()I -/
def am_b52 : Nat → List En := fun L => match L with
  | 0 => [(0, .aconst_null, [], .int 0, []), (1, .istore 1, [], .null, []), (2, .aconst_null, [], .int 0, []), (3, .istore 2, [], .null, []), (4, .nop, [4], .null, [])]
  | 4 => [(4, .iload 2, [], .null, []), (5, .aload 0, [], .null, []), (6, .getfield 56, [8, 3], .null, []), (9, .if_icmp .ge 18, [27], .null, []), (12, .iload 1, [], .null, []), (13, .aload 0, [], .null, []), (14, .getfield 43, [8, 11], .null, []), (17, .iload 2, [], .null, []), (18, .iaload, [], .null, []), (19, .iadd, [], .null, []), (20, .istore 1, [], .null, []), (21, .iinc 2 1, [], .int 1, []), (24, .goto (-20), [4], .null, [])]
  | 27 => [(27, .iload 1, [], .null, []), (28, .ireturn, [0], .null, [])]
  | _ => []
/-- MoleSecrets$Shire.minutesTillOut(II)I -/
def am_b53 : Nat → List En := fun L => match L with
  | 0 => [(0, .aconst_null, [], .int 0, []), (1, .istore 3, [], .null, []), (2, .nop, [2], .null, [])]
  | 2 => [(2, .iload 3, [], .null, []), (3, .iload 2, [], .null, []), (4, .if_icmp .gt 27, [31], .null, []), (7, .aload 0, [], .null, []), (8, .getfield 19, [8, 5], .null, []), (11, .iload 1, [], .null, []), (12, .iaload, [], .null, []), (13, .aconst_null, [], .int (-3), []), (15, .if_icmp .ne 5, [20], .null, []), (18, .iload 3, [], .null, []), (19, .ireturn, [0], .null, [])]
  | 20 => [(20, .aload 0, [], .null, []), (21, .aconst_null, [], .int (-1), []), (22, .invokevirtual 75, [2, 8, 57], .null, []), (25, .iinc 3 1, [], .int 1, []), (28, .goto (-26), [2], .null, [])]
  | 31 => [(31, .iload 2, [], .null, []), (32, .aconst_null, [], .int 1, []), (33, .iadd, [], .null, []), (34, .ireturn, [0], .null, [])]
  | _ => []
/-- MoleSecrets$Shire.minutesTillDug(II)I -/
def am_b54 : Nat → List En := fun L => match L with
  | 0 => [(0, .aconst_null, [], .int 0, []), (1, .istore 3, [], .null, []), (2, .nop, [2], .null, [])]
  | 2 => [(2, .iload 3, [], .null, []), (3, .iload 2, [], .null, []), (4, .if_icmp .gt 24, [28], .null, []), (7, .aload 0, [], .null, []), (8, .iload 1, [], .null, []), (9, .invokevirtual 79, [2, 8, 45], .null, []), (12, .ifCond .eq 5, [17], .null, []), (15, .iload 3, [], .null, []), (16, .ireturn, [0], .null, [])]
  | 17 => [(17, .aload 0, [], .null, []), (18, .aconst_null, [], .int (-1), []), (19, .invokevirtual 75, [2, 8, 57], .null, []), (22, .iinc 3 1, [], .int 1, []), (25, .goto (-23), [2], .null, [])]
  | 28 => [(28, .iload 2, [], .null, []), (29, .aconst_null, [], .int 1, []), (30, .iadd, [], .null, []), (31, .ireturn, [0], .null, [])]
  | _ => []
/-- MoleSecrets$Shire.minutesTillAt(III)I -/
def am_b55 : Nat → List En := fun L => match L with
  | 0 => [(0, .aconst_null, [], .int 0, []), (1, .istore 4, [], .null, []), (3, .nop, [3], .null, [])]
  | 3 => [(3, .iload 4, [], .null, []), (5, .iload 3, [], .null, []), (6, .if_icmp .gt 27, [33], .null, []), (9, .aload 0, [], .null, []), (10, .getfield 31, [8, 7], .null, []), (13, .iload 1, [], .null, []), (14, .iaload, [], .null, []), (15, .iload 2, [], .null, []), (16, .if_icmp .ne 6, [22], .null, []), (19, .iload 4, [], .null, []), (21, .ireturn, [0], .null, [])]
  | 22 => [(22, .aload 0, [], .null, []), (23, .aconst_null, [], .int (-1), []), (24, .invokevirtual 75, [2, 8, 57], .null, []), (27, .iinc 4 1, [], .int 1, []), (30, .goto (-27), [3], .null, [])]
  | 33 => [(33, .iload 3, [], .null, []), (34, .aconst_null, [], .int 1, []), (35, .iadd, [], .null, []), (36, .ireturn, [0], .null, [])]
  | _ => []
/-- MoleSecrets$Shire.pass(II)V -/
def am_b56 : Nat → List En := fun L => match L with
  | 0 => [(0, .aconst_null, [], .int 0, []), (1, .istore 3, [], .null, []), (2, .nop, [2], .null, [])]
  | 2 => [(2, .iload 3, [], .null, []), (3, .iload 1, [], .null, []), (4, .if_icmp .ge 14, [18], .null, []), (7, .aload 0, [], .null, []), (8, .iload 2, [], .null, []), (9, .invokevirtual 75, [2, 8, 57], .null, []), (12, .iinc 3 1, [], .int 1, []), (15, .goto (-13), [2], .null, [])]
  | 18 => [(18, .return_, [], .null, [])]
  | _ => []
/-- MoleSecrets$Shire.passOne(I)V -/
def am_b57 : Nat → List En := fun L => match L with
  | 0 => [(0, .aconst_null, [], .int 0, []), (1, .istore 2, [], .null, []), (2, .nop, [2], .null, [])]
  | 2 => [(2, .iload 2, [], .null, []), (3, .aload 0, [], .null, []), (4, .getfield 56, [8, 3], .null, []), (7, .if_icmp .ge 53, [60], .null, []), (10, .iload 2, [], .null, []), (11, .iload 1, [], .null, []), (12, .if_icmp .ne 6, [18], .null, []), (15, .goto 39, [54], .null, [])]
  | 18 => [(18, .aload 0, [], .null, []), (19, .iload 2, [], .null, []), (20, .invokevirtual 83, [2, 8, 48], .null, []), (23, .istore 3, [], .null, []), (24, .aload 0, [], .null, []), (25, .iload 2, [], .null, []), (26, .invokevirtual 87, [2, 8, 58], .null, []), (29, .aconst_null, [], .int 0, []), (30, .istore 4, [], .null, []), (32, .nop, [32], .null, [])]
  | 32 => [(32, .iload 4, [], .null, []), (34, .iload 3, [], .null, []), (35, .if_icmp .ge 19, [54], .null, []), (38, .aload 0, [], .null, []), (39, .iload 2, [], .null, []), (40, .invokevirtual 90, [2, 8, 64], .null, []), (43, .aload 0, [], .null, []), (44, .iload 2, [], .null, []), (45, .invokevirtual 87, [2, 8, 58], .null, []), (48, .iinc 4 1, [], .int 1, []), (51, .goto (-19), [32], .null, [])]
  | 54 => [(54, .iinc 2 1, [], .int 1, []), (57, .goto (-55), [2], .null, [])]
  | 60 => [(60, .aload 0, [], .null, []), (61, .dup, [], .null, []), (62, .getfield 49, [8, 1], .null, []), (65, .aconst_null, [], .int 1, []), (66, .iadd, [], .null, []), (67, .putfield 49, [8, 1, 0], .null, []), (70, .return_, [], .null, [])]
  | _ => []
/-- MoleSecrets$Shire.settle(I)V -/
def am_b58 : Nat → List En := fun L => match L with
  | 0 => [(0, .aload 0, [], .null, []), (1, .getfield 31, [8, 7], .null, []), (4, .iload 1, [], .null, []), (5, .iaload, [], .null, []), (6, .aload 0, [], .null, []), (7, .getfield 37, [8, 9], .null, []), (10, .iload 1, [], .null, []), (11, .iaload, [], .null, []), (12, .if_icmp .ne 11, [23], .null, []), (15, .aload 0, [], .null, []), (16, .iload 1, [], .null, []), (17, .invokevirtual 93, [2, 8, 59], .null, []), (20, .goto 18, [38], .null, [])]
  | 23 => [(23, .aload 0, [], .null, []), (24, .getfield 46, [8, 12], .null, []), (27, .iload 1, [], .null, []), (28, .iaload, [], .null, []), (29, .aconst_null, [], .int (-1), []), (30, .if_icmp .ne 8, [38], .null, []), (33, .aload 0, [], .null, []), (34, .iload 1, [], .null, []), (35, .invokevirtual 96, [2, 8, 60], .null, []), (38, .nop, [38], .null, [])]
  | 38 => [(38, .aload 0, [], .null, []), (39, .getfield 31, [8, 7], .null, []), (42, .iload 1, [], .null, []), (43, .iaload, [], .null, []), (44, .aload 0, [], .null, []), (45, .iload 1, [], .null, []), (46, .invokevirtual 99, [2, 8, 63], .null, []), (49, .if_icmp .ne 8, [57], .null, []), (52, .aload 0, [], .null, []), (53, .iload 1, [], .null, []), (54, .invokevirtual 102, [2, 8, 61], .null, []), (57, .nop, [57], .null, [])]
  | 57 => [(57, .return_, [], .null, [])]
  | _ => []
/-- MoleSecrets$Shire.bringOut(I)V -/
def am_b59 : Nat → List En := fun L => match L with
  | 0 => [(0, .aload 0, [], .null, []), (1, .getfield 46, [8, 12], .null, []), (4, .iload 1, [], .null, []), (5, .iaload, [], .null, []), (6, .aconst_null, [], .int (-1), []), (7, .if_icmp .ne 4, [11], .null, []), (10, .return_, [], .null, [])]
  | 11 => [(11, .aload 0, [], .null, []), (12, .getfield 19, [8, 5], .null, []), (15, .aload 0, [], .null, []), (16, .getfield 46, [8, 12], .null, []), (19, .iload 1, [], .null, []), (20, .iaload, [], .null, []), (21, .aconst_null, [], .int (-3), []), (23, .iastore, [], .null, []), (24, .aload 0, [], .null, []), (25, .getfield 46, [8, 12], .null, []), (28, .iload 1, [], .null, []), (29, .aconst_null, [], .int (-1), []), (30, .iastore, [], .null, []), (31, .aload 0, [], .null, []), (32, .getfield 31, [8, 7], .null, []), (35, .iload 1, [], .null, []), (36, .iaload, [], .null, []), (37, .istore 2, [], .null, []), (38, .aload 0, [], .null, []), (39, .getfield 15, [8, 4], .null, []), (42, .iload 2, [], .null, []), (43, .aload 0, [], .null, []), (44, .getfield 15, [8, 4], .null, []), (47, .iload 2, [], .null, []), (48, .iaload, [], .null, []), (49, .aconst_null, [], .int 1, []), (50, .iadd, [], .null, []), (51, .aconst_null, [], .int 99, []), (53, .multianewarray 105 0, [], .null, []), (56, .iastore, [], .null, []), (57, .aload 0, [], .null, []), (58, .iload 1, [], .null, []), (59, .aload 0, [], .null, []), (60, .iload 1, [], .null, []), (61, .invokevirtual 65, [2, 8, 47], .null, []), (64, .invokevirtual 111, [1, 5, 27, 0, 3, 1, 27, 3, 15, 4, 20, 6, 34], .null, []), (67, .invokevirtual 115, [3, 8, 62], .null, []), (70, .return_, [], .null, [])]
  | _ => []
/-- MoleSecrets$Shire.pickUp(I)V -/
def am_b60 : Nat → List En := fun L => match L with
  | 0 => [(0, .aconst_null, [], .int 0, []), (1, .istore 2, [], .null, []), (2, .nop, [2], .null, [])]
  | 2 => [(2, .iload 2, [], .null, []), (3, .aconst_null, [], .int 6, []), (5, .if_icmp .ge 40, [45], .null, []), (8, .aload 0, [], .null, []), (9, .getfield 19, [8, 5], .null, []), (12, .iload 2, [], .null, []), (13, .iaload, [], .null, []), (14, .aload 0, [], .null, []), (15, .getfield 31, [8, 7], .null, []), (18, .iload 1, [], .null, []), (19, .iaload, [], .null, []), (20, .if_icmp .ne 19, [39], .null, []), (23, .aload 0, [], .null, []), (24, .getfield 19, [8, 5], .null, []), (27, .iload 2, [], .null, []), (28, .aconst_null, [], .int (-2), []), (30, .iastore, [], .null, []), (31, .aload 0, [], .null, []), (32, .getfield 46, [8, 12], .null, []), (35, .iload 1, [], .null, []), (36, .iload 2, [], .null, []), (37, .iastore, [], .null, []), (38, .return_, [], .null, [])]
  | 39 => [(39, .iinc 2 1, [], .int 1, []), (42, .goto (-40), [2], .null, [])]
  | 45 => [(45, .return_, [], .null, [])]
  | _ => []
/-- MoleSecrets$Shire.turnRound(I)V -/
def am_b61 : Nat → List En := fun L => match L with
  | 0 => [(0, .aload 0, [], .null, []), (1, .getfield 40, [8, 10], .null, []), (4, .iload 1, [], .null, []), (5, .aload 0, [], .null, []), (6, .getfield 40, [8, 10], .null, []), (9, .iload 1, [], .null, []), (10, .iaload, [], .null, []), (11, .aconst_null, [], .int 1, []), (12, .if_icmp .ne 7, [19], .null, []), (15, .aconst_null, [], .int 0, []), (16, .goto 4, [20], .null, [])]
  | 19 => [(19, .aconst_null, [], .int 1, []), (20, .nop, [20], .null, [])]
  | 20 => [(20, .iastore, [], .null, []), (21, .return_, [], .null, [])]
  | _ => []
/-- MoleSecrets$Shire.pay(II)V -/
def am_b62 : Nat → List En := fun L => match L with
  | 0 => [(0, .aload 0, [], .null, []), (1, .getfield 43, [8, 11], .null, []), (4, .iload 1, [], .null, []), (5, .aload 0, [], .null, []), (6, .getfield 43, [8, 11], .null, []), (9, .iload 1, [], .null, []), (10, .iaload, [], .null, []), (11, .iload 2, [], .null, []), (12, .iadd, [], .null, []), (13, .aconst_null, [], .int 9999, []), (16, .multianewarray 105 0, [], .null, []), (19, .iastore, [], .null, []), (20, .return_, [], .null, [])]
  | _ => []
/-- MoleSecrets$Shire.goalOf(I)I -/
def am_b63 : Nat → List En := fun L => match L with
  | 0 => [(0, .aload 0, [], .null, []), (1, .getfield 40, [8, 10], .null, []), (4, .iload 1, [], .null, []), (5, .iaload, [], .null, []), (6, .aconst_null, [], .int 1, []), (7, .if_icmp .ne 12, [19], .null, []), (10, .aload 0, [], .null, []), (11, .getfield 37, [8, 9], .null, []), (14, .iload 1, [], .null, []), (15, .iaload, [], .null, []), (16, .goto 9, [25], .null, [])]
  | 19 => [(19, .aload 0, [], .null, []), (20, .getfield 34, [8, 8], .null, []), (23, .iload 1, [], .null, []), (24, .iaload, [], .null, []), (25, .nop, [25], .null, [])]
  | 25 => [(25, .ireturn, [0], .null, [])]
  | _ => []
/-- MoleSecrets$Shire.step(I)V -/
def am_b64 : Nat → List En := fun L => match L with
  | 0 => [(0, .aload 0, [], .null, []), (1, .getfield 31, [8, 7], .null, []), (4, .iload 1, [], .null, []), (5, .iaload, [], .null, []), (6, .aload 0, [], .null, []), (7, .iload 1, [], .null, []), (8, .invokevirtual 99, [2, 8, 63], .null, []), (11, .if_icmp .ne 4, [15], .null, []), (14, .return_, [], .null, [])]
  | 15 => [(15, .aload 0, [], .null, []), (16, .iload 1, [], .null, []), (17, .invokevirtual 119, [2, 8, 65], .null, []), (20, .istore 2, [], .null, []), (21, .aload 0, [], .null, []), (22, .iload 2, [], .null, []), (23, .invokevirtual 79, [2, 8, 45], .null, []), (26, .ifCond .eq 11, [37], .null, []), (29, .aload 0, [], .null, []), (30, .getfield 31, [8, 7], .null, []), (33, .iload 1, [], .null, []), (34, .iload 2, [], .null, []), (35, .iastore, [], .null, []), (36, .return_, [], .null, [])]
  | 37 => [(37, .aload 0, [], .null, []), (38, .iload 1, [], .null, []), (39, .invokevirtual 65, [2, 8, 47], .null, []), (42, .invokevirtual 122, [1, 5, 24, 0, 24, 1, 6, 3, 24, 4, 6, 6, 31], .null, []), (45, .istore 3, [], .null, []), (46, .iload 3, [], .null, []), (47, .ifCond .ge 9, [56], .null, []), (50, .aload 0, [], .null, []), (51, .iload 1, [], .null, []), (52, .invokevirtual 102, [2, 8, 61], .null, []), (55, .return_, [], .null, [])]
  | 56 => [(56, .aload 0, [], .null, []), (57, .iload 2, [], .null, []), (58, .aconst_null, [], .int 1, []), (59, .invokevirtual 125, [3, 8, 44], .null, []), (62, .aload 0, [], .null, []), (63, .iload 1, [], .null, []), (64, .aload 0, [], .null, []), (65, .iload 1, [], .null, []), (66, .invokevirtual 65, [2, 8, 47], .null, []), (69, .invokevirtual 128, [1, 5, 26, 0, 26, 1, 8, 3, 26, 4, 8, 6, 33], .null, []), (72, .invokevirtual 115, [3, 8, 62], .null, []), (75, .iload 3, [], .null, []), (76, .ifCond .le 10, [86], .null, []), (79, .aload 0, [], .null, []), (80, .getfield 31, [8, 7], .null, []), (83, .iload 1, [], .null, []), (84, .iload 2, [], .null, []), (85, .iastore, [], .null, []), (86, .nop, [86], .null, [])]
  | 86 => [(86, .return_, [], .null, [])]
  | _ => []
/-- MoleSecrets$Shire.nextCell(I)I -/
def am_b65 : Nat → List En := fun L => match L with
  | 0 => [(0, .aload 0, [], .null, []), (1, .getfield 31, [8, 7], .null, []), (4, .iload 1, [], .null, []), (5, .iaload, [], .null, []), (6, .istore 2, [], .null, []), (7, .aload 0, [], .null, []), (8, .iload 1, [], .null, []), (9, .invokevirtual 99, [2, 8, 63], .null, []), (12, .istore 3, [], .null, []), (13, .iload 2, [], .null, []), (14, .aconst_null, [], .int 6, []), (16, .idiv, [], .null, []), (17, .istore 4, [], .null, []), (19, .iload 3, [], .null, []), (20, .aconst_null, [], .int 6, []), (22, .idiv, [], .null, []), (23, .istore 5, [], .null, []), (25, .iload 2, [], .null, []), (26, .aconst_null, [], .int 6, []), (28, .irem, [], .null, []), (29, .istore 6, [], .null, []), (31, .iload 3, [], .null, []), (32, .aconst_null, [], .int 6, []), (34, .irem, [], .null, []), (35, .istore 7, [], .null, []), (37, .iload 4, [], .null, []), (39, .iload 5, [], .null, []), (41, .if_icmp .eq 27, [68], .null, []), (44, .iload 6, [], .null, []), (46, .iload 7, [], .null, []), (48, .if_icmp .eq 16, [64], .null, []), (51, .aload 0, [], .null, []), (52, .iload 1, [], .null, []), (53, .invokevirtual 65, [2, 8, 47], .null, []), (56, .iload 4, [], .null, []), (58, .invokevirtual 131, [2, 5, 25, 0, 25, 1, 7, 3, 25, 4, 19, 6, 32], .null, []), (61, .ifCond .eq 7, [68], .null, []), (64, .nop, [64], .null, [])]
  | 64 => [(64, .aconst_null, [], .int 1, []), (65, .goto 4, [69], .null, [])]
  | 68 => [(68, .aconst_null, [], .int 0, []), (69, .nop, [69], .null, [])]
  | 69 => [(69, .istore 8, [], .null, []), (71, .iload 8, [], .null, []), (73, .ifCond .eq 22, [95], .null, []), (76, .iload 4, [], .null, []), (78, .iload 5, [], .null, []), (80, .if_icmp .ge 10, [90], .null, []), (83, .iload 2, [], .null, []), (84, .aconst_null, [], .int 6, []), (86, .iadd, [], .null, []), (87, .goto 7, [94], .null, [])]
  | 90 => [(90, .iload 2, [], .null, []), (91, .aconst_null, [], .int 6, []), (93, .isub, [], .null, []), (94, .nop, [94], .null, [])]
  | 94 => [(94, .ireturn, [0], .null, [])]
  | 95 => [(95, .iload 6, [], .null, []), (97, .iload 7, [], .null, []), (99, .if_icmp .ge 9, [108], .null, []), (102, .iload 2, [], .null, []), (103, .aconst_null, [], .int 1, []), (104, .iadd, [], .null, []), (105, .goto 6, [111], .null, [])]
  | 108 => [(108, .iload 2, [], .null, []), (109, .aconst_null, [], .int 1, []), (110, .isub, [], .null, []), (111, .nop, [111], .null, [])]
  | 111 => [(111, .ireturn, [0], .null, [])]
  | _ => []
/-- MoleSecrets$Tape.<init>()V -/
def am_b66 : Nat → List En := fun L => match L with
  | 0 => [(0, .aload 0, [], .null, []), (1, .monitorexit, [3], .null, []), (4, .aload 0, [], .null, []), (5, .aconst_null, [], .int 120, []), (7, .newarray .int, [], .null, []), (9, .putfield 9, [9, 0, 2], .null, []), (12, .return_, [], .null, [])]
  | _ => []
/-- MoleSecrets$Tape.append(II)V -/
def am_b67 : Nat → List En := fun L => match L with
  | 0 => [(0, .iload 2, [], .null, []), (1, .aconst_null, [], .int 1, []), (2, .isub, [], .null, []), (3, .istore 3, [], .null, []), (4, .nop, [4], .null, [])]
  | 4 => [(4, .iload 3, [], .null, []), (5, .ifCond .lt 38, [43], .null, []), (8, .aload 0, [], .null, []), (9, .getfield 9, [9, 0], .null, []), (12, .aload 0, [], .null, []), (13, .getfield 15, [9, 1], .null, []), (16, .iload 1, [], .null, []), (17, .aconst_null, [], .int 8, []), (19, .iload 3, [], .null, []), (20, .imul, [], .null, []), (21, .ishr, [], .null, []), (22, .aconst_null, [], .int 255, []), (25, .iand, [], .null, []), (26, .iastore, [], .null, []), (27, .aload 0, [], .null, []), (28, .dup, [], .null, []), (29, .getfield 15, [9, 1], .null, []), (32, .aconst_null, [], .int 1, []), (33, .iadd, [], .null, []), (34, .putfield 15, [9, 1, 0], .null, []), (37, .iinc 3 (-1), [], .int (-1), []), (40, .goto (-36), [4], .null, [])]
  | 43 => [(43, .return_, [], .null, [])]
  | _ => []
/-- MoleSecrets$Tape.play(LMoleSecrets$Shire;)I -/
def am_b68 : Nat → List En := fun L => match L with
  | 0 => [(0, .aload 0, [], .null, []), (1, .aconst_null, [], .int 0, []), (2, .putfield 19, [9, 4, 0], .null, []), (5, .aconst_null, [], .int 1, []), (6, .istore 2, [], .null, []), (7, .nop, [7], .null, [])]
  | 7 => [(7, .iload 2, [], .null, []), (8, .aconst_null, [], .int 120, []), (10, .if_icmp .gt 52, [62], .null, []), (13, .aload 0, [], .null, []), (14, .aload 1, [], .null, []), (15, .invokevirtual 22, [2, 9, 69], .null, []), (18, .ifCond .ne 10, [28], .null, []), (21, .aconst_null, [], .int (-1), []), (22, .aload 0, [], .null, []), (23, .getfield 26, [9, 3], .null, []), (26, .isub, [], .null, []), (27, .ireturn, [0], .null, [])]
  | 28 => [(28, .aload 0, [], .null, []), (29, .invokevirtual 29, [1, 9, 75], .null, []), (32, .aload 0, [], .null, []), (33, .getfield 32, [9, 2], .null, []), (36, .ifCond .ne 5, [41], .null, []), (39, .iload 2, [], .null, []), (40, .ireturn, [0], .null, [])]
  | 41 => [(41, .aload 0, [], .null, []), (42, .getfield 32, [9, 2], .null, []), (45, .aconst_null, [], .int 3, []), (46, .if_icmp .eq 10, [56], .null, []), (49, .aconst_null, [], .int (-1), []), (50, .aload 0, [], .null, []), (51, .getfield 26, [9, 3], .null, []), (54, .isub, [], .null, []), (55, .ireturn, [0], .null, [])]
  | 56 => [(56, .iinc 2 1, [], .int 1, []), (59, .goto (-52), [7], .null, [])]
  | 62 => [(62, .aconst_null, [], .int (-1), []), (63, .aload 0, [], .null, []), (64, .getfield 26, [9, 3], .null, []), (67, .isub, [], .null, []), (68, .ireturn, [0], .null, [])]
  | _ => []
/-- MoleSecrets$Tape.playItem(LMoleSecrets$Shire;)Z -/
def am_b69 : Nat → List En := fun L => match L with
  | 0 => [(0, .aload 0, [], .null, []), (1, .invokevirtual 29, [1, 9, 75], .null, []), (4, .aload 0, [], .null, []), (5, .getfield 32, [9, 2], .null, []), (8, .aconst_null, [], .int 1, []), (9, .if_icmp .eq 5, [14], .null, []), (12, .aconst_null, [], .int 0, []), (13, .ireturn, [1], .null, [])]
  | 14 => [(14, .aload 0, [], .null, []), (15, .aconst_null, [], .ref 1006, []), (17, .invokevirtual 37, [2, 9, 74], .null, []), (20, .ifCond .eq 9, [29], .null, []), (23, .aload 0, [], .null, []), (24, .aload 1, [], .null, []), (25, .invokevirtual 41, [2, 9, 70], .null, []), (28, .ireturn, [1], .null, [])]
  | 29 => [(29, .aload 0, [], .null, []), (30, .aconst_null, [], .ref 1007, []), (32, .invokevirtual 37, [2, 9, 74], .null, []), (35, .ifCond .eq 9, [44], .null, []), (38, .aload 0, [], .null, []), (39, .aload 1, [], .null, []), (40, .invokevirtual 46, [2, 9, 71], .null, []), (43, .ireturn, [1], .null, [])]
  | 44 => [(44, .aconst_null, [], .int 0, []), (45, .istore 2, [], .null, []), (46, .nop, [46], .null, [])]
  | 46 => [(46, .iload 2, [], .null, []), (47, .aconst_null, [], .int 6, []), (49, .if_icmp .ge 32, [81], .null, []), (52, .aload 0, [], .null, []), (53, .aload 1, [], .null, []), (54, .getfield 49, [8, 0], .null, []), (57, .iload 2, [], .null, []), (58, .aaload, [], .null, []), (59, .invokevirtual 55, [1, 5, 22, 0, 1, 1, 5, 3, 13, 4, 17, 6, 29], .null, []), (62, .invokevirtual 37, [2, 9, 74], .null, []), (65, .ifCond .eq 10, [75], .null, []), (68, .aload 0, [], .null, []), (69, .aload 1, [], .null, []), (70, .iload 2, [], .null, []), (71, .invokevirtual 61, [3, 9, 72], .null, []), (74, .ireturn, [1], .null, [])]
  | 75 => [(75, .iinc 2 1, [], .int 1, []), (78, .goto (-32), [46], .null, [])]
  | 81 => [(81, .aconst_null, [], .int 0, []), (82, .ireturn, [1], .null, [])]
  | _ => []
/-- MoleSecrets$Tape.playDug(LMoleSecrets$Shire;)Z -/
def am_b70 : Nat → List En := fun L => match L with
  | 0 => [(0, .aload 0, [], .null, []), (1, .aconst_null, [], .int 29, []), (3, .invokevirtual 65, [2, 9, 73], .null, []), (6, .ifCond .ne 5, [11], .null, []), (9, .aconst_null, [], .int 0, []), (10, .ireturn, [1], .null, [])]
  | 11 => [(11, .aload 1, [], .null, []), (12, .aload 0, [], .null, []), (13, .getfield 69, [9, 5], .null, []), (16, .aconst_null, [], .int 1, []), (17, .invokevirtual 72, [3, 8, 44], .null, []), (20, .aconst_null, [], .int 1, []), (21, .ireturn, [1], .null, [])]
  | _ => []
/-- MoleSecrets$Tape.playSecret(LMoleSecrets$Shire;)Z -/
def am_b71 : Nat → List En := fun L => match L with
  | 0 => [(0, .aload 0, [], .null, []), (1, .aconst_null, [], .int 5, []), (2, .invokevirtual 65, [2, 9, 73], .null, []), (5, .ifCond .ne 5, [10], .null, []), (8, .aconst_null, [], .int 0, []), (9, .ireturn, [1], .null, [])]
  | 10 => [(10, .aload 0, [], .null, []), (11, .getfield 69, [9, 5], .null, []), (14, .istore 2, [], .null, []), (15, .aload 0, [], .null, []), (16, .aconst_null, [], .int 29, []), (18, .invokevirtual 65, [2, 9, 73], .null, []), (21, .ifCond .ne 5, [26], .null, []), (24, .aconst_null, [], .int 0, []), (25, .ireturn, [1], .null, [])]
  | 26 => [(26, .aload 1, [], .null, []), (27, .iload 2, [], .null, []), (28, .aload 0, [], .null, []), (29, .getfield 69, [9, 5], .null, []), (32, .invokevirtual 76, [3, 8, 46], .null, []), (35, .aconst_null, [], .int 1, []), (36, .ireturn, [1], .null, [])]
  | _ => []
/-- MoleSecrets$Tape.playMole(LMoleSecrets$Shire;I)Z -/
def am_b72 : Nat → List En := fun L => match L with
  | 0 => [(0, .aload 1, [], .null, []), (1, .invokevirtual 79, [1, 8, 42], .null, []), (4, .ifCond .ne 12, [16], .null, []), (7, .aload 0, [], .null, []), (8, .aconst_null, [], .int 29, []), (10, .invokevirtual 65, [2, 9, 73], .null, []), (13, .ifCond .ne 5, [18], .null, []), (16, .nop, [16], .null, [])]
  | 16 => [(16, .aconst_null, [], .int 0, []), (17, .ireturn, [1], .null, [])]
  | 18 => [(18, .aload 0, [], .null, []), (19, .getfield 69, [9, 5], .null, []), (22, .istore 3, [], .null, []), (23, .aload 0, [], .null, []), (24, .aconst_null, [], .int 29, []), (26, .invokevirtual 65, [2, 9, 73], .null, []), (29, .ifCond .ne 5, [34], .null, []), (32, .aconst_null, [], .int 0, []), (33, .ireturn, [1], .null, [])]
  | 34 => [(34, .aload 1, [], .null, []), (35, .iload 2, [], .null, []), (36, .iload 3, [], .null, []), (37, .aload 0, [], .null, []), (38, .getfield 69, [9, 5], .null, []), (41, .invokevirtual 83, [4, 8, 43], .null, []), (44, .pop, [], .null, []), (45, .aconst_null, [], .int 1, []), (46, .ireturn, [1], .null, [])]
  | _ => []
/-- MoleSecrets$Tape.takeNumber(I)Z -/
def am_b73 : Nat → List En := fun L => match L with
  | 0 => [(0, .aload 0, [], .null, []), (1, .invokevirtual 29, [1, 9, 75], .null, []), (4, .aload 0, [], .null, []), (5, .getfield 32, [9, 2], .null, []), (8, .aconst_null, [], .int 2, []), (9, .if_icmp .ne 15, [24], .null, []), (12, .aload 0, [], .null, []), (13, .getfield 69, [9, 5], .null, []), (16, .iload 1, [], .null, []), (17, .if_icmp .gt 7, [24], .null, []), (20, .aconst_null, [], .int 1, []), (21, .goto 4, [25], .null, [])]
  | 24 => [(24, .aconst_null, [], .int 0, []), (25, .nop, [25], .null, [])]
  | 25 => [(25, .ireturn, [1], .null, [])]
  | _ => []
/-- MoleSecrets$Tape.isWord(Ljava/lang/String;)Z -/
def am_b74 : Nat → List En := fun L => match L with
  | 0 => [(0, .aload 0, [], .null, []), (1, .getfield 19, [9, 4], .null, []), (4, .aload 0, [], .null, []), (5, .getfield 26, [9, 3], .null, []), (8, .isub, [], .null, []), (9, .aload 1, [], .null, []), (10, .invokeinterface 87 0, [500, 1], .null, []), (13, .if_icmp .eq 5, [18], .null, []), (16, .aconst_null, [], .int 0, []), (17, .ireturn, [1], .null, [])]
  | 18 => [(18, .aconst_null, [], .int 0, []), (19, .istore 2, [], .null, []), (20, .nop, [20], .null, [])]
  | 20 => [(20, .iload 2, [], .null, []), (21, .aload 1, [], .null, []), (22, .invokeinterface 87 0, [500, 1], .null, []), (25, .if_icmp .ge 30, [55], .null, []), (28, .aload 0, [], .null, []), (29, .getfield 9, [9, 0], .null, []), (32, .aload 0, [], .null, []), (33, .getfield 26, [9, 3], .null, []), (36, .iload 2, [], .null, []), (37, .iadd, [], .null, []), (38, .iaload, [], .null, []), (39, .aload 1, [], .null, []), (40, .iload 2, [], .null, []), (41, .invokeinterface 92 0, [501, 2], .null, []), (44, .if_icmp .eq 5, [49], .null, []), (47, .aconst_null, [], .int 0, []), (48, .ireturn, [1], .null, [])]
  | 49 => [(49, .iinc 2 1, [], .int 1, []), (52, .goto (-32), [20], .null, [])]
  | 55 => [(55, .aconst_null, [], .int 1, []), (56, .ireturn, [1], .null, [])]
  | _ => []
/-- MoleSecrets$Tape.advance()V -/
def am_b75 : Nat → List En := fun L => match L with
  | 0 => [(0, .aload 0, [], .null, []), (1, .aload 0, [], .null, []), (2, .getfield 19, [9, 4], .null, []), (5, .putfield 26, [9, 3, 0], .null, []), (8, .nop, [8], .null, [])]
  | 8 => [(8, .aload 0, [], .null, []), (9, .getfield 26, [9, 3], .null, []), (12, .aload 0, [], .null, []), (13, .getfield 15, [9, 1], .null, []), (16, .if_icmp .ge 30, [46], .null, []), (19, .aload 0, [], .null, []), (20, .getfield 9, [9, 0], .null, []), (23, .aload 0, [], .null, []), (24, .getfield 26, [9, 3], .null, []), (27, .iaload, [], .null, []), (28, .aconst_null, [], .int 32, []), (30, .if_icmp .ne 16, [46], .null, []), (33, .aload 0, [], .null, []), (34, .dup, [], .null, []), (35, .getfield 26, [9, 3], .null, []), (38, .aconst_null, [], .int 1, []), (39, .iadd, [], .null, []), (40, .putfield 26, [9, 3, 0], .null, []), (43, .goto (-35), [8], .null, [])]
  | 46 => [(46, .aload 0, [], .null, []), (47, .aload 0, [], .null, []), (48, .getfield 26, [9, 3], .null, []), (51, .putfield 19, [9, 4, 0], .null, []), (54, .aload 0, [], .null, []), (55, .getfield 26, [9, 3], .null, []), (58, .aload 0, [], .null, []), (59, .getfield 15, [9, 1], .null, []), (62, .if_icmp .lt 11, [73], .null, []), (65, .aload 0, [], .null, []), (66, .aconst_null, [], .int 0, []), (67, .putfield 32, [9, 2, 0], .null, []), (70, .goto 90, [160], .null, [])]
  | 73 => [(73, .aload 0, [], .null, []), (74, .getfield 9, [9, 0], .null, []), (77, .aload 0, [], .null, []), (78, .getfield 26, [9, 3], .null, []), (81, .iaload, [], .null, []), (82, .invokestatic 96, [78, 1], .null, []), (85, .ifCond .eq 15, [100], .null, []), (88, .aload 0, [], .null, []), (89, .aconst_null, [], .int 1, []), (90, .putfield 32, [9, 2, 0], .null, []), (93, .aload 0, [], .null, []), (94, .invokevirtual 99, [1, 9, 76], .null, []), (97, .goto 63, [160], .null, [])]
  | 100 => [(100, .aload 0, [], .null, []), (101, .getfield 9, [9, 0], .null, []), (104, .aload 0, [], .null, []), (105, .getfield 26, [9, 3], .null, []), (108, .iaload, [], .null, []), (109, .invokestatic 102, [79, 1], .null, []), (112, .ifCond .eq 15, [127], .null, []), (115, .aload 0, [], .null, []), (116, .aconst_null, [], .int 2, []), (117, .putfield 32, [9, 2, 0], .null, []), (120, .aload 0, [], .null, []), (121, .invokevirtual 105, [1, 9, 77], .null, []), (124, .goto 36, [160], .null, [])]
  | 127 => [(127, .aload 0, [], .null, []), (128, .aload 0, [], .null, []), (129, .getfield 9, [9, 0], .null, []), (132, .aload 0, [], .null, []), (133, .getfield 26, [9, 3], .null, []), (136, .iaload, [], .null, []), (137, .aconst_null, [], .int 59, []), (139, .if_icmp .ne 7, [146], .null, []), (142, .aconst_null, [], .int 3, []), (143, .goto 4, [147], .null, [])]
  | 146 => [(146, .aconst_null, [], .int 4, []), (147, .nop, [147], .null, [])]
  | 147 => [(147, .putfield 32, [9, 2, 0], .null, []), (150, .aload 0, [], .null, []), (151, .dup, [], .null, []), (152, .getfield 19, [9, 4], .null, []), (155, .aconst_null, [], .int 1, []), (156, .iadd, [], .null, []), (157, .putfield 19, [9, 4, 0], .null, []), (160, .nop, [160], .null, [])]
  | 160 => [(160, .return_, [], .null, [])]
  | _ => []
/-- MoleSecrets$Tape.passWord()V -/
def am_b76 : Nat → List En := fun L => match L with
  | 0 => [(0, .aload 0, [], .null, []), (1, .getfield 19, [9, 4], .null, []), (4, .aload 0, [], .null, []), (5, .getfield 15, [9, 1], .null, []), (8, .if_icmp .ge 31, [39], .null, []), (11, .aload 0, [], .null, []), (12, .getfield 9, [9, 0], .null, []), (15, .aload 0, [], .null, []), (16, .getfield 19, [9, 4], .null, []), (19, .iaload, [], .null, []), (20, .invokestatic 96, [78, 1], .null, []), (23, .ifCond .eq 16, [39], .null, []), (26, .aload 0, [], .null, []), (27, .dup, [], .null, []), (28, .getfield 19, [9, 4], .null, []), (31, .aconst_null, [], .int 1, []), (32, .iadd, [], .null, []), (33, .putfield 19, [9, 4, 0], .null, []), (36, .goto (-36), [0], .null, [])]
  | 39 => [(39, .return_, [], .null, [])]
  | _ => []
/-- MoleSecrets$Tape.passNumber()V -/
def am_b77 : Nat → List En := fun L => match L with
  | 0 => [(0, .aload 0, [], .null, []), (1, .aconst_null, [], .int 0, []), (2, .putfield 69, [9, 5, 0], .null, []), (5, .nop, [5], .null, [])]
  | 5 => [(5, .aload 0, [], .null, []), (6, .getfield 19, [9, 4], .null, []), (9, .aload 0, [], .null, []), (10, .getfield 15, [9, 1], .null, []), (13, .if_icmp .ge 61, [74], .null, []), (16, .aload 0, [], .null, []), (17, .getfield 9, [9, 0], .null, []), (20, .aload 0, [], .null, []), (21, .getfield 19, [9, 4], .null, []), (24, .iaload, [], .null, []), (25, .invokestatic 102, [79, 1], .null, []), (28, .ifCond .eq 46, [74], .null, []), (31, .aload 0, [], .null, []), (32, .aconst_null, [], .int 10, []), (34, .aload 0, [], .null, []), (35, .getfield 69, [9, 5], .null, []), (38, .imul, [], .null, []), (39, .aload 0, [], .null, []), (40, .getfield 9, [9, 0], .null, []), (43, .aload 0, [], .null, []), (44, .getfield 19, [9, 4], .null, []), (47, .iaload, [], .null, []), (48, .iadd, [], .null, []), (49, .aconst_null, [], .int 48, []), (51, .isub, [], .null, []), (52, .aconst_null, [], .int 1000, []), (55, .multianewarray 108 0, [], .null, []), (58, .putfield 69, [9, 5, 0], .null, []), (61, .aload 0, [], .null, []), (62, .dup, [], .null, []), (63, .getfield 19, [9, 4], .null, []), (66, .aconst_null, [], .int 1, []), (67, .iadd, [], .null, []), (68, .putfield 19, [9, 4, 0], .null, []), (71, .goto (-66), [5], .null, [])]
  | 74 => [(74, .return_, [], .null, [])]
  | _ => []
/-- MoleSecrets$Tape.isLetter(I)Z -/
def am_b78 : Nat → List En := fun L => match L with
  | 0 => [(0, .iload 0, [], .null, []), (1, .aconst_null, [], .int 97, []), (3, .if_icmp .lt 13, [16], .null, []), (6, .iload 0, [], .null, []), (7, .aconst_null, [], .int 122, []), (9, .if_icmp .gt 7, [16], .null, []), (12, .aconst_null, [], .int 1, []), (13, .goto 4, [17], .null, [])]
  | 16 => [(16, .aconst_null, [], .int 0, []), (17, .nop, [17], .null, [])]
  | 17 => [(17, .ireturn, [1], .null, [])]
  | _ => []
/-- MoleSecrets$Tape.isDigit(I)Z -/
def am_b79 : Nat → List En := fun L => match L with
  | 0 => [(0, .iload 0, [], .null, []), (1, .aconst_null, [], .int 48, []), (3, .if_icmp .lt 13, [16], .null, []), (6, .iload 0, [], .null, []), (7, .aconst_null, [], .int 57, []), (9, .if_icmp .gt 7, [16], .null, []), (12, .aconst_null, [], .int 1, []), (13, .goto 4, [17], .null, [])]
  | 16 => [(16, .aconst_null, [], .int 0, []), (17, .nop, [17], .null, [])]
  | 17 => [(17, .ireturn, [1], .null, [])]
  | _ => []
/-- MoleSecrets.<init>()V -/
def am_b80 : Nat → List En := fun L => match L with
  | 0 => [(0, .aload 0, [], .null, []), (1, .monitorexit, [3], .null, []), (4, .aconst_null, [], .int 6, []), (6, .anewarray 9, [2], .null, []), (9, .dup, [], .null, []), (10, .aconst_null, [], .int 0, []), (11, .new 9, [5, 0], .null, []), (14, .dup, [], .null, []), (15, .invokespecial 11, [21, 1], .null, []), (18, .aastore, [], .null, []), (19, .dup, [], .null, []), (20, .aconst_null, [], .int 1, []), (21, .new 12, [1, 0], .null, []), (24, .dup, [], .null, []), (25, .invokespecial 14, [4, 1], .null, []), (28, .aastore, [], .null, []), (29, .dup, [], .null, []), (30, .aconst_null, [], .int 2, []), (31, .new 15, [0, 0], .null, []), (34, .dup, [], .null, []), (35, .invokespecial 17, [0, 1], .null, []), (38, .aastore, [], .null, []), (39, .dup, [], .null, []), (40, .aconst_null, [], .int 3, []), (41, .new 18, [6, 0], .null, []), (44, .dup, [], .null, []), (45, .invokespecial 20, [28, 1], .null, []), (48, .aastore, [], .null, []), (49, .dup, [], .null, []), (50, .aconst_null, [], .int 4, []), (51, .new 21, [4, 0], .null, []), (54, .dup, [], .null, []), (55, .invokespecial 23, [16, 1], .null, []), (58, .aastore, [], .null, []), (59, .dup, [], .null, []), (60, .aconst_null, [], .int 5, []), (61, .new 24, [3, 0], .null, []), (64, .dup, [], .null, []), (65, .invokespecial 26, [12, 1], .null, []), (68, .aastore, [], .null, []), (69, .astore 1, [], .null, []), (70, .aload 0, [], .null, []), (71, .new 27, [8, 13], .null, []), (74, .dup, [], .null, []), (75, .aload 1, [], .null, []), (76, .invokespecial 29, [40, 2], .null, []), (79, .putfield 32, [10, 0, 2], .null, []), (82, .aload 0, [], .null, []), (83, .new 27, [8, 13], .null, []), (86, .dup, [], .null, []), (87, .aload 1, [], .null, []), (88, .invokespecial 29, [40, 2], .null, []), (91, .putfield 36, [10, 1, 2], .null, []), (94, .aload 0, [], .null, []), (95, .new 27, [8, 13], .null, []), (98, .dup, [], .null, []), (99, .aload 1, [], .null, []), (100, .invokespecial 29, [40, 2], .null, []), (103, .putfield 39, [10, 2, 2], .null, []), (106, .aload 0, [], .null, []), (107, .aconst_null, [], .int 0, []), (108, .putfield 42, [10, 3, 1], .null, []), (111, .aload 0, [], .null, []), (112, .new 46, [9, 6], .null, []), (115, .dup, [], .null, []), (116, .invokespecial 48, [66, 1], .null, []), (119, .putfield 49, [10, 4, 2], .null, []), (122, .aload 0, [], .null, []), (123, .aconst_null, [], .int 4, []), (124, .anewarray 53, [3], .null, []), (127, .dup, [], .null, []), (128, .aconst_null, [], .int 0, []), (129, .new 53, [7, 3], .null, []), (132, .dup, [], .null, []), (133, .invokespecial 55, [35, 1], .null, []), (136, .aastore, [], .null, []), (137, .dup, [], .null, []), (138, .aconst_null, [], .int 1, []), (139, .new 53, [7, 3], .null, []), (142, .dup, [], .null, []), (143, .invokespecial 55, [35, 1], .null, []), (146, .aastore, [], .null, []), (147, .dup, [], .null, []), (148, .aconst_null, [], .int 2, []), (149, .new 53, [7, 3], .null, []), (152, .dup, [], .null, []), (153, .invokespecial 55, [35, 1], .null, []), (156, .aastore, [], .null, []), (157, .dup, [], .null, []), (158, .aconst_null, [], .int 3, []), (159, .new 53, [7, 3], .null, []), (162, .dup, [], .null, []), (163, .invokespecial 55, [35, 1], .null, []), (166, .aastore, [], .null, []), (167, .putfield 56, [10, 5, 2], .null, []), (170, .aload 0, [], .null, []), (171, .new 60, [2, 1], .null, []), (174, .dup, [], .null, []), (175, .invokespecial 62, [9, 1], .null, []), (178, .putfield 63, [10, 6, 2], .null, []), (181, .return_, [], .null, [])]
  | _ => []
/-- MoleSecrets.cell(III)I -/
def am_b81 : Nat → List En := fun L => match L with
  | 0 => [(0, .iload 1, [], .null, []), (1, .invokestatic 67, [119, 1], .null, []), (4, .ifCond .eq 30, [34], .null, []), (7, .iload 2, [], .null, []), (8, .aconst_null, [], .int 0, []), (9, .aconst_null, [], .int 1, []), (10, .invokestatic 71, [118, 3], .null, []), (13, .ifCond .eq 21, [34], .null, []), (16, .iload 3, [], .null, []), (17, .aconst_null, [], .int 0, []), (18, .iload 2, [], .null, []), (19, .ifCond .ne 7, [26], .null, []), (22, .aconst_null, [], .int 1, []), (23, .goto 5, [28], .null, [])]
  | 26 => [(26, .aconst_null, [], .int 99, []), (28, .nop, [28], .null, [])]
  | 28 => [(28, .invokestatic 71, [118, 3], .null, []), (31, .ifCond .ne 13, [44], .null, []), (34, .nop, [34], .null, [])]
  | 34 => [(34, .aload 0, [], .null, []), (35, .getfield 63, [10, 6], .null, []), (38, .aconst_null, [], .int (-1000000001), []), (40, .invokevirtual 76, [2, 2, 10], .null, []), (43, .ireturn, [0], .null, [])]
  | 44 => [(44, .aload 0, [], .null, []), (45, .iload 1, [], .null, []), (46, .iload 2, [], .null, []), (47, .invokevirtual 80, [3, 10, 127], .null, []), (50, .istore 4, [], .null, []), (52, .iload 2, [], .null, []), (53, .ifCond .ne 15, [68], .null, []), (56, .aload 0, [], .null, []), (57, .getfield 32, [10, 0], .null, []), (60, .iload 1, [], .null, []), (61, .iload 3, [], .null, []), (62, .invokevirtual 84, [3, 8, 44], .null, []), (65, .goto 13, [78], .null, [])]
  | 68 => [(68, .aload 0, [], .null, []), (69, .getfield 32, [10, 0], .null, []), (72, .getfield 88, [8, 4], .null, []), (75, .iload 1, [], .null, []), (76, .iload 3, [], .null, []), (77, .iastore, [], .null, []), (78, .nop, [78], .null, [])]
  | 78 => [(78, .iload 4, [], .null, []), (80, .ireturn, [0], .null, [])]
  | _ => []
/-- MoleSecrets.cellOf(II)I -/
def am_b82 : Nat → List En := fun L => match L with
  | 0 => [(0, .iload 1, [], .null, []), (1, .invokestatic 67, [119, 1], .null, []), (4, .ifCond .eq 12, [16], .null, []), (7, .iload 2, [], .null, []), (8, .aconst_null, [], .int 0, []), (9, .aconst_null, [], .int 3, []), (10, .invokestatic 71, [118, 3], .null, []), (13, .ifCond .ne 13, [26], .null, []), (16, .nop, [16], .null, [])]
  | 16 => [(16, .aload 0, [], .null, []), (17, .getfield 63, [10, 6], .null, []), (20, .aconst_null, [], .int (-1000000001), []), (22, .invokevirtual 76, [2, 2, 10], .null, []), (25, .ireturn, [0], .null, [])]
  | 26 => [(26, .aload 0, [], .null, []), (27, .iload 1, [], .null, []), (28, .iload 2, [], .null, []), (29, .invokevirtual 80, [3, 10, 127], .null, []), (32, .ireturn, [0], .null, [])]
  | _ => []
/-- MoleSecrets.tell(II)I -/
def am_b83 : Nat → List En := fun L => match L with
  | 0 => [(0, .iload 1, [], .null, []), (1, .invokestatic 92, [120, 1], .null, []), (4, .ifCond .eq 13, [17], .null, []), (7, .iload 2, [], .null, []), (8, .aconst_null, [], .int (-1), []), (9, .aconst_null, [], .int 29, []), (11, .invokestatic 71, [118, 3], .null, []), (14, .ifCond .ne 13, [27], .null, []), (17, .nop, [17], .null, [])]
  | 17 => [(17, .aload 0, [], .null, []), (18, .getfield 63, [10, 6], .null, []), (21, .aconst_null, [], .int (-1000000001), []), (23, .invokevirtual 76, [2, 2, 10], .null, []), (26, .ireturn, [0], .null, [])]
  | 27 => [(27, .aload 0, [], .null, []), (28, .getfield 32, [10, 0], .null, []), (31, .getfield 95, [8, 5], .null, []), (34, .iload 1, [], .null, []), (35, .iaload, [], .null, []), (36, .istore 3, [], .null, []), (37, .aload 0, [], .null, []), (38, .getfield 32, [10, 0], .null, []), (41, .iload 1, [], .null, []), (42, .iload 2, [], .null, []), (43, .invokevirtual 98, [3, 8, 46], .null, []), (46, .iload 3, [], .null, []), (47, .ireturn, [0], .null, [])]
  | _ => []
/-- MoleSecrets.where(I)I -/
def am_b84 : Nat → List En := fun L => match L with
  | 0 => [(0, .iload 1, [], .null, []), (1, .invokestatic 92, [120, 1], .null, []), (4, .ifCond .eq 15, [19], .null, []), (7, .aload 0, [], .null, []), (8, .getfield 32, [10, 0], .null, []), (11, .getfield 95, [8, 5], .null, []), (14, .iload 1, [], .null, []), (15, .iaload, [], .null, []), (16, .goto 12, [28], .null, [])]
  | 19 => [(19, .aload 0, [], .null, []), (20, .getfield 63, [10, 6], .null, []), (23, .aconst_null, [], .int (-1000000001), []), (25, .invokevirtual 76, [2, 2, 10], .null, []), (28, .nop, [28], .null, [])]
  | 28 => [(28, .ireturn, [0], .null, [])]
  | _ => []
/-- MoleSecrets.now(I)I -/
def am_b85 : Nat → List En := fun L => match L with
  | 0 => [(0, .iload 1, [], .null, []), (1, .tableswitch 91 0 5 #[39, 47, 55, 63, 73, 83], [92], .null, [(0, 40), (1, 48), (2, 56), (3, 64), (4, 74), (5, 84)])]
  | 40 => [(40, .aload 0, [], .null, []), (41, .getfield 32, [10, 0], .null, []), (44, .getfield 101, [8, 1], .null, []), (47, .ireturn, [0], .null, [])]
  | 48 => [(48, .aload 0, [], .null, []), (49, .getfield 32, [10, 0], .null, []), (52, .getfield 105, [8, 2], .null, []), (55, .ireturn, [0], .null, [])]
  | 56 => [(56, .aload 0, [], .null, []), (57, .getfield 32, [10, 0], .null, []), (60, .invokevirtual 108, [1, 8, 51], .null, []), (63, .ireturn, [0], .null, [])]
  | 64 => [(64, .aload 0, [], .null, []), (65, .getfield 32, [10, 0], .null, []), (68, .aconst_null, [], .int (-3), []), (70, .invokevirtual 112, [2, 8, 50], .null, []), (73, .ireturn, [0], .null, [])]
  | 74 => [(74, .aload 0, [], .null, []), (75, .getfield 32, [10, 0], .null, []), (78, .aconst_null, [], .int (-2), []), (80, .invokevirtual 112, [2, 8, 50], .null, []), (83, .ireturn, [0], .null, [])]
  | 84 => [(84, .aload 0, [], .null, []), (85, .getfield 32, [10, 0], .null, []), (88, .invokevirtual 115, [1, 8, 52], .null, []), (91, .ireturn, [0], .null, [])]
  | 92 => [(92, .aload 0, [], .null, []), (93, .getfield 63, [10, 6], .null, []), (96, .aconst_null, [], .int (-1000000001), []), (98, .invokevirtual 76, [2, 2, 10], .null, []), (101, .ireturn, [0], .null, [])]
  | _ => []
/-- MoleSecrets.mole(III)I -/
def am_b86 : Nat → List En := fun L => match L with
  | 0 => [(0, .iload 1, [], .null, []), (1, .invokestatic 118, [121, 1], .null, []), (4, .ifCond .eq 17, [21], .null, []), (7, .iload 2, [], .null, []), (8, .invokestatic 67, [119, 1], .null, []), (11, .ifCond .eq 10, [21], .null, []), (14, .iload 3, [], .null, []), (15, .invokestatic 67, [119, 1], .null, []), (18, .ifCond .ne 13, [31], .null, []), (21, .nop, [21], .null, [])]
  | 21 => [(21, .aload 0, [], .null, []), (22, .getfield 63, [10, 6], .null, []), (25, .aconst_null, [], .int (-1000000001), []), (27, .invokevirtual 76, [2, 2, 10], .null, []), (30, .ireturn, [0], .null, [])]
  | 31 => [(31, .aload 0, [], .null, []), (32, .getfield 32, [10, 0], .null, []), (35, .invokevirtual 121, [1, 8, 42], .null, []), (38, .ifCond .eq 13, [51], .null, []), (41, .aload 0, [], .null, []), (42, .getfield 63, [10, 6], .null, []), (45, .aconst_null, [], .int (-1000000002), []), (47, .invokevirtual 76, [2, 2, 10], .null, []), (50, .ireturn, [0], .null, [])]
  | 51 => [(51, .aload 0, [], .null, []), (52, .getfield 32, [10, 0], .null, []), (55, .iload 1, [], .null, []), (56, .iload 2, [], .null, []), (57, .iload 3, [], .null, []), (58, .invokevirtual 126, [4, 8, 43], .null, []), (61, .ireturn, [0], .null, [])]
  | _ => []
/-- MoleSecrets.of(II)I -/
def am_b87 : Nat → List En := fun L => match L with
  | 0 => [(0, .aload 0, [], .null, []), (1, .iload 1, [], .null, []), (2, .invokevirtual 130, [2, 10, 123], .null, []), (5, .ifCond .eq 13, [18], .null, []), (8, .iload 2, [], .null, []), (9, .aconst_null, [], .int 0, []), (10, .aconst_null, [], .int 9, []), (12, .invokestatic 71, [118, 3], .null, []), (15, .ifCond .ne 13, [28], .null, []), (18, .nop, [18], .null, [])]
  | 18 => [(18, .aload 0, [], .null, []), (19, .getfield 63, [10, 6], .null, []), (22, .aconst_null, [], .int (-1000000001), []), (24, .invokevirtual 76, [2, 2, 10], .null, []), (27, .ireturn, [0], .null, [])]
  | 28 => [(28, .aload 0, [], .null, []), (29, .iload 1, [], .null, []), (30, .iload 2, [], .null, []), (31, .invokevirtual 133, [3, 10, 128], .null, []), (34, .ireturn, [0], .null, [])]
  | _ => []
/-- MoleSecrets.charges(II)I -/
def am_b88 : Nat → List En := fun L => match L with
  | 0 => [(0, .aload 0, [], .null, []), (1, .iload 1, [], .null, []), (2, .invokevirtual 130, [2, 10, 123], .null, []), (5, .ifCond .eq 12, [17], .null, []), (8, .iload 2, [], .null, []), (9, .aconst_null, [], .int 0, []), (10, .aconst_null, [], .int 1, []), (11, .invokestatic 71, [118, 3], .null, []), (14, .ifCond .ne 13, [27], .null, []), (17, .nop, [17], .null, [])]
  | 17 => [(17, .aload 0, [], .null, []), (18, .getfield 63, [10, 6], .null, []), (21, .aconst_null, [], .int (-1000000001), []), (23, .invokevirtual 76, [2, 2, 10], .null, []), (26, .ireturn, [0], .null, [])]
  | 27 => [(27, .aload 0, [], .null, []), (28, .getfield 32, [10, 0], .null, []), (31, .iload 1, [], .null, []), (32, .invokevirtual 136, [2, 8, 47], .null, []), (35, .astore 3, [], .null, []), (36, .iload 2, [], .null, []), (37, .ifCond .ne 10, [47], .null, []), (40, .aload 3, [], .null, []), (41, .invokevirtual 140, [1, 5, 26, 0, 26, 1, 8, 3, 26, 4, 8, 6, 33], .null, []), (44, .goto 7, [51], .null, [])]
  | 47 => [(47, .aload 3, [], .null, []), (48, .invokevirtual 143, [1, 5, 27, 0, 3, 1, 27, 3, 15, 4, 20, 6, 34], .null, []), (51, .nop, [51], .null, [])]
  | 51 => [(51, .ireturn, [0], .null, [])]
  | _ => []
/-- MoleSecrets.set(III)I -/
def am_b89 : Nat → List En := fun L => match L with
  | 0 => [(0, .aload 0, [], .null, []), (1, .iload 1, [], .null, []), (2, .invokevirtual 130, [2, 10, 123], .null, []), (5, .ifCond .eq 24, [29], .null, []), (8, .iload 2, [], .null, []), (9, .aconst_null, [], .int 1, []), (10, .aconst_null, [], .int 5, []), (11, .invokestatic 71, [118, 3], .null, []), (14, .ifCond .eq 15, [29], .null, []), (17, .iload 3, [], .null, []), (18, .aconst_null, [], .int 0, []), (19, .iload 2, [], .null, []), (20, .invokestatic 146, [125, 1], .null, []), (23, .invokestatic 71, [118, 3], .null, []), (26, .ifCond .ne 13, [39], .null, []), (29, .nop, [29], .null, [])]
  | 29 => [(29, .aload 0, [], .null, []), (30, .getfield 63, [10, 6], .null, []), (33, .aconst_null, [], .int (-1000000001), []), (35, .invokevirtual 76, [2, 2, 10], .null, []), (38, .ireturn, [0], .null, [])]
  | 39 => [(39, .aload 0, [], .null, []), (40, .iload 1, [], .null, []), (41, .iload 2, [], .null, []), (42, .invokevirtual 133, [3, 10, 128], .null, []), (45, .istore 4, [], .null, []), (47, .iload 2, [], .null, []), (48, .tableswitch 84 1 4 #[32, 45, 58, 71], [132], .null, [(1, 80), (2, 93), (3, 106), (4, 119)])]
  | 80 => [(80, .aload 0, [], .null, []), (81, .getfield 32, [10, 0], .null, []), (84, .getfield 149, [8, 7], .null, []), (87, .iload 1, [], .null, []), (88, .iload 3, [], .null, []), (89, .iastore, [], .null, []), (90, .goto 52, [142], .null, [])]
  | 93 => [(93, .aload 0, [], .null, []), (94, .getfield 32, [10, 0], .null, []), (97, .getfield 152, [8, 8], .null, []), (100, .iload 1, [], .null, []), (101, .iload 3, [], .null, []), (102, .iastore, [], .null, []), (103, .goto 39, [142], .null, [])]
  | 106 => [(106, .aload 0, [], .null, []), (107, .getfield 32, [10, 0], .null, []), (110, .getfield 155, [8, 9], .null, []), (113, .iload 1, [], .null, []), (114, .iload 3, [], .null, []), (115, .iastore, [], .null, []), (116, .goto 26, [142], .null, [])]
  | 119 => [(119, .aload 0, [], .null, []), (120, .getfield 32, [10, 0], .null, []), (123, .getfield 158, [8, 10], .null, []), (126, .iload 1, [], .null, []), (127, .iload 3, [], .null, []), (128, .iastore, [], .null, []), (129, .goto 13, [142], .null, [])]
  | 132 => [(132, .aload 0, [], .null, []), (133, .getfield 32, [10, 0], .null, []), (136, .getfield 161, [8, 11], .null, []), (139, .iload 1, [], .null, []), (140, .iload 3, [], .null, []), (141, .iastore, [], .null, []), (142, .nop, [142], .null, [])]
  | 142 => [(142, .iload 4, [], .null, []), (144, .ireturn, [0], .null, [])]
  | _ => []
/-- MoleSecrets.turn(II)I -/
def am_b90 : Nat → List En := fun L => match L with
  | 0 => [(0, .aload 0, [], .null, []), (1, .iload 1, [], .null, []), (2, .invokevirtual 130, [2, 10, 123], .null, []), (5, .ifCond .eq 10, [15], .null, []), (8, .iload 2, [], .null, []), (9, .invokestatic 118, [121, 1], .null, []), (12, .ifCond .ne 13, [25], .null, []), (15, .nop, [15], .null, [])]
  | 15 => [(15, .aload 0, [], .null, []), (16, .getfield 63, [10, 6], .null, []), (19, .aconst_null, [], .int (-1000000001), []), (21, .invokevirtual 76, [2, 2, 10], .null, []), (24, .ireturn, [0], .null, [])]
  | 25 => [(25, .aload 0, [], .null, []), (26, .getfield 32, [10, 0], .null, []), (29, .getfield 164, [8, 6], .null, []), (32, .iload 1, [], .null, []), (33, .iaload, [], .null, []), (34, .istore 3, [], .null, []), (35, .aload 0, [], .null, []), (36, .getfield 32, [10, 0], .null, []), (39, .getfield 164, [8, 6], .null, []), (42, .iload 1, [], .null, []), (43, .iload 2, [], .null, []), (44, .iastore, [], .null, []), (45, .iload 3, [], .null, []), (46, .ireturn, [0], .null, [])]
  | _ => []
/-- MoleSecrets.as(II)I -/
def am_b91 : Nat → List En := fun L => match L with
  | 0 => [(0, .aload 0, [], .null, []), (1, .iload 1, [], .null, []), (2, .invokevirtual 130, [2, 10, 123], .null, []), (5, .ifCond .eq 10, [15], .null, []), (8, .iload 2, [], .null, []), (9, .invokestatic 118, [121, 1], .null, []), (12, .ifCond .ne 13, [25], .null, []), (15, .nop, [15], .null, [])]
  | 15 => [(15, .aload 0, [], .null, []), (16, .getfield 63, [10, 6], .null, []), (19, .aconst_null, [], .int (-1000000001), []), (21, .invokevirtual 76, [2, 2, 10], .null, []), (24, .ireturn, [0], .null, [])]
  | 25 => [(25, .aload 0, [], .null, []), (26, .getfield 32, [10, 0], .null, []), (29, .iload 1, [], .null, []), (30, .invokevirtual 136, [2, 8, 47], .null, []), (33, .iload 2, [], .null, []), (34, .invokestatic 167, [126, 2], .null, []), (37, .ifCond .ne 13, [50], .null, []), (40, .aload 0, [], .null, []), (41, .getfield 63, [10, 6], .null, []), (44, .aconst_null, [], .int (-1000000003), []), (46, .invokevirtual 76, [2, 2, 10], .null, []), (49, .ireturn, [0], .null, [])]
  | 50 => [(50, .aload 0, [], .null, []), (51, .getfield 32, [10, 0], .null, []), (54, .getfield 161, [8, 11], .null, []), (57, .iload 1, [], .null, []), (58, .iaload, [], .null, []), (59, .ireturn, [0], .null, [])]
  | _ => []
/-- MoleSecrets.minutes(I)I -/
def am_b92 : Nat → List En := fun L => match L with
  | 0 => [(0, .iload 1, [], .null, []), (1, .aconst_null, [], .int 1, []), (2, .aconst_null, [], .int 100, []), (4, .invokestatic 71, [118, 3], .null, []), (7, .ifCond .ne 13, [20], .null, []), (10, .aload 0, [], .null, []), (11, .getfield 63, [10, 6], .null, []), (14, .aconst_null, [], .int (-1000000001), []), (16, .invokevirtual 76, [2, 2, 10], .null, []), (19, .ireturn, [0], .null, [])]
  | 20 => [(20, .aload 0, [], .null, []), (21, .getfield 32, [10, 0], .null, []), (24, .getfield 101, [8, 1], .null, []), (27, .iload 1, [], .null, []), (28, .iadd, [], .null, []), (29, .aconst_null, [], .int 99999, []), (31, .if_icmp .le 13, [44], .null, []), (34, .aload 0, [], .null, []), (35, .getfield 63, [10, 6], .null, []), (38, .aconst_null, [], .int (-1000000005), []), (40, .invokevirtual 76, [2, 2, 10], .null, []), (43, .ireturn, [0], .null, [])]
  | 44 => [(44, .aload 0, [], .null, []), (45, .getfield 32, [10, 0], .null, []), (48, .iload 1, [], .null, []), (49, .aconst_null, [], .int (-1), []), (50, .invokevirtual 174, [3, 8, 56], .null, []), (53, .aload 0, [], .null, []), (54, .getfield 32, [10, 0], .null, []), (57, .aconst_null, [], .int (-3), []), (59, .invokevirtual 112, [2, 8, 50], .null, []), (62, .ireturn, [0], .null, [])]
  | _ => []
/-- MoleSecrets.on(III)I -/
def am_b93 : Nat → List En := fun L => match L with
  | 0 => [(0, .aload 0, [], .null, []), (1, .iload 1, [], .null, []), (2, .invokevirtual 130, [2, 10, 123], .null, []), (5, .ifCond .eq 23, [28], .null, []), (8, .iload 2, [], .null, []), (9, .aconst_null, [], .int 0, []), (10, .aconst_null, [], .int 200, []), (13, .invokestatic 71, [118, 3], .null, []), (16, .ifCond .eq 12, [28], .null, []), (19, .iload 3, [], .null, []), (20, .aconst_null, [], .int 0, []), (21, .aconst_null, [], .int 2, []), (22, .invokestatic 71, [118, 3], .null, []), (25, .ifCond .ne 13, [38], .null, []), (28, .nop, [28], .null, [])]
  | 28 => [(28, .aload 0, [], .null, []), (29, .getfield 63, [10, 6], .null, []), (32, .aconst_null, [], .int (-1000000001), []), (34, .invokevirtual 76, [2, 2, 10], .null, []), (37, .ireturn, [0], .null, [])]
  | 38 => [(38, .aload 0, [], .null, []), (39, .getfield 36, [10, 1], .null, []), (42, .aload 0, [], .null, []), (43, .getfield 32, [10, 0], .null, []), (46, .invokevirtual 177, [2, 8, 41], .null, []), (49, .aload 0, [], .null, []), (50, .getfield 36, [10, 1], .null, []), (53, .iload 2, [], .null, []), (54, .aconst_null, [], .int (-1), []), (55, .invokevirtual 174, [3, 8, 56], .null, []), (58, .iload 3, [], .null, []), (59, .lookupswitch 45 #[(0, 25), (1, 35)], [104], .null, [(0, 84), (1, 94)])]
  | 84 => [(84, .aload 0, [], .null, []), (85, .getfield 36, [10, 1], .null, []), (88, .getfield 149, [8, 7], .null, []), (91, .iload 1, [], .null, []), (92, .iaload, [], .null, []), (93, .ireturn, [0], .null, [])]
  | 94 => [(94, .aload 0, [], .null, []), (95, .getfield 36, [10, 1], .null, []), (98, .getfield 161, [8, 11], .null, []), (101, .iload 1, [], .null, []), (102, .iaload, [], .null, []), (103, .ireturn, [0], .null, [])]
  | 104 => [(104, .aload 0, [], .null, []), (105, .getfield 36, [10, 1], .null, []), (108, .getfield 181, [8, 12], .null, []), (111, .iload 1, [], .null, []), (112, .iaload, [], .null, []), (113, .ireturn, [0], .null, [])]
  | _ => []
/-- MoleSecrets.then(II)I -/
def am_b94 : Nat → List En := fun L => match L with
  | 0 => [(0, .iload 1, [], .null, []), (1, .invokestatic 92, [120, 1], .null, []), (4, .ifCond .eq 14, [18], .null, []), (7, .iload 2, [], .null, []), (8, .aconst_null, [], .int 0, []), (9, .aconst_null, [], .int 200, []), (12, .invokestatic 71, [118, 3], .null, []), (15, .ifCond .ne 13, [28], .null, []), (18, .nop, [18], .null, [])]
  | 18 => [(18, .aload 0, [], .null, []), (19, .getfield 63, [10, 6], .null, []), (22, .aconst_null, [], .int (-1000000001), []), (24, .invokevirtual 76, [2, 2, 10], .null, []), (27, .ireturn, [0], .null, [])]
  | 28 => [(28, .aload 0, [], .null, []), (29, .getfield 36, [10, 1], .null, []), (32, .aload 0, [], .null, []), (33, .getfield 32, [10, 0], .null, []), (36, .invokevirtual 177, [2, 8, 41], .null, []), (39, .aload 0, [], .null, []), (40, .getfield 36, [10, 1], .null, []), (43, .iload 2, [], .null, []), (44, .aconst_null, [], .int (-1), []), (45, .invokevirtual 174, [3, 8, 56], .null, []), (48, .aload 0, [], .null, []), (49, .getfield 36, [10, 1], .null, []), (52, .getfield 95, [8, 5], .null, []), (55, .iload 1, [], .null, []), (56, .iaload, [], .null, []), (57, .ireturn, [0], .null, [])]
  | _ => []
/-- MoleSecrets.out(I)I -/
def am_b95 : Nat → List En := fun L => match L with
  | 0 => [(0, .iload 1, [], .null, []), (1, .invokestatic 92, [120, 1], .null, []), (4, .ifCond .ne 13, [17], .null, []), (7, .aload 0, [], .null, []), (8, .getfield 63, [10, 6], .null, []), (11, .aconst_null, [], .int (-1000000001), []), (13, .invokevirtual 76, [2, 2, 10], .null, []), (16, .ireturn, [0], .null, [])]
  | 17 => [(17, .aload 0, [], .null, []), (18, .getfield 36, [10, 1], .null, []), (21, .aload 0, [], .null, []), (22, .getfield 32, [10, 0], .null, []), (25, .invokevirtual 177, [2, 8, 41], .null, []), (28, .aload 0, [], .null, []), (29, .aload 0, [], .null, []), (30, .getfield 36, [10, 1], .null, []), (33, .iload 1, [], .null, []), (34, .aconst_null, [], .int 200, []), (37, .invokevirtual 184, [3, 8, 53], .null, []), (40, .invokevirtual 187, [2, 10, 129], .null, []), (43, .ireturn, [0], .null, [])]
  | _ => []
/-- MoleSecrets.dug(I)I -/
def am_b96 : Nat → List En := fun L => match L with
  | 0 => [(0, .iload 1, [], .null, []), (1, .invokestatic 67, [119, 1], .null, []), (4, .ifCond .ne 13, [17], .null, []), (7, .aload 0, [], .null, []), (8, .getfield 63, [10, 6], .null, []), (11, .aconst_null, [], .int (-1000000001), []), (13, .invokevirtual 76, [2, 2, 10], .null, []), (16, .ireturn, [0], .null, [])]
  | 17 => [(17, .aload 0, [], .null, []), (18, .getfield 36, [10, 1], .null, []), (21, .aload 0, [], .null, []), (22, .getfield 32, [10, 0], .null, []), (25, .invokevirtual 177, [2, 8, 41], .null, []), (28, .aload 0, [], .null, []), (29, .aload 0, [], .null, []), (30, .getfield 36, [10, 1], .null, []), (33, .iload 1, [], .null, []), (34, .aconst_null, [], .int 200, []), (37, .invokevirtual 190, [3, 8, 54], .null, []), (40, .invokevirtual 187, [2, 10, 129], .null, []), (43, .ireturn, [0], .null, [])]
  | _ => []
/-- MoleSecrets.comes(II)I -/
def am_b97 : Nat → List En := fun L => match L with
  | 0 => [(0, .aload 0, [], .null, []), (1, .iload 1, [], .null, []), (2, .invokevirtual 130, [2, 10, 123], .null, []), (5, .ifCond .eq 10, [15], .null, []), (8, .iload 2, [], .null, []), (9, .invokestatic 67, [119, 1], .null, []), (12, .ifCond .ne 13, [25], .null, []), (15, .nop, [15], .null, [])]
  | 15 => [(15, .aload 0, [], .null, []), (16, .getfield 63, [10, 6], .null, []), (19, .aconst_null, [], .int (-1000000001), []), (21, .invokevirtual 76, [2, 2, 10], .null, []), (24, .ireturn, [0], .null, [])]
  | 25 => [(25, .aload 0, [], .null, []), (26, .getfield 36, [10, 1], .null, []), (29, .aload 0, [], .null, []), (30, .getfield 32, [10, 0], .null, []), (33, .invokevirtual 177, [2, 8, 41], .null, []), (36, .aload 0, [], .null, []), (37, .aload 0, [], .null, []), (38, .getfield 36, [10, 1], .null, []), (41, .iload 1, [], .null, []), (42, .iload 2, [], .null, []), (43, .aconst_null, [], .int 200, []), (46, .invokevirtual 193, [4, 8, 55], .null, []), (49, .invokevirtual 187, [2, 10, 129], .null, []), (52, .ireturn, [0], .null, [])]
  | _ => []
/-- MoleSecrets.kind(II)I -/
def am_b98 : Nat → List En := fun L => match L with
  | 0 => [(0, .aload 0, [], .null, []), (1, .iload 1, [], .null, []), (2, .invokevirtual 130, [2, 10, 123], .null, []), (5, .ifCond .eq 10, [15], .null, []), (8, .iload 2, [], .null, []), (9, .invokestatic 92, [120, 1], .null, []), (12, .ifCond .ne 13, [25], .null, []), (15, .nop, [15], .null, [])]
  | 15 => [(15, .aload 0, [], .null, []), (16, .getfield 63, [10, 6], .null, []), (19, .aconst_null, [], .int (-1000000001), []), (21, .invokevirtual 76, [2, 2, 10], .null, []), (24, .ireturn, [0], .null, [])]
  | 25 => [(25, .aconst_null, [], .int 0, []), (26, .istore 3, [], .null, []), (27, .aconst_null, [], .int 201, []), (30, .istore 4, [], .null, []), (32, .aconst_null, [], .int 0, []), (33, .istore 5, [], .null, []), (35, .nop, [35], .null, [])]
  | 35 => [(35, .iload 5, [], .null, []), (37, .aconst_null, [], .int 6, []), (39, .if_icmp .ge 59, [98], .null, []), (42, .aload 0, [], .null, []), (43, .getfield 36, [10, 1], .null, []), (46, .aload 0, [], .null, []), (47, .getfield 32, [10, 0], .null, []), (50, .invokevirtual 177, [2, 8, 41], .null, []), (53, .aload 0, [], .null, []), (54, .getfield 36, [10, 1], .null, []), (57, .getfield 164, [8, 6], .null, []), (60, .iload 1, [], .null, []), (61, .iload 5, [], .null, []), (63, .iastore, [], .null, []), (64, .aload 0, [], .null, []), (65, .getfield 36, [10, 1], .null, []), (68, .iload 2, [], .null, []), (69, .iload 4, [], .null, []), (71, .aconst_null, [], .int 1, []), (72, .isub, [], .null, []), (73, .invokevirtual 184, [3, 8, 53], .null, []), (76, .istore 6, [], .null, []), (78, .iload 6, [], .null, []), (80, .iload 4, [], .null, []), (82, .if_icmp .ge 10, [92], .null, []), (85, .iload 6, [], .null, []), (87, .istore 4, [], .null, []), (89, .iload 5, [], .null, []), (91, .istore 3, [], .null, []), (92, .nop, [92], .null, [])]
  | 92 => [(92, .iinc 5 1, [], .int 1, []), (95, .goto (-60), [35], .null, [])]
  | 98 => [(98, .iload 3, [], .null, []), (99, .ireturn, [0], .null, [])]
  | _ => []
/-- MoleSecrets.lead(II)I -/
def am_b99 : Nat → List En := fun L => match L with
  | 0 => [(0, .aload 0, [], .null, []), (1, .iload 1, [], .null, []), (2, .invokevirtual 130, [2, 10, 123], .null, []), (5, .ifCond .eq 13, [18], .null, []), (8, .iload 2, [], .null, []), (9, .aconst_null, [], .int 1, []), (10, .aconst_null, [], .int 60, []), (12, .invokestatic 71, [118, 3], .null, []), (15, .ifCond .ne 13, [28], .null, []), (18, .nop, [18], .null, [])]
  | 18 => [(18, .aload 0, [], .null, []), (19, .getfield 63, [10, 6], .null, []), (22, .aconst_null, [], .int (-1000000001), []), (24, .invokevirtual 76, [2, 2, 10], .null, []), (27, .ireturn, [0], .null, [])]
  | 28 => [(28, .aconst_null, [], .int 0, []), (29, .istore 3, [], .null, []), (30, .aconst_null, [], .int (-1), []), (31, .istore 4, [], .null, []), (33, .aconst_null, [], .int 0, []), (34, .istore 5, [], .null, []), (36, .nop, [36], .null, [])]
  | 36 => [(36, .iload 5, [], .null, []), (38, .aconst_null, [], .int 30, []), (40, .if_icmp .ge 68, [108], .null, []), (43, .aload 0, [], .null, []), (44, .getfield 36, [10, 1], .null, []), (47, .aload 0, [], .null, []), (48, .getfield 32, [10, 0], .null, []), (51, .invokevirtual 177, [2, 8, 41], .null, []), (54, .aload 0, [], .null, []), (55, .getfield 36, [10, 1], .null, []), (58, .getfield 155, [8, 9], .null, []), (61, .iload 1, [], .null, []), (62, .iload 5, [], .null, []), (64, .iastore, [], .null, []), (65, .aload 0, [], .null, []), (66, .getfield 36, [10, 1], .null, []), (69, .iload 2, [], .null, []), (70, .aconst_null, [], .int (-1), []), (71, .invokevirtual 174, [3, 8, 56], .null, []), (74, .aload 0, [], .null, []), (75, .getfield 36, [10, 1], .null, []), (78, .aconst_null, [], .int (-3), []), (80, .invokevirtual 112, [2, 8, 50], .null, []), (83, .invokestatic 196, [231, 1], .null, []), (86, .istore 6, [], .null, []), (88, .iload 6, [], .null, []), (90, .iload 4, [], .null, []), (92, .if_icmp .le 10, [102], .null, []), (95, .iload 6, [], .null, []), (97, .istore 4, [], .null, []), (99, .iload 5, [], .null, []), (101, .istore 3, [], .null, []), (102, .nop, [102], .null, [])]
  | 102 => [(102, .iinc 5 1, [], .int 1, []), (105, .goto (-69), [36], .null, [])]
  | 108 => [(108, .iload 3, [], .null, []), (109, .ireturn, [0], .null, [])]
  | _ => []
/-- MoleSecrets.dig(I)I -/
def am_b100 : Nat → List En := fun L => match L with
  | 0 => [(0, .iload 1, [], .null, []), (1, .aconst_null, [], .int 1, []), (2, .aconst_null, [], .int 60, []), (4, .invokestatic 71, [118, 3], .null, []), (7, .ifCond .ne 13, [20], .null, []), (10, .aload 0, [], .null, []), (11, .getfield 63, [10, 6], .null, []), (14, .aconst_null, [], .int (-1000000001), []), (16, .invokevirtual 76, [2, 2, 10], .null, []), (19, .ireturn, [0], .null, [])]
  | 20 => [(20, .aconst_null, [], .int (-1), []), (21, .istore 2, [], .null, []), (22, .aconst_null, [], .int 59995, []), (24, .istore 3, [], .null, []), (25, .aconst_null, [], .int 0, []), (26, .istore 4, [], .null, []), (28, .nop, [28], .null, [])]
  | 28 => [(28, .iload 4, [], .null, []), (30, .aconst_null, [], .int 30, []), (32, .if_icmp .ge 75, [107], .null, []), (35, .aload 0, [], .null, []), (36, .getfield 32, [10, 0], .null, []), (39, .iload 4, [], .null, []), (41, .invokevirtual 202, [2, 8, 45], .null, []), (44, .ifCond .eq 6, [50], .null, []), (47, .goto 54, [101], .null, [])]
  | 50 => [(50, .aload 0, [], .null, []), (51, .getfield 36, [10, 1], .null, []), (54, .aload 0, [], .null, []), (55, .getfield 32, [10, 0], .null, []), (58, .invokevirtual 177, [2, 8, 41], .null, []), (61, .aload 0, [], .null, []), (62, .getfield 36, [10, 1], .null, []), (65, .iload 4, [], .null, []), (67, .aconst_null, [], .int 1, []), (68, .invokevirtual 84, [3, 8, 44], .null, []), (71, .aload 0, [], .null, []), (72, .getfield 36, [10, 1], .null, []), (75, .iload 1, [], .null, []), (76, .aconst_null, [], .int (-1), []), (77, .invokevirtual 174, [3, 8, 56], .null, []), (80, .aload 0, [], .null, []), (81, .getfield 36, [10, 1], .null, []), (84, .invokevirtual 115, [1, 8, 52], .null, []), (87, .istore 5, [], .null, []), (89, .iload 5, [], .null, []), (91, .iload 3, [], .null, []), (92, .if_icmp .ge 9, [101], .null, []), (95, .iload 5, [], .null, []), (97, .istore 3, [], .null, []), (98, .iload 4, [], .null, []), (100, .istore 2, [], .null, []), (101, .nop, [101], .null, [])]
  | 101 => [(101, .iinc 4 1, [], .int 1, []), (104, .goto (-76), [28], .null, [])]
  | 107 => [(107, .iload 2, [], .null, []), (108, .ifCond .ge 15, [123], .null, []), (111, .aload 0, [], .null, []), (112, .getfield 63, [10, 6], .null, []), (115, .aconst_null, [], .int (-1000000004), []), (117, .invokevirtual 76, [2, 2, 10], .null, []), (120, .goto 4, [124], .null, [])]
  | 123 => [(123, .iload 2, [], .null, []), (124, .nop, [124], .null, [])]
  | 124 => [(124, .ireturn, [0], .null, [])]
  | _ => []
/-- MoleSecrets.leave(I)I -/
def am_b101 : Nat → List En := fun L => match L with
  | 0 => [(0, .iload 1, [], .null, []), (1, .invokestatic 92, [120, 1], .null, []), (4, .ifCond .ne 13, [17], .null, []), (7, .aload 0, [], .null, []), (8, .getfield 63, [10, 6], .null, []), (11, .aconst_null, [], .int (-1000000001), []), (13, .invokevirtual 76, [2, 2, 10], .null, []), (16, .ireturn, [0], .null, [])]
  | 17 => [(17, .aconst_null, [], .int (-1), []), (18, .istore 2, [], .null, []), (19, .aconst_null, [], .int 61, []), (21, .istore 3, [], .null, []), (22, .aconst_null, [], .int 0, []), (23, .istore 4, [], .null, []), (25, .nop, [25], .null, [])]
  | 25 => [(25, .iload 4, [], .null, []), (27, .aconst_null, [], .int 30, []), (29, .if_icmp .ge 55, [84], .null, []), (32, .aload 0, [], .null, []), (33, .getfield 36, [10, 1], .null, []), (36, .aload 0, [], .null, []), (37, .getfield 32, [10, 0], .null, []), (40, .invokevirtual 177, [2, 8, 41], .null, []), (43, .aload 0, [], .null, []), (44, .getfield 36, [10, 1], .null, []), (47, .iload 1, [], .null, []), (48, .iload 4, [], .null, []), (50, .invokevirtual 98, [3, 8, 46], .null, []), (53, .aload 0, [], .null, []), (54, .getfield 36, [10, 1], .null, []), (57, .iload 1, [], .null, []), (58, .iload 3, [], .null, []), (59, .aconst_null, [], .int 1, []), (60, .isub, [], .null, []), (61, .invokevirtual 184, [3, 8, 53], .null, []), (64, .istore 5, [], .null, []), (66, .iload 5, [], .null, []), (68, .iload 3, [], .null, []), (69, .if_icmp .ge 9, [78], .null, []), (72, .iload 5, [], .null, []), (74, .istore 3, [], .null, []), (75, .iload 4, [], .null, []), (77, .istore 2, [], .null, []), (78, .nop, [78], .null, [])]
  | 78 => [(78, .iinc 4 1, [], .int 1, []), (81, .goto (-56), [25], .null, [])]
  | 84 => [(84, .iload 2, [], .null, []), (85, .ifCond .ge 15, [100], .null, []), (88, .aload 0, [], .null, []), (89, .getfield 63, [10, 6], .null, []), (92, .aconst_null, [], .int (-1000000004), []), (94, .invokevirtual 76, [2, 2, 10], .null, []), (97, .goto 4, [101], .null, [])]
  | 100 => [(100, .iload 2, [], .null, []), (101, .nop, [101], .null, [])]
  | 101 => [(101, .ireturn, [0], .null, [])]
  | _ => []
/-- MoleSecrets.dismiss(I)I -/
def am_b102 : Nat → List En := fun L => match L with
  | 0 => [(0, .iload 1, [], .null, []), (1, .aconst_null, [], .int 1, []), (2, .aconst_null, [], .int 60, []), (4, .invokestatic 71, [118, 3], .null, []), (7, .ifCond .ne 13, [20], .null, []), (10, .aload 0, [], .null, []), (11, .getfield 63, [10, 6], .null, []), (14, .aconst_null, [], .int (-1000000001), []), (16, .invokevirtual 76, [2, 2, 10], .null, []), (19, .ireturn, [0], .null, [])]
  | 20 => [(20, .aconst_null, [], .int (-1), []), (21, .istore 2, [], .null, []), (22, .aconst_null, [], .int 59995, []), (24, .istore 3, [], .null, []), (25, .aconst_null, [], .int 0, []), (26, .istore 4, [], .null, []), (28, .nop, [28], .null, [])]
  | 28 => [(28, .iload 4, [], .null, []), (30, .aload 0, [], .null, []), (31, .getfield 32, [10, 0], .null, []), (34, .getfield 206, [8, 3], .null, []), (37, .if_icmp .ge 51, [88], .null, []), (40, .aload 0, [], .null, []), (41, .getfield 36, [10, 1], .null, []), (44, .aload 0, [], .null, []), (45, .getfield 32, [10, 0], .null, []), (48, .invokevirtual 177, [2, 8, 41], .null, []), (51, .aload 0, [], .null, []), (52, .getfield 36, [10, 1], .null, []), (55, .iload 1, [], .null, []), (56, .iload 4, [], .null, []), (58, .invokevirtual 174, [3, 8, 56], .null, []), (61, .aload 0, [], .null, []), (62, .getfield 36, [10, 1], .null, []), (65, .invokevirtual 115, [1, 8, 52], .null, []), (68, .istore 5, [], .null, []), (70, .iload 5, [], .null, []), (72, .iload 3, [], .null, []), (73, .if_icmp .ge 9, [82], .null, []), (76, .iload 5, [], .null, []), (78, .istore 3, [], .null, []), (79, .iload 4, [], .null, []), (81, .istore 2, [], .null, []), (82, .nop, [82], .null, [])]
  | 82 => [(82, .iinc 4 1, [], .int 1, []), (85, .goto (-57), [28], .null, [])]
  | 88 => [(88, .iload 2, [], .null, []), (89, .ifCond .ge 15, [104], .null, []), (92, .aload 0, [], .null, []), (93, .getfield 63, [10, 6], .null, []), (96, .aconst_null, [], .int (-1000000004), []), (98, .invokevirtual 76, [2, 2, 10], .null, []), (101, .goto 4, [105], .null, [])]
  | 104 => [(104, .iload 2, [], .null, []), (105, .nop, [105], .null, [])]
  | 105 => [(105, .ireturn, [0], .null, [])]
  | _ => []
/-- MoleSecrets.richest(I)I -/
def am_b103 : Nat → List En := fun L => match L with
  | 0 => [(0, .iload 1, [], .null, []), (1, .aconst_null, [], .int 0, []), (2, .aconst_null, [], .int 200, []), (5, .invokestatic 71, [118, 3], .null, []), (8, .ifCond .ne 13, [21], .null, []), (11, .aload 0, [], .null, []), (12, .getfield 63, [10, 6], .null, []), (15, .aconst_null, [], .int (-1000000001), []), (17, .invokevirtual 76, [2, 2, 10], .null, []), (20, .ireturn, [0], .null, [])]
  | 21 => [(21, .aload 0, [], .null, []), (22, .getfield 36, [10, 1], .null, []), (25, .aload 0, [], .null, []), (26, .getfield 32, [10, 0], .null, []), (29, .invokevirtual 177, [2, 8, 41], .null, []), (32, .aload 0, [], .null, []), (33, .getfield 36, [10, 1], .null, []), (36, .iload 1, [], .null, []), (37, .aconst_null, [], .int (-1), []), (38, .invokevirtual 174, [3, 8, 56], .null, []), (41, .aconst_null, [], .int (-1), []), (42, .istore 2, [], .null, []), (43, .aconst_null, [], .int (-1), []), (44, .istore 3, [], .null, []), (45, .aconst_null, [], .int 0, []), (46, .istore 4, [], .null, []), (48, .nop, [48], .null, [])]
  | 48 => [(48, .iload 4, [], .null, []), (50, .aload 0, [], .null, []), (51, .getfield 36, [10, 1], .null, []), (54, .getfield 206, [8, 3], .null, []), (57, .if_icmp .ge 37, [94], .null, []), (60, .aload 0, [], .null, []), (61, .getfield 36, [10, 1], .null, []), (64, .getfield 161, [8, 11], .null, []), (67, .iload 4, [], .null, []), (69, .iaload, [], .null, []), (70, .iload 3, [], .null, []), (71, .if_icmp .le 17, [88], .null, []), (74, .aload 0, [], .null, []), (75, .getfield 36, [10, 1], .null, []), (78, .getfield 161, [8, 11], .null, []), (81, .iload 4, [], .null, []), (83, .iaload, [], .null, []), (84, .istore 3, [], .null, []), (85, .iload 4, [], .null, []), (87, .istore 2, [], .null, []), (88, .nop, [88], .null, [])]
  | 88 => [(88, .iinc 4 1, [], .int 1, []), (91, .goto (-43), [48], .null, [])]
  | 94 => [(94, .iload 2, [], .null, []), (95, .ifCond .ge 15, [110], .null, []), (98, .aload 0, [], .null, []), (99, .getfield 63, [10, 6], .null, []), (102, .aconst_null, [], .int (-1000000004), []), (104, .invokevirtual 76, [2, 2, 10], .null, []), (107, .goto 4, [111], .null, [])]
  | 110 => [(110, .iload 2, [], .null, []), (111, .nop, [111], .null, [])]
  | 111 => [(111, .ireturn, [0], .null, [])]
  | _ => []
/-- MoleSecrets.feed(II)I -/
def am_b104 : Nat → List En := fun L => match L with
  | 0 => [(0, .iload 2, [], .null, []), (1, .aconst_null, [], .int 1, []), (2, .aconst_null, [], .int 4, []), (3, .invokestatic 71, [118, 3], .null, []), (6, .ifCond .ne 13, [19], .null, []), (9, .aload 0, [], .null, []), (10, .getfield 63, [10, 6], .null, []), (13, .aconst_null, [], .int (-1000000001), []), (15, .invokevirtual 76, [2, 2, 10], .null, []), (18, .ireturn, [0], .null, [])]
  | 19 => [(19, .aload 0, [], .null, []), (20, .getfield 49, [10, 4], .null, []), (23, .getfield 209, [9, 1], .null, []), (26, .iload 2, [], .null, []), (27, .iadd, [], .null, []), (28, .aconst_null, [], .int 120, []), (30, .if_icmp .le 13, [43], .null, []), (33, .aload 0, [], .null, []), (34, .getfield 63, [10, 6], .null, []), (37, .aconst_null, [], .int (-1000000002), []), (39, .invokevirtual 76, [2, 2, 10], .null, []), (42, .ireturn, [0], .null, [])]
  | 43 => [(43, .aload 0, [], .null, []), (44, .getfield 49, [10, 4], .null, []), (47, .iload 1, [], .null, []), (48, .iload 2, [], .null, []), (49, .invokevirtual 212, [3, 9, 67], .null, []), (52, .aload 0, [], .null, []), (53, .getfield 49, [10, 4], .null, []), (56, .getfield 209, [9, 1], .null, []), (59, .ireturn, [0], .null, [])]
  | _ => []
/-- MoleSecrets.wipe()I -/
def am_b105 : Nat → List En := fun L => match L with
  | 0 => [(0, .aload 0, [], .null, []), (1, .getfield 49, [10, 4], .null, []), (4, .getfield 209, [9, 1], .null, []), (7, .istore 1, [], .null, []), (8, .aload 0, [], .null, []), (9, .getfield 49, [10, 4], .null, []), (12, .aconst_null, [], .int 0, []), (13, .putfield 209, [9, 1, 0], .null, []), (16, .iload 1, [], .null, []), (17, .ireturn, [0], .null, [])]
  | _ => []
/-- MoleSecrets.shire()I -/
def am_b106 : Nat → List En := fun L => match L with
  | 0 => [(0, .aload 0, [], .null, []), (1, .getfield 36, [10, 1], .null, []), (4, .aload 0, [], .null, []), (5, .getfield 32, [10, 0], .null, []), (8, .invokevirtual 177, [2, 8, 41], .null, []), (11, .aload 0, [], .null, []), (12, .getfield 49, [10, 4], .null, []), (15, .aload 0, [], .null, []), (16, .getfield 36, [10, 1], .null, []), (19, .invokevirtual 215, [2, 9, 68], .null, []), (22, .istore 1, [], .null, []), (23, .aload 0, [], .null, []), (24, .getfield 49, [10, 4], .null, []), (27, .aconst_null, [], .int 0, []), (28, .putfield 209, [9, 1, 0], .null, []), (31, .iload 1, [], .null, []), (32, .ifCond .lt 14, [46], .null, []), (35, .aload 0, [], .null, []), (36, .getfield 32, [10, 0], .null, []), (39, .aload 0, [], .null, []), (40, .getfield 36, [10, 1], .null, []), (43, .invokevirtual 177, [2, 8, 41], .null, []), (46, .nop, [46], .null, [])]
  | 46 => [(46, .iload 1, [], .null, []), (47, .ireturn, [0], .null, [])]
  | _ => []
/-- MoleSecrets.sheet(III)I -/
def am_b107 : Nat → List En := fun L => match L with
  | 0 => [(0, .iload 1, [], .null, []), (1, .invokestatic 219, [122, 1], .null, []), (4, .ifCond .eq 25, [29], .null, []), (7, .iload 2, [], .null, []), (8, .ifCond .eq 31, [39], .null, []), (11, .iload 2, [], .null, []), (12, .aconst_null, [], .int 8, []), (14, .if_icmp .eq 25, [39], .null, []), (17, .iload 2, [], .null, []), (18, .aconst_null, [], .int 16, []), (20, .if_icmp .eq 19, [39], .null, []), (23, .iload 2, [], .null, []), (24, .aconst_null, [], .int 64, []), (26, .if_icmp .eq 13, [39], .null, []), (29, .nop, [29], .null, [])]
  | 29 => [(29, .aload 0, [], .null, []), (30, .getfield 63, [10, 6], .null, []), (33, .aconst_null, [], .int (-1000000001), []), (35, .invokevirtual 76, [2, 2, 10], .null, []), (38, .ireturn, [0], .null, [])]
  | 39 => [(39, .iload 3, [], .null, []), (40, .ifCond .ge 13, [53], .null, []), (43, .aload 0, [], .null, []), (44, .getfield 63, [10, 6], .null, []), (47, .aconst_null, [], .int (-1000000007), []), (49, .invokevirtual 76, [2, 2, 10], .null, []), (52, .ireturn, [0], .null, [])]
  | 53 => [(53, .iload 3, [], .null, []), (54, .aconst_null, [], .int 40, []), (56, .if_icmp .le 13, [69], .null, []), (59, .aload 0, [], .null, []), (60, .getfield 63, [10, 6], .null, []), (63, .aconst_null, [], .int (-1000000001), []), (65, .invokevirtual 76, [2, 2, 10], .null, []), (68, .ireturn, [0], .null, [])]
  | 69 => [(69, .aload 0, [], .null, []), (70, .getfield 56, [10, 5], .null, []), (73, .iload 1, [], .null, []), (74, .aaload, [], .null, []), (75, .iload 2, [], .null, []), (76, .iload 2, [], .null, []), (77, .ifCond .ne 7, [84], .null, []), (80, .aconst_null, [], .int 0, []), (81, .goto 4, [85], .null, [])]
  | 84 => [(84, .iload 3, [], .null, []), (85, .nop, [85], .null, [])]
  | 85 => [(85, .invokevirtual 223, [3, 7, 37], .null, []), (88, .ireturn, [0], .null, [])]
  | _ => []
/-- MoleSecrets.write(IIJ)J -/
def am_b108 : Nat → List En := fun L => match L with
  | 0 => [(0, .iload 1, [], .null, []), (1, .invokestatic 219, [122, 1], .null, []), (4, .ifCond .ne 14, [18], .null, []), (7, .aload 0, [], .null, []), (8, .getfield 63, [10, 6], .null, []), (11, .aconst_null, [], .int (-1000000001), []), (13, .invokevirtual 76, [2, 2, 10], .null, []), (16, .i2l, [], .null, []), (17, .lreturn, [], .null, [])]
  | 18 => [(18, .aload 0, [], .null, []), (19, .getfield 56, [10, 5], .null, []), (22, .iload 1, [], .null, []), (23, .aaload, [], .null, []), (24, .astore 5, [], .null, []), (26, .aload 5, [], .null, []), (28, .invokevirtual 226, [1, 7, 36], .null, []), (31, .ifCond .eq 14, [45], .null, []), (34, .aload 0, [], .null, []), (35, .getfield 63, [10, 6], .null, []), (38, .aconst_null, [], .int (-1000000006), []), (40, .invokevirtual 76, [2, 2, 10], .null, []), (43, .i2l, [], .null, []), (44, .lreturn, [], .null, [])]
  | 45 => [(45, .iload 2, [], .null, []), (46, .aconst_null, [], .int 0, []), (47, .aload 5, [], .null, []), (49, .getfield 230, [7, 1], .null, []), (52, .aconst_null, [], .int 1, []), (53, .isub, [], .null, []), (54, .invokestatic 71, [118, 3], .null, []), (57, .ifCond .ne 14, [71], .null, []), (60, .aload 0, [], .null, []), (61, .getfield 63, [10, 6], .null, []), (64, .aconst_null, [], .int (-1000000001), []), (66, .invokevirtual 76, [2, 2, 10], .null, []), (69, .i2l, [], .null, []), (70, .lreturn, [], .null, [])]
  | 71 => [(71, .aload 5, [], .null, []), (73, .getfield 233, [7, 2], .null, []), (76, .iload 2, [], .null, []), (77, .laload, [], .null, []), (78, .lstore 6, [], .null, []), (80, .aload 5, [], .null, []), (82, .iload 2, [], .null, []), (83, .lload 3, [], .null, []), (84, .invokevirtual 237, [3, 7, 39], .null, []), (87, .lload 6, [], .null, []), (89, .lreturn, [], .null, [])]
  | _ => []
/-- MoleSecrets.copy(IIIII)I -/
def am_b109 : Nat → List En := fun L => match L with
  | 0 => [(0, .iload 1, [], .null, []), (1, .invokestatic 219, [122, 1], .null, []), (4, .ifCond .eq 10, [14], .null, []), (7, .iload 3, [], .null, []), (8, .invokestatic 219, [122, 1], .null, []), (11, .ifCond .ne 13, [24], .null, []), (14, .nop, [14], .null, [])]
  | 14 => [(14, .aload 0, [], .null, []), (15, .getfield 63, [10, 6], .null, []), (18, .aconst_null, [], .int (-1000000001), []), (20, .invokevirtual 76, [2, 2, 10], .null, []), (23, .ireturn, [0], .null, [])]
  | 24 => [(24, .aload 0, [], .null, []), (25, .getfield 56, [10, 5], .null, []), (28, .iload 1, [], .null, []), (29, .aaload, [], .null, []), (30, .astore 6, [], .null, []), (32, .aload 0, [], .null, []), (33, .getfield 56, [10, 5], .null, []), (36, .iload 3, [], .null, []), (37, .aaload, [], .null, []), (38, .astore 7, [], .null, []), (40, .aload 6, [], .null, []), (42, .invokevirtual 226, [1, 7, 36], .null, []), (45, .ifCond .ne 11, [56], .null, []), (48, .aload 7, [], .null, []), (50, .invokevirtual 226, [1, 7, 36], .null, []), (53, .ifCond .eq 13, [66], .null, []), (56, .nop, [56], .null, [])]
  | 56 => [(56, .aload 0, [], .null, []), (57, .getfield 63, [10, 6], .null, []), (60, .aconst_null, [], .int (-1000000006), []), (62, .invokevirtual 76, [2, 2, 10], .null, []), (65, .ireturn, [0], .null, [])]
  | 66 => [(66, .aload 6, [], .null, []), (68, .getfield 241, [7, 0], .null, []), (71, .aload 7, [], .null, []), (73, .getfield 241, [7, 0], .null, []), (76, .if_icmp .eq 13, [89], .null, []), (79, .aload 0, [], .null, []), (80, .getfield 63, [10, 6], .null, []), (83, .aconst_null, [], .int (-1000000003), []), (85, .invokevirtual 76, [2, 2, 10], .null, []), (88, .ireturn, [0], .null, [])]
  | 89 => [(89, .aload 6, [], .null, []), (91, .iload 2, [], .null, []), (92, .iload 5, [], .null, []), (94, .invokevirtual 244, [3, 7, 38], .null, []), (97, .ifCond .eq 15, [112], .null, []), (100, .aload 7, [], .null, []), (102, .iload 4, [], .null, []), (104, .iload 5, [], .null, []), (106, .invokevirtual 244, [3, 7, 38], .null, []), (109, .ifCond .ne 13, [122], .null, []), (112, .nop, [112], .null, [])]
  | 112 => [(112, .aload 0, [], .null, []), (113, .getfield 63, [10, 6], .null, []), (116, .aconst_null, [], .int (-1000000001), []), (118, .invokevirtual 76, [2, 2, 10], .null, []), (121, .ireturn, [0], .null, [])]
  | 122 => [(122, .aload 6, [], .null, []), (124, .getfield 233, [7, 2], .null, []), (127, .iload 2, [], .null, []), (128, .aload 7, [], .null, []), (130, .getfield 233, [7, 2], .null, []), (133, .iload 4, [], .null, []), (135, .iload 5, [], .null, []), (137, .invokedynamic 248, [], .null, []), (140, .iload 5, [], .null, []), (142, .ireturn, [0], .null, [])]
  | _ => []
/-- MoleSecrets.lays(I)I -/
def am_b110 : Nat → List En := fun L => match L with
  | 0 => [(0, .aload 0, [], .null, []), (1, .iload 1, [], .null, []), (2, .invokevirtual 254, [2, 10, 124], .null, []), (5, .istore 2, [], .null, []), (6, .iload 2, [], .null, []), (7, .ifCond .eq 12, [19], .null, []), (10, .aload 0, [], .null, []), (11, .getfield 63, [10, 6], .null, []), (14, .iload 2, [], .null, []), (15, .invokevirtual 76, [2, 2, 10], .null, []), (18, .ireturn, [0], .null, [])]
  | 19 => [(19, .aload 0, [], .null, []), (20, .getfield 56, [10, 5], .null, []), (23, .iload 1, [], .null, []), (24, .aaload, [], .null, []), (25, .astore 3, [], .null, []), (26, .aconst_null, [], .int 0, []), (27, .istore 4, [], .null, []), (29, .aconst_null, [], .int 0, []), (30, .istore 5, [], .null, []), (32, .nop, [32], .null, [])]
  | 32 => [(32, .iload 5, [], .null, []), (34, .aload 3, [], .null, []), (35, .getfield 230, [7, 1], .null, []), (38, .if_icmp .ge 54, [92], .null, []), (41, .iload 5, [], .null, []), (43, .aconst_null, [], .int 30, []), (45, .if_icmp .ge 47, [92], .null, []), (48, .aload 3, [], .null, []), (49, .getfield 233, [7, 2], .null, []), (52, .iload 5, [], .null, []), (54, .laload, [], .null, []), (55, .lstore 6, [], .null, []), (57, .lload 6, [], .null, []), (59, .aconst_null, [], .long 0, []), (60, .lcmp, [], .null, []), (61, .ifCond .eq 10, [71], .null, []), (64, .lload 6, [], .null, []), (66, .aconst_null, [], .long 1, []), (67, .lcmp, [], .null, []), (68, .ifCond .ne 18, [86], .null, []), (71, .nop, [71], .null, [])]
  | 71 => [(71, .aload 0, [], .null, []), (72, .getfield 32, [10, 0], .null, []), (75, .iload 5, [], .null, []), (77, .lload 6, [], .null, []), (79, .l2i, [], .null, []), (80, .invokevirtual 84, [3, 8, 44], .null, []), (83, .iinc 4 1, [], .int 1, []), (86, .nop, [86], .null, [])]
  | 86 => [(86, .iinc 5 1, [], .int 1, []), (89, .goto (-57), [32], .null, [])]
  | 92 => [(92, .iload 4, [], .null, []), (94, .ireturn, [0], .null, [])]
  | _ => []
/-- MoleSecrets.book(II)I -/
def am_b111 : Nat → List En := fun L => match L with
  | 0 => [(0, .aload 0, [], .null, []), (1, .iload 1, [], .null, []), (2, .invokevirtual 254, [2, 10, 124], .null, []), (5, .istore 3, [], .null, []), (6, .iload 3, [], .null, []), (7, .ifCond .eq 12, [19], .null, []), (10, .aload 0, [], .null, []), (11, .getfield 63, [10, 6], .null, []), (14, .iload 3, [], .null, []), (15, .invokevirtual 76, [2, 2, 10], .null, []), (18, .ireturn, [0], .null, [])]
  | 19 => [(19, .aload 0, [], .null, []), (20, .iload 2, [], .null, []), (21, .invokevirtual 130, [2, 10, 123], .null, []), (24, .ifCond .ne 13, [37], .null, []), (27, .aload 0, [], .null, []), (28, .getfield 63, [10, 6], .null, []), (31, .aconst_null, [], .int (-1000000001), []), (33, .invokevirtual 76, [2, 2, 10], .null, []), (36, .ireturn, [0], .null, [])]
  | 37 => [(37, .aload 0, [], .null, []), (38, .getfield 56, [10, 5], .null, []), (41, .iload 1, [], .null, []), (42, .aaload, [], .null, []), (43, .astore 4, [], .null, []), (45, .aload 0, [], .null, []), (46, .getfield 36, [10, 1], .null, []), (49, .aload 0, [], .null, []), (50, .getfield 32, [10, 0], .null, []), (53, .invokevirtual 177, [2, 8, 41], .null, []), (56, .aconst_null, [], .int 0, []), (57, .istore 5, [], .null, []), (59, .nop, [59], .null, [])]
  | 59 => [(59, .iload 5, [], .null, []), (61, .aload 4, [], .null, []), (63, .getfield 230, [7, 1], .null, []), (66, .if_icmp .ge 34, [100], .null, []), (69, .aload 4, [], .null, []), (71, .iload 5, [], .null, []), (73, .aload 0, [], .null, []), (74, .getfield 36, [10, 1], .null, []), (77, .getfield 149, [8, 7], .null, []), (80, .iload 2, [], .null, []), (81, .iaload, [], .null, []), (82, .i2l, [], .null, []), (83, .invokevirtual 237, [3, 7, 39], .null, []), (86, .aload 0, [], .null, []), (87, .getfield 36, [10, 1], .null, []), (90, .aconst_null, [], .int (-1), []), (91, .invokevirtual 257, [2, 8, 57], .null, []), (94, .iinc 5 1, [], .int 1, []), (97, .goto (-38), [59], .null, [])]
  | 100 => [(100, .aload 4, [], .null, []), (102, .getfield 230, [7, 1], .null, []), (105, .ireturn, [0], .null, [])]
  | _ => []
/-- MoleSecrets.read(II)I -/
def am_b112 : Nat → List En := fun L => match L with
  | 0 => [(0, .aload 0, [], .null, []), (1, .iload 1, [], .null, []), (2, .invokevirtual 254, [2, 10, 124], .null, []), (5, .istore 3, [], .null, []), (6, .iload 3, [], .null, []), (7, .ifCond .eq 12, [19], .null, []), (10, .aload 0, [], .null, []), (11, .getfield 63, [10, 6], .null, []), (14, .iload 3, [], .null, []), (15, .invokevirtual 76, [2, 2, 10], .null, []), (18, .ireturn, [0], .null, [])]
  | 19 => [(19, .aload 0, [], .null, []), (20, .iload 2, [], .null, []), (21, .invokevirtual 130, [2, 10, 123], .null, []), (24, .ifCond .ne 13, [37], .null, []), (27, .aload 0, [], .null, []), (28, .getfield 63, [10, 6], .null, []), (31, .aconst_null, [], .int (-1000000001), []), (33, .invokevirtual 76, [2, 2, 10], .null, []), (36, .ireturn, [0], .null, [])]
  | 37 => [(37, .aconst_null, [], .int 0, []), (38, .istore 4, [], .null, []), (40, .aconst_null, [], .int 0, []), (41, .istore 5, [], .null, []), (43, .nop, [43], .null, [])]
  | 43 => [(43, .iload 5, [], .null, []), (45, .aconst_null, [], .int 6, []), (47, .if_icmp .ge 75, [122], .null, []), (50, .aconst_null, [], .int 0, []), (51, .istore 6, [], .null, []), (53, .nop, [53], .null, [])]
  | 53 => [(53, .iload 6, [], .null, []), (55, .aconst_null, [], .int 30, []), (57, .if_icmp .ge 59, [116], .null, []), (60, .aload 0, [], .null, []), (61, .getfield 36, [10, 1], .null, []), (64, .aload 0, [], .null, []), (65, .getfield 32, [10, 0], .null, []), (68, .invokevirtual 177, [2, 8, 41], .null, []), (71, .aload 0, [], .null, []), (72, .getfield 36, [10, 1], .null, []), (75, .getfield 164, [8, 6], .null, []), (78, .iload 2, [], .null, []), (79, .iload 5, [], .null, []), (81, .iastore, [], .null, []), (82, .aload 0, [], .null, []), (83, .getfield 36, [10, 1], .null, []), (86, .getfield 155, [8, 9], .null, []), (89, .iload 2, [], .null, []), (90, .iload 6, [], .null, []), (92, .iastore, [], .null, []), (93, .aload 0, [], .null, []), (94, .iload 2, [], .null, []), (95, .aload 0, [], .null, []), (96, .getfield 56, [10, 5], .null, []), (99, .iload 1, [], .null, []), (100, .aaload, [], .null, []), (101, .invokevirtual 261, [3, 10, 130], .null, []), (104, .ifCond .eq 6, [110], .null, []), (107, .iinc 4 1, [], .int 1, []), (110, .nop, [110], .null, [])]
  | 110 => [(110, .iinc 6 1, [], .int 1, []), (113, .goto (-60), [53], .null, [])]
  | 116 => [(116, .iinc 5 1, [], .int 1, []), (119, .goto (-76), [43], .null, [])]
  | 122 => [(122, .iload 4, [], .null, []), (124, .ireturn, [0], .null, [])]
  | _ => []
/-- MoleSecrets.image()I -/
def am_b113 : Nat → List En := fun L => match L with
  | 0 => [(0, .aload 0, [], .null, []), (1, .getfield 39, [10, 2], .null, []), (4, .aload 0, [], .null, []), (5, .getfield 32, [10, 0], .null, []), (8, .invokevirtual 177, [2, 8, 41], .null, []), (11, .aload 0, [], .null, []), (12, .aconst_null, [], .int 1, []), (13, .putfield 42, [10, 3, 1], .null, []), (16, .aconst_null, [], .int 1, []), (17, .ireturn, [0], .null, [])]
  | _ => []
/-- MoleSecrets.undo()I -/
def am_b114 : Nat → List En := fun L => match L with
  | 0 => [(0, .aload 0, [], .null, []), (1, .getfield 42, [10, 3], .null, []), (4, .ifCond .ne 13, [17], .null, []), (7, .aload 0, [], .null, []), (8, .getfield 63, [10, 6], .null, []), (11, .aconst_null, [], .int (-1000000004), []), (13, .invokevirtual 76, [2, 2, 10], .null, []), (16, .ireturn, [0], .null, [])]
  | 17 => [(17, .aload 0, [], .null, []), (18, .getfield 32, [10, 0], .null, []), (21, .aload 0, [], .null, []), (22, .getfield 39, [10, 2], .null, []), (25, .invokevirtual 177, [2, 8, 41], .null, []), (28, .aload 0, [], .null, []), (29, .getfield 32, [10, 0], .null, []), (32, .getfield 206, [8, 3], .null, []), (35, .ireturn, [0], .null, [])]
  | _ => []
/-- MoleSecrets.tear()I -/
def am_b115 : Nat → List En := fun L => match L with
  | 0 => [(0, .aload 0, [], .null, []), (1, .getfield 42, [10, 3], .null, []), (4, .ifCond .eq 7, [11], .null, []), (7, .aconst_null, [], .int 1, []), (8, .goto 4, [12], .null, [])]
  | 11 => [(11, .aconst_null, [], .int 0, []), (12, .nop, [12], .null, [])]
  | 12 => [(12, .istore 1, [], .null, []), (13, .aload 0, [], .null, []), (14, .aconst_null, [], .int 0, []), (15, .putfield 42, [10, 3, 1], .null, []), (18, .iload 1, [], .null, []), (19, .ireturn, [0], .null, [])]
  | _ => []
/-- MoleSecrets.count(I)I -/
def am_b116 : Nat → List En := fun L => match L with
  | 0 => [(0, .iload 1, [], .null, []), (1, .tableswitch 66 0 3 #[31, 39, 47, 58], [67], .null, [(0, 32), (1, 40), (2, 48), (3, 59)])]
  | 32 => [(32, .aload 0, [], .null, []), (33, .getfield 32, [10, 0], .null, []), (36, .getfield 206, [8, 3], .null, []), (39, .ireturn, [0], .null, [])]
  | 40 => [(40, .aload 0, [], .null, []), (41, .getfield 49, [10, 4], .null, []), (44, .getfield 209, [9, 1], .null, []), (47, .ireturn, [0], .null, [])]
  | 48 => [(48, .aload 0, [], .null, []), (49, .getfield 32, [10, 0], .null, []), (52, .getfield 105, [8, 2], .null, []), (55, .invokestatic 196, [231, 1], .null, []), (58, .ireturn, [0], .null, [])]
  | 59 => [(59, .aload 0, [], .null, []), (60, .getfield 32, [10, 0], .null, []), (63, .invokevirtual 108, [1, 8, 51], .null, []), (66, .ireturn, [0], .null, [])]
  | 67 => [(67, .aload 0, [], .null, []), (68, .getfield 63, [10, 6], .null, []), (71, .aconst_null, [], .int (-1000000001), []), (73, .invokevirtual 76, [2, 2, 10], .null, []), (76, .ireturn, [0], .null, [])]
  | _ => []
/-- MoleSecrets.status(I)I -/
def am_b117 : Nat → List En := fun L => match L with
  | 0 => [(0, .iload 1, [], .null, []), (1, .aconst_null, [], .int (-1), []), (2, .aconst_null, [], .int 6, []), (4, .invokestatic 71, [118, 3], .null, []), (7, .ifCond .ne 13, [20], .null, []), (10, .aload 0, [], .null, []), (11, .getfield 63, [10, 6], .null, []), (14, .aconst_null, [], .int (-1000000001), []), (16, .invokevirtual 76, [2, 2, 10], .null, []), (19, .ireturn, [0], .null, [])]
  | 20 => [(20, .iload 1, [], .null, []), (21, .ifCond .ge 13, [34], .null, []), (24, .aload 0, [], .null, []), (25, .getfield 63, [10, 6], .null, []), (28, .invokevirtual 265, [1, 2, 11], .null, []), (31, .goto 12, [43], .null, [])]
  | 34 => [(34, .aload 0, [], .null, []), (35, .getfield 63, [10, 6], .null, []), (38, .getfield 268, [2, 0], .null, []), (41, .iload 1, [], .null, []), (42, .iaload, [], .null, []), (43, .nop, [43], .null, [])]
  | 43 => [(43, .ireturn, [0], .null, [])]
  | _ => []
/-- MoleSecrets.within(III)Z -/
def am_b118 : Nat → List En := fun L => match L with
  | 0 => [(0, .iload 0, [], .null, []), (1, .iload 1, [], .null, []), (2, .if_icmp .lt 12, [14], .null, []), (5, .iload 0, [], .null, []), (6, .iload 2, [], .null, []), (7, .if_icmp .gt 7, [14], .null, []), (10, .aconst_null, [], .int 1, []), (11, .goto 4, [15], .null, [])]
  | 14 => [(14, .aconst_null, [], .int 0, []), (15, .nop, [15], .null, [])]
  | 15 => [(15, .ireturn, [1], .null, [])]
  | _ => []
/-- MoleSecrets.isCell(I)Z -/
def am_b119 : Nat → List En := fun L => match L with
  | 0 => [(0, .iload 0, [], .null, []), (1, .aconst_null, [], .int 0, []), (2, .aconst_null, [], .int 29, []), (4, .invokestatic 71, [118, 3], .null, []), (7, .ireturn, [1], .null, [])]
  | _ => []
/-- MoleSecrets.isSecret(I)Z -/
def am_b120 : Nat → List En := fun L => match L with
  | 0 => [(0, .iload 0, [], .null, []), (1, .aconst_null, [], .int 0, []), (2, .aconst_null, [], .int 5, []), (3, .invokestatic 71, [118, 3], .null, []), (6, .ireturn, [1], .null, [])]
  | _ => []
/-- MoleSecrets.isKind(I)Z -/
def am_b121 : Nat → List En := fun L => match L with
  | 0 => [(0, .iload 0, [], .null, []), (1, .aconst_null, [], .int 0, []), (2, .aconst_null, [], .int 5, []), (3, .invokestatic 71, [118, 3], .null, []), (6, .ireturn, [1], .null, [])]
  | _ => []
/-- MoleSecrets.isSheet(I)Z -/
def am_b122 : Nat → List En := fun L => match L with
  | 0 => [(0, .iload 0, [], .null, []), (1, .aconst_null, [], .int 0, []), (2, .aconst_null, [], .int 3, []), (3, .invokestatic 71, [118, 3], .null, []), (6, .ireturn, [1], .null, [])]
  | _ => []
/-- MoleSecrets.isMole(I)Z -/
def am_b123 : Nat → List En := fun L => match L with
  | 0 => [(0, .iload 1, [], .null, []), (1, .aconst_null, [], .int 0, []), (2, .aload 0, [], .null, []), (3, .getfield 32, [10, 0], .null, []), (6, .getfield 206, [8, 3], .null, []), (9, .aconst_null, [], .int 1, []), (10, .isub, [], .null, []), (11, .invokestatic 71, [118, 3], .null, []), (14, .ireturn, [1], .null, [])]
  | _ => []
/-- MoleSecrets.sheetFinding(I)I -/
def am_b124 : Nat → List En := fun L => match L with
  | 0 => [(0, .iload 1, [], .null, []), (1, .invokestatic 219, [122, 1], .null, []), (4, .ifCond .ne 6, [10], .null, []), (7, .aconst_null, [], .int (-1000000001), []), (9, .ireturn, [0], .null, [])]
  | 10 => [(10, .aload 0, [], .null, []), (11, .getfield 56, [10, 5], .null, []), (14, .iload 1, [], .null, []), (15, .aaload, [], .null, []), (16, .invokevirtual 226, [1, 7, 36], .null, []), (19, .ifCond .eq 8, [27], .null, []), (22, .aconst_null, [], .int (-1000000006), []), (24, .goto 4, [28], .null, [])]
  | 27 => [(27, .aconst_null, [], .int 0, []), (28, .nop, [28], .null, [])]
  | 28 => [(28, .ireturn, [0], .null, [])]
  | _ => []
/-- MoleSecrets.mostOf(I)I -/
def am_b125 : Nat → List En := fun L => match L with
  | 0 => [(0, .iload 0, [], .null, []), (1, .lookupswitch 33 #[(4, 27), (5, 29)], [34], .null, [(4, 28), (5, 30)])]
  | 28 => [(28, .aconst_null, [], .int 1, []), (29, .ireturn, [0], .null, [])]
  | 30 => [(30, .aconst_null, [], .int 9999, []), (33, .ireturn, [0], .null, [])]
  | 34 => [(34, .aconst_null, [], .int 29, []), (36, .ireturn, [0], .null, [])]
  | _ => []
/-- MoleSecrets.isOneOf(LMoleSecrets$Mole;I)Z -/
def am_b126 : Nat → List En := fun L => match L with
  | 0 => [(0, .iload 1, [], .null, []), (1, .tableswitch 60 1 5 #[35, 40, 45, 50, 55], [61], .null, [(1, 36), (2, 41), (3, 46), (4, 51), (5, 56)])]
  | 36 => [(36, .aload 0, [], .null, []), (37, .instanceof 12, [1, 4], .null, []), (40, .ireturn, [1], .null, [])]
  | 41 => [(41, .aload 0, [], .null, []), (42, .instanceof 15, [0, 3], .null, []), (45, .ireturn, [1], .null, [])]
  | 46 => [(46, .aload 0, [], .null, []), (47, .instanceof 18, [6], .null, []), (50, .ireturn, [1], .null, [])]
  | 51 => [(51, .aload 0, [], .null, []), (52, .instanceof 21, [4], .null, []), (55, .ireturn, [1], .null, [])]
  | 56 => [(56, .aload 0, [], .null, []), (57, .instanceof 24, [3], .null, []), (60, .ireturn, [1], .null, [])]
  | 61 => [(61, .aconst_null, [], .int 1, []), (62, .ireturn, [1], .null, [])]
  | _ => []
/-- MoleSecrets.cellFact(II)I -/
def am_b127 : Nat → List En := fun L => match L with
  | 0 => [(0, .iload 2, [], .null, []), (1, .tableswitch 63 0 2 #[27, 44, 54], [64], .null, [(0, 28), (1, 45), (2, 55)])]
  | 28 => [(28, .aload 0, [], .null, []), (29, .getfield 32, [10, 0], .null, []), (32, .iload 1, [], .null, []), (33, .invokevirtual 202, [2, 8, 45], .null, []), (36, .ifCond .eq 7, [43], .null, []), (39, .aconst_null, [], .int 1, []), (40, .goto 4, [44], .null, [])]
  | 43 => [(43, .aconst_null, [], .int 0, []), (44, .nop, [44], .null, [])]
  | 44 => [(44, .ireturn, [0], .null, [])]
  | 45 => [(45, .aload 0, [], .null, []), (46, .getfield 32, [10, 0], .null, []), (49, .getfield 88, [8, 4], .null, []), (52, .iload 1, [], .null, []), (53, .iaload, [], .null, []), (54, .ireturn, [0], .null, [])]
  | 55 => [(55, .aload 0, [], .null, []), (56, .getfield 32, [10, 0], .null, []), (59, .iload 1, [], .null, []), (60, .invokevirtual 271, [2, 8, 49], .null, []), (63, .ireturn, [0], .null, [])]
  | 64 => [(64, .aload 0, [], .null, []), (65, .getfield 32, [10, 0], .null, []), (68, .iload 1, [], .null, []), (69, .invokevirtual 112, [2, 8, 50], .null, []), (72, .ireturn, [0], .null, [])]
  | _ => []
/-- MoleSecrets.moleFact(II)I -/
def am_b128 : Nat → List En := fun L => match L with
  | 0 => [(0, .iload 2, [], .null, []), (1, .tableswitch 144 0 8 #[51, 61, 71, 81, 91, 101, 111, 121, 130], [145], .null, [(0, 52), (1, 62), (2, 72), (3, 82), (4, 92), (5, 102), (6, 112), (7, 122), (8, 131)])]
  | 52 => [(52, .aload 0, [], .null, []), (53, .getfield 32, [10, 0], .null, []), (56, .getfield 164, [8, 6], .null, []), (59, .iload 1, [], .null, []), (60, .iaload, [], .null, []), (61, .ireturn, [0], .null, [])]
  | 62 => [(62, .aload 0, [], .null, []), (63, .getfield 32, [10, 0], .null, []), (66, .getfield 149, [8, 7], .null, []), (69, .iload 1, [], .null, []), (70, .iaload, [], .null, []), (71, .ireturn, [0], .null, [])]
  | 72 => [(72, .aload 0, [], .null, []), (73, .getfield 32, [10, 0], .null, []), (76, .getfield 152, [8, 8], .null, []), (79, .iload 1, [], .null, []), (80, .iaload, [], .null, []), (81, .ireturn, [0], .null, [])]
  | 82 => [(82, .aload 0, [], .null, []), (83, .getfield 32, [10, 0], .null, []), (86, .getfield 155, [8, 9], .null, []), (89, .iload 1, [], .null, []), (90, .iaload, [], .null, []), (91, .ireturn, [0], .null, [])]
  | 92 => [(92, .aload 0, [], .null, []), (93, .getfield 32, [10, 0], .null, []), (96, .getfield 158, [8, 10], .null, []), (99, .iload 1, [], .null, []), (100, .iaload, [], .null, []), (101, .ireturn, [0], .null, [])]
  | 102 => [(102, .aload 0, [], .null, []), (103, .getfield 32, [10, 0], .null, []), (106, .getfield 161, [8, 11], .null, []), (109, .iload 1, [], .null, []), (110, .iaload, [], .null, []), (111, .ireturn, [0], .null, [])]
  | 112 => [(112, .aload 0, [], .null, []), (113, .getfield 32, [10, 0], .null, []), (116, .getfield 181, [8, 12], .null, []), (119, .iload 1, [], .null, []), (120, .iaload, [], .null, []), (121, .ireturn, [0], .null, [])]
  | 122 => [(122, .aload 0, [], .null, []), (123, .getfield 32, [10, 0], .null, []), (126, .iload 1, [], .null, []), (127, .invokevirtual 274, [2, 8, 48], .null, []), (130, .ireturn, [0], .null, [])]
  | 131 => [(131, .aconst_null, [], .int 1, []), (132, .aload 0, [], .null, []), (133, .getfield 32, [10, 0], .null, []), (136, .iload 1, [], .null, []), (137, .invokevirtual 136, [2, 8, 47], .null, []), (140, .invokevirtual 277, [1, 5, 24, 0, 24, 1, 6, 3, 24, 4, 6, 6, 31], .null, []), (143, .iadd, [], .null, []), (144, .ireturn, [0], .null, [])]
  | 145 => [(145, .aload 0, [], .null, []), (146, .getfield 32, [10, 0], .null, []), (149, .iload 1, [], .null, []), (150, .invokevirtual 136, [2, 8, 47], .null, []), (153, .aload 0, [], .null, []), (154, .getfield 32, [10, 0], .null, []), (157, .getfield 149, [8, 7], .null, []), (160, .iload 1, [], .null, []), (161, .iaload, [], .null, []), (162, .aconst_null, [], .int 6, []), (164, .idiv, [], .null, []), (165, .invokevirtual 280, [2, 5, 25, 0, 25, 1, 7, 3, 25, 4, 19, 6, 32], .null, []), (168, .ifCond .eq 7, [175], .null, []), (171, .aconst_null, [], .int 1, []), (172, .goto 4, [176], .null, [])]
  | 175 => [(175, .aconst_null, [], .int 0, []), (176, .nop, [176], .null, [])]
  | 176 => [(176, .ireturn, [0], .null, [])]
  | _ => []
/-- MoleSecrets.foundWithin(I)I -/
def am_b129 : Nat → List En := fun L => match L with
  | 0 => [(0, .iload 1, [], .null, []), (1, .aconst_null, [], .int 200, []), (4, .if_icmp .le 15, [19], .null, []), (7, .aload 0, [], .null, []), (8, .getfield 63, [10, 6], .null, []), (11, .aconst_null, [], .int (-1000000004), []), (13, .invokevirtual 76, [2, 2, 10], .null, []), (16, .goto 4, [20], .null, [])]
  | 19 => [(19, .iload 1, [], .null, []), (20, .nop, [20], .null, [])]
  | 20 => [(20, .ireturn, [0], .null, [])]
  | _ => []
/-- MoleSecrets.goesAs(ILMoleSecrets$Sheet;)Z -/
def am_b130 : Nat → List En := fun L => match L with
  | 0 => [(0, .aconst_null, [], .int 0, []), (1, .istore 3, [], .null, []), (2, .nop, [2], .null, [])]
  | 2 => [(2, .iload 3, [], .null, []), (3, .aload 2, [], .null, []), (4, .getfield 230, [7, 1], .null, []), (7, .if_icmp .ge 39, [46], .null, []), (10, .aload 2, [], .null, []), (11, .getfield 233, [7, 2], .null, []), (14, .iload 3, [], .null, []), (15, .laload, [], .null, []), (16, .aload 0, [], .null, []), (17, .getfield 36, [10, 1], .null, []), (20, .getfield 149, [8, 7], .null, []), (23, .iload 1, [], .null, []), (24, .iaload, [], .null, []), (25, .i2l, [], .null, []), (26, .lcmp, [], .null, []), (27, .ifCond .eq 5, [32], .null, []), (30, .aconst_null, [], .int 0, []), (31, .ireturn, [1], .null, [])]
  | 32 => [(32, .aload 0, [], .null, []), (33, .getfield 36, [10, 1], .null, []), (36, .aconst_null, [], .int (-1), []), (37, .invokevirtual 257, [2, 8, 57], .null, []), (40, .iinc 3 1, [], .int 1, []), (43, .goto (-41), [2], .null, [])]
  | 46 => [(46, .aconst_null, [], .int 1, []), (47, .ireturn, [1], .null, [])]
  | _ => []
/-- MoleSecretsModel.<init>()V -/
def am_b131 : Nat → List En := fun L => match L with
  | 0 => [(0, .aload 0, [], .null, []), (1, .monitorexit, [1], .null, []), (4, .aload 0, [], .null, []), (5, .aconst_null, [], .int 110, []), (7, .newarray .int, [], .null, []), (9, .putfield 7, [11, 0, 2], .null, []), (12, .aload 0, [], .null, []), (13, .aconst_null, [], .int 110, []), (15, .newarray .int, [], .null, []), (17, .putfield 13, [11, 1, 2], .null, []), (20, .aload 0, [], .null, []), (21, .aconst_null, [], .int 110, []), (23, .newarray .int, [], .null, []), (25, .putfield 16, [11, 2, 2], .null, []), (28, .aload 0, [], .null, []), (29, .aconst_null, [], .int 110, []), (31, .newarray .int, [], .null, []), (33, .putfield 19, [11, 3, 2], .null, []), (36, .aload 0, [], .null, []), (37, .aconst_null, [], .int 7, []), (39, .newarray .int, [], .null, []), (41, .putfield 22, [11, 4, 2], .null, []), (44, .aload 0, [], .null, []), (45, .aconst_null, [], .int (-1), []), (46, .putfield 25, [11, 6, 0], .null, []), (49, .aload 0, [], .null, []), (50, .aconst_null, [], .int 120, []), (52, .newarray .int, [], .null, []), (54, .putfield 29, [11, 7, 2], .null, []), (57, .aload 0, [], .null, []), (58, .aconst_null, [], .int 4, []), (59, .newarray .int, [], .null, []), (61, .putfield 32, [11, 13, 2], .null, []), (64, .aload 0, [], .null, []), (65, .aconst_null, [], .int 4, []), (66, .newarray .int, [], .null, []), (68, .putfield 35, [11, 14, 2], .null, []), (71, .aload 0, [], .null, []), (72, .aconst_null, [], .int 160, []), (75, .newarray .long, [], .null, []), (77, .putfield 38, [11, 15, 2], .null, []), (80, .aload 0, [], .null, []), (81, .aconst_null, [], .int 40, []), (83, .newarray .long, [], .null, []), (85, .putfield 42, [11, 16, 2], .null, []), (88, .aconst_null, [], .int 0, []), (89, .istore 1, [], .null, []), (90, .nop, [90], .null, [])]
  | 90 => [(90, .iload 1, [], .null, []), (91, .aconst_null, [], .int 6, []), (93, .if_icmp .ge 19, [112], .null, []), (96, .aload 0, [], .null, []), (97, .getfield 7, [11, 0], .null, []), (100, .aconst_null, [], .int 104, []), (102, .iload 1, [], .null, []), (103, .iadd, [], .null, []), (104, .aconst_null, [], .int (-1), []), (105, .iastore, [], .null, []), (106, .iinc 1 1, [], .int 1, []), (109, .goto (-19), [90], .null, [])]
  | 112 => [(112, .return_, [], .null, [])]
  | _ => []
/-- MoleSecretsModel.in(JJJ)Z -/
def am_b132 : Nat → List En := fun L => match L with
  | 0 => [(0, .lload 0, [], .null, []), (1, .lload 2, [], .null, []), (2, .lcmp, [], .null, []), (3, .ifCond .lt 14, [17], .null, []), (6, .lload 0, [], .null, []), (7, .lload 4, [], .null, []), (9, .lcmp, [], .null, []), (10, .ifCond .gt 7, [17], .null, []), (13, .aconst_null, [], .int 1, []), (14, .goto 4, [18], .null, [])]
  | 17 => [(17, .aconst_null, [], .int 0, []), (18, .nop, [18], .null, [])]
  | 18 => [(18, .ireturn, [1], .null, [])]
  | _ => []
/-- MoleSecretsModel.finds(I)I -/
def am_b133 : Nat → List En := fun L => match L with
  | 0 => [(0, .aload 0, [], .null, []), (1, .getfield 22, [11, 4], .null, []), (4, .aconst_null, [], .int (-1000000001), []), (6, .iload 1, [], .null, []), (7, .isub, [], .null, []), (8, .dup2, [], .null, []), (9, .iaload, [], .null, []), (10, .aconst_null, [], .int 1, []), (11, .iadd, [], .null, []), (12, .iastore, [], .null, []), (13, .iload 1, [], .null, []), (14, .ireturn, [0], .null, [])]
  | _ => []
/-- MoleSecretsModel.saves()V -/
def am_b134 : Nat → List En := fun L => match L with
  | 0 => [(0, .aconst_null, [], .int 0, []), (1, .istore 1, [], .null, []), (2, .nop, [2], .null, [])]
  | 2 => [(2, .iload 1, [], .null, []), (3, .aconst_null, [], .int 110, []), (5, .if_icmp .ge 21, [26], .null, []), (8, .aload 0, [], .null, []), (9, .getfield 16, [11, 2], .null, []), (12, .iload 1, [], .null, []), (13, .aload 0, [], .null, []), (14, .getfield 7, [11, 0], .null, []), (17, .iload 1, [], .null, []), (18, .iaload, [], .null, []), (19, .iastore, [], .null, []), (20, .iinc 1 1, [], .int 1, []), (23, .goto (-21), [2], .null, [])]
  | 26 => [(26, .return_, [], .null, [])]
  | _ => []
/-- MoleSecretsModel.putsBack()V -/
def am_b135 : Nat → List En := fun L => match L with
  | 0 => [(0, .aconst_null, [], .int 0, []), (1, .istore 1, [], .null, []), (2, .nop, [2], .null, [])]
  | 2 => [(2, .iload 1, [], .null, []), (3, .aconst_null, [], .int 110, []), (5, .if_icmp .ge 21, [26], .null, []), (8, .aload 0, [], .null, []), (9, .getfield 7, [11, 0], .null, []), (12, .iload 1, [], .null, []), (13, .aload 0, [], .null, []), (14, .getfield 16, [11, 2], .null, []), (17, .iload 1, [], .null, []), (18, .iaload, [], .null, []), (19, .iastore, [], .null, []), (20, .iinc 1 1, [], .int 1, []), (23, .goto (-21), [2], .null, [])]
  | 26 => [(26, .return_, [], .null, [])]
  | _ => []
/-- MoleSecretsModel.laysAside()V -/
def am_b136 : Nat → List En := fun L => match L with
  | 0 => [(0, .aconst_null, [], .int 0, []), (1, .istore 1, [], .null, []), (2, .nop, [2], .null, [])]
  | 2 => [(2, .iload 1, [], .null, []), (3, .aconst_null, [], .int 110, []), (5, .if_icmp .ge 21, [26], .null, []), (8, .aload 0, [], .null, []), (9, .getfield 19, [11, 3], .null, []), (12, .iload 1, [], .null, []), (13, .aload 0, [], .null, []), (14, .getfield 7, [11, 0], .null, []), (17, .iload 1, [], .null, []), (18, .iaload, [], .null, []), (19, .iastore, [], .null, []), (20, .iinc 1 1, [], .int 1, []), (23, .goto (-21), [2], .null, [])]
  | 26 => [(26, .return_, [], .null, [])]
  | _ => []
/-- MoleSecretsModel.takesBack(I)I -/
def am_b137 : Nat → List En := fun L => match L with
  | 0 => [(0, .aconst_null, [], .int 0, []), (1, .istore 2, [], .null, []), (2, .nop, [2], .null, [])]
  | 2 => [(2, .iload 2, [], .null, []), (3, .aconst_null, [], .int 110, []), (5, .if_icmp .ge 21, [26], .null, []), (8, .aload 0, [], .null, []), (9, .getfield 7, [11, 0], .null, []), (12, .iload 2, [], .null, []), (13, .aload 0, [], .null, []), (14, .getfield 19, [11, 3], .null, []), (17, .iload 2, [], .null, []), (18, .iaload, [], .null, []), (19, .iastore, [], .null, []), (20, .iinc 2 1, [], .int 1, []), (23, .goto (-21), [2], .null, [])]
  | 26 => [(26, .iload 1, [], .null, []), (27, .ireturn, [0], .null, [])]
  | _ => []
/-- MoleSecretsModel.becomes(II)I -/
def am_b138 : Nat → List En := fun L => match L with
  | 0 => [(0, .aload 0, [], .null, []), (1, .getfield 7, [11, 0], .null, []), (4, .iload 1, [], .null, []), (5, .iaload, [], .null, []), (6, .istore 3, [], .null, []), (7, .aload 0, [], .null, []), (8, .getfield 7, [11, 0], .null, []), (11, .iload 1, [], .null, []), (12, .iload 2, [], .null, []), (13, .iastore, [], .null, []), (14, .iload 3, [], .null, []), (15, .ireturn, [0], .null, [])]
  | _ => []
/-- MoleSecretsModel.cellSpot(II)I -/
def am_b139 : Nat → List En := fun L => match L with
  | 0 => [(0, .aconst_null, [], .int 2, []), (1, .aconst_null, [], .int 2, []), (2, .iload 0, [], .null, []), (3, .imul, [], .null, []), (4, .iadd, [], .null, []), (5, .iload 1, [], .null, []), (6, .iadd, [], .null, []), (7, .ireturn, [0], .null, [])]
  | _ => []
/-- MoleSecretsModel.spot(II)I -/
def am_b140 : Nat → List En := fun L => match L with
  | 0 => [(0, .aconst_null, [], .int 62, []), (2, .aconst_null, [], .int 7, []), (4, .iload 0, [], .null, []), (5, .imul, [], .null, []), (6, .iadd, [], .null, []), (7, .iload 1, [], .null, []), (8, .iadd, [], .null, []), (9, .ireturn, [0], .null, [])]
  | _ => []
/-- MoleSecretsModel.its(II)I -/
def am_b141 : Nat → List En := fun L => match L with
  | 0 => [(0, .aload 0, [], .null, []), (1, .getfield 7, [11, 0], .null, []), (4, .iload 1, [], .null, []), (5, .iload 2, [], .null, []), (6, .invokestatic 46, [140, 2], .null, []), (9, .iaload, [], .null, []), (10, .ireturn, [0], .null, [])]
  | _ => []
/-- MoleSecretsModel.isDug(I)Z -/
def am_b142 : Nat → List En := fun L => match L with
  | 0 => [(0, .aload 0, [], .null, []), (1, .getfield 7, [11, 0], .null, []), (4, .iload 1, [], .null, []), (5, .aconst_null, [], .int 0, []), (6, .invokestatic 50, [139, 2], .null, []), (9, .iaload, [], .null, []), (10, .aconst_null, [], .int 1, []), (11, .if_icmp .ne 7, [18], .null, []), (14, .aconst_null, [], .int 1, []), (15, .goto 4, [19], .null, [])]
  | 18 => [(18, .aconst_null, [], .int 0, []), (19, .nop, [19], .null, [])]
  | 19 => [(19, .ireturn, [1], .null, [])]
  | _ => []
/-- MoleSecretsModel.isCell(I)Z -/
def am_b143 : Nat → List En := fun L => match L with
  | 0 => [(0, .iload 0, [], .null, []), (1, .i2l, [], .null, []), (2, .aconst_null, [], .long 0, []), (3, .aconst_null, [], .long 29, []), (6, .invokestatic 55, [132, 3], .null, []), (9, .ireturn, [1], .null, [])]
  | _ => []
/-- MoleSecretsModel.isSecret(I)Z -/
def am_b144 : Nat → List En := fun L => match L with
  | 0 => [(0, .iload 0, [], .null, []), (1, .i2l, [], .null, []), (2, .aconst_null, [], .long 0, []), (3, .aconst_null, [], .long 5, []), (6, .invokestatic 55, [132, 3], .null, []), (9, .ireturn, [1], .null, [])]
  | _ => []
/-- MoleSecretsModel.isMole(I)Z -/
def am_b145 : Nat → List En := fun L => match L with
  | 0 => [(0, .iload 1, [], .null, []), (1, .i2l, [], .null, []), (2, .aconst_null, [], .long 0, []), (3, .aload 0, [], .null, []), (4, .getfield 7, [11, 0], .null, []), (7, .aconst_null, [], .int 1, []), (8, .iaload, [], .null, []), (9, .aconst_null, [], .int 1, []), (10, .isub, [], .null, []), (11, .i2l, [], .null, []), (12, .invokestatic 55, [132, 3], .null, []), (15, .ireturn, [1], .null, [])]
  | _ => []
/-- MoleSecretsModel.isKind(I)Z -/
def am_b146 : Nat → List En := fun L => match L with
  | 0 => [(0, .iload 0, [], .null, []), (1, .i2l, [], .null, []), (2, .aconst_null, [], .long 0, []), (3, .aconst_null, [], .long 5, []), (6, .invokestatic 55, [132, 3], .null, []), (9, .ireturn, [1], .null, [])]
  | _ => []
/-- MoleSecretsModel.heldTo(II)I -/
def am_b147 : Nat → List En := fun L => match L with
  | 0 => [(0, .iload 0, [], .null, []), (1, .iload 1, [], .null, []), (2, .if_icmp .le 7, [9], .null, []), (5, .iload 1, [], .null, []), (6, .goto 4, [10], .null, [])]
  | 9 => [(9, .iload 0, [], .null, []), (10, .nop, [10], .null, [])]
  | 10 => [(10, .ireturn, [0], .null, [])]
  | _ => []
/-- MoleSecretsModel.heaps()I -/
def am_b148 : Nat → List En := fun L => match L with
  | 0 => [(0, .aconst_null, [], .int 0, []), (1, .istore 1, [], .null, []), (2, .aconst_null, [], .int 0, []), (3, .istore 2, [], .null, []), (4, .nop, [4], .null, [])]
  | 4 => [(4, .iload 2, [], .null, []), (5, .aconst_null, [], .int 30, []), (7, .if_icmp .ge 22, [29], .null, []), (10, .iload 1, [], .null, []), (11, .aload 0, [], .null, []), (12, .getfield 7, [11, 0], .null, []), (15, .iload 2, [], .null, []), (16, .aconst_null, [], .int 1, []), (17, .invokestatic 50, [139, 2], .null, []), (20, .iaload, [], .null, []), (21, .iadd, [], .null, []), (22, .istore 1, [], .null, []), (23, .iinc 2 1, [], .int 1, []), (26, .goto (-22), [4], .null, [])]
  | 29 => [(29, .iload 1, [], .null, []), (30, .ireturn, [0], .null, [])]
  | _ => []
/-- MoleSecretsModel.dugOnes()I -/
def am_b149 : Nat → List En := fun L => match L with
  | 0 => [(0, .aconst_null, [], .int 0, []), (1, .istore 1, [], .null, []), (2, .aconst_null, [], .int 0, []), (3, .istore 2, [], .null, []), (4, .nop, [4], .null, [])]
  | 4 => [(4, .iload 2, [], .null, []), (5, .aconst_null, [], .int 30, []), (7, .if_icmp .ge 24, [31], .null, []), (10, .iload 1, [], .null, []), (11, .aload 0, [], .null, []), (12, .getfield 7, [11, 0], .null, []), (15, .iload 2, [], .null, []), (16, .aconst_null, [], .int 0, []), (17, .invokestatic 50, [139, 2], .null, []), (20, .iaload, [], .null, []), (21, .iload 2, [], .null, []), (22, .ishl, [], .null, []), (23, .ior, [], .null, []), (24, .istore 1, [], .null, []), (25, .iinc 2 1, [], .int 1, []), (28, .goto (-24), [4], .null, [])]
  | 31 => [(31, .iload 1, [], .null, []), (32, .ireturn, [0], .null, [])]
  | _ => []
/-- MoleSecretsModel.secretsAt(I)I -/
def am_b150 : Nat → List En := fun L => match L with
  | 0 => [(0, .aconst_null, [], .int 0, []), (1, .istore 2, [], .null, []), (2, .aconst_null, [], .int 0, []), (3, .istore 3, [], .null, []), (4, .nop, [4], .null, [])]
  | 4 => [(4, .iload 3, [], .null, []), (5, .aconst_null, [], .int 6, []), (7, .if_icmp .ge 32, [39], .null, []), (10, .iload 2, [], .null, []), (11, .aload 0, [], .null, []), (12, .getfield 7, [11, 0], .null, []), (15, .aconst_null, [], .int 104, []), (17, .iload 3, [], .null, []), (18, .iadd, [], .null, []), (19, .iaload, [], .null, []), (20, .iload 1, [], .null, []), (21, .if_icmp .ne 9, [30], .null, []), (24, .aconst_null, [], .int 1, []), (25, .iload 3, [], .null, []), (26, .ishl, [], .null, []), (27, .goto 4, [31], .null, [])]
  | 30 => [(30, .aconst_null, [], .int 0, []), (31, .nop, [31], .null, [])]
  | 31 => [(31, .ior, [], .null, []), (32, .istore 2, [], .null, []), (33, .iinc 3 1, [], .int 1, []), (36, .goto (-32), [4], .null, [])]
  | 39 => [(39, .iload 2, [], .null, []), (40, .ireturn, [0], .null, [])]
  | _ => []
/-- MoleSecretsModel.hands()I -/
def am_b151 : Nat → List En := fun L => match L with
  | 0 => [(0, .aconst_null, [], .int 0, []), (1, .istore 1, [], .null, []), (2, .aconst_null, [], .int 0, []), (3, .istore 2, [], .null, []), (4, .nop, [4], .null, [])]
  | 4 => [(4, .iload 2, [], .null, []), (5, .aload 0, [], .null, []), (6, .getfield 7, [11, 0], .null, []), (9, .aconst_null, [], .int 1, []), (10, .iaload, [], .null, []), (11, .if_icmp .ge 18, [29], .null, []), (14, .iload 1, [], .null, []), (15, .aload 0, [], .null, []), (16, .iload 2, [], .null, []), (17, .aconst_null, [], .int 5, []), (18, .invokevirtual 61, [3, 11, 141], .null, []), (21, .iadd, [], .null, []), (22, .istore 1, [], .null, []), (23, .iinc 2 1, [], .int 1, []), (26, .goto (-22), [4], .null, [])]
  | 29 => [(29, .iload 1, [], .null, []), (30, .ireturn, [0], .null, [])]
  | _ => []
/-- MoleSecretsModel.cell(III)I -/
def am_b152 : Nat → List En := fun L => match L with
  | 0 => [(0, .iload 2, [], .null, []), (1, .i2l, [], .null, []), (2, .aconst_null, [], .long 0, []), (3, .aconst_null, [], .long 1, []), (4, .invokestatic 55, [132, 3], .null, []), (7, .ifCond .eq 27, [34], .null, []), (10, .iload 3, [], .null, []), (11, .i2l, [], .null, []), (12, .aconst_null, [], .long 0, []), (13, .iload 2, [], .null, []), (14, .ifCond .ne 7, [21], .null, []), (17, .aconst_null, [], .long 1, []), (18, .goto 6, [24], .null, [])]
  | 21 => [(21, .aconst_null, [], .long 99, []), (24, .nop, [24], .null, [])]
  | 24 => [(24, .invokestatic 55, [132, 3], .null, []), (27, .ifCond .eq 7, [34], .null, []), (30, .aconst_null, [], .int 1, []), (31, .goto 4, [35], .null, [])]
  | 34 => [(34, .aconst_null, [], .int 0, []), (35, .nop, [35], .null, [])]
  | 35 => [(35, .istore 4, [], .null, []), (37, .iload 1, [], .null, []), (38, .invokestatic 66, [143, 1], .null, []), (41, .ifCond .eq 21, [62], .null, []), (44, .iload 4, [], .null, []), (46, .ifCond .eq 16, [62], .null, []), (49, .aload 0, [], .null, []), (50, .iload 1, [], .null, []), (51, .iload 2, [], .null, []), (52, .invokestatic 50, [139, 2], .null, []), (55, .iload 3, [], .null, []), (56, .invokevirtual 70, [3, 11, 138], .null, []), (59, .goto 9, [68], .null, [])]
  | 62 => [(62, .aload 0, [], .null, []), (63, .aconst_null, [], .int (-1000000001), []), (65, .invokevirtual 73, [2, 11, 133], .null, []), (68, .nop, [68], .null, [])]
  | 68 => [(68, .ireturn, [0], .null, [])]
  | _ => []
/-- MoleSecretsModel.molesAt(I)I -/
def am_b153 : Nat → List En := fun L => match L with
  | 0 => [(0, .aconst_null, [], .int 0, []), (1, .istore 2, [], .null, []), (2, .aconst_null, [], .int 0, []), (3, .istore 3, [], .null, []), (4, .nop, [4], .null, [])]
  | 4 => [(4, .iload 3, [], .null, []), (5, .aload 0, [], .null, []), (6, .getfield 7, [11, 0], .null, []), (9, .aconst_null, [], .int 1, []), (10, .iaload, [], .null, []), (11, .if_icmp .ge 29, [40], .null, []), (14, .iload 2, [], .null, []), (15, .aload 0, [], .null, []), (16, .iload 3, [], .null, []), (17, .aconst_null, [], .int 1, []), (18, .invokevirtual 61, [3, 11, 141], .null, []), (21, .iload 1, [], .null, []), (22, .if_icmp .ne 9, [31], .null, []), (25, .aconst_null, [], .int 1, []), (26, .iload 3, [], .null, []), (27, .ishl, [], .null, []), (28, .goto 4, [32], .null, [])]
  | 31 => [(31, .aconst_null, [], .int 0, []), (32, .nop, [32], .null, [])]
  | 32 => [(32, .ior, [], .null, []), (33, .istore 2, [], .null, []), (34, .iinc 3 1, [], .int 1, []), (37, .goto (-33), [4], .null, [])]
  | 40 => [(40, .iload 2, [], .null, []), (41, .ireturn, [0], .null, [])]
  | _ => []
/-- MoleSecretsModel.cellOf(II)I -/
def am_b154 : Nat → List En := fun L => match L with
  | 0 => [(0, .iload 1, [], .null, []), (1, .invokestatic 66, [143, 1], .null, []), (4, .ifCond .eq 15, [19], .null, []), (7, .iload 2, [], .null, []), (8, .i2l, [], .null, []), (9, .aconst_null, [], .long 0, []), (10, .aconst_null, [], .long 3, []), (13, .invokestatic 55, [132, 3], .null, []), (16, .ifCond .ne 10, [26], .null, []), (19, .nop, [19], .null, [])]
  | 19 => [(19, .aload 0, [], .null, []), (20, .aconst_null, [], .int (-1000000001), []), (22, .invokevirtual 73, [2, 11, 133], .null, []), (25, .ireturn, [0], .null, [])]
  | 26 => [(26, .iload 2, [], .null, []), (27, .aconst_null, [], .int 1, []), (28, .if_icmp .gt 16, [44], .null, []), (31, .aload 0, [], .null, []), (32, .getfield 7, [11, 0], .null, []), (35, .iload 1, [], .null, []), (36, .iload 2, [], .null, []), (37, .invokestatic 50, [139, 2], .null, []), (40, .iaload, [], .null, []), (41, .goto 21, [62], .null, [])]
  | 44 => [(44, .iload 2, [], .null, []), (45, .aconst_null, [], .int 2, []), (46, .if_icmp .ne 11, [57], .null, []), (49, .aload 0, [], .null, []), (50, .iload 1, [], .null, []), (51, .invokevirtual 79, [2, 11, 153], .null, []), (54, .goto 8, [62], .null, [])]
  | 57 => [(57, .aload 0, [], .null, []), (58, .iload 1, [], .null, []), (59, .invokevirtual 82, [2, 11, 150], .null, []), (62, .nop, [62], .null, [])]
  | 62 => [(62, .ireturn, [0], .null, [])]
  | _ => []
/-- MoleSecretsModel.puts(II)I -/
def am_b155 : Nat → List En := fun L => match L with
  | 0 => [(0, .aconst_null, [], .int 0, []), (1, .istore 3, [], .null, []), (2, .nop, [2], .null, [])]
  | 2 => [(2, .iload 3, [], .null, []), (3, .aload 0, [], .null, []), (4, .getfield 7, [11, 0], .null, []), (7, .aconst_null, [], .int 1, []), (8, .iaload, [], .null, []), (9, .if_icmp .ge 42, [51], .null, []), (12, .aload 0, [], .null, []), (13, .getfield 7, [11, 0], .null, []), (16, .iload 3, [], .null, []), (17, .aconst_null, [], .int 6, []), (19, .invokestatic 46, [140, 2], .null, []), (22, .aload 0, [], .null, []), (23, .iload 3, [], .null, []), (24, .aconst_null, [], .int 6, []), (26, .invokevirtual 61, [3, 11, 141], .null, []), (29, .iload 1, [], .null, []), (30, .if_icmp .ne 7, [37], .null, []), (33, .aconst_null, [], .int (-1), []), (34, .goto 10, [44], .null, [])]
  | 37 => [(37, .aload 0, [], .null, []), (38, .iload 3, [], .null, []), (39, .aconst_null, [], .int 6, []), (41, .invokevirtual 61, [3, 11, 141], .null, []), (44, .nop, [44], .null, [])]
  | 44 => [(44, .iastore, [], .null, []), (45, .iinc 3 1, [], .int 1, []), (48, .goto (-46), [2], .null, [])]
  | 51 => [(51, .aload 0, [], .null, []), (52, .aconst_null, [], .int 104, []), (54, .iload 1, [], .null, []), (55, .iadd, [], .null, []), (56, .iload 2, [], .null, []), (57, .invokevirtual 70, [3, 11, 138], .null, []), (60, .ireturn, [0], .null, [])]
  | _ => []
/-- MoleSecretsModel.tell(II)I -/
def am_b156 : Nat → List En := fun L => match L with
  | 0 => [(0, .iload 1, [], .null, []), (1, .invokestatic 85, [144, 1], .null, []), (4, .ifCond .eq 26, [30], .null, []), (7, .iload 2, [], .null, []), (8, .i2l, [], .null, []), (9, .aconst_null, [], .long (-1), []), (12, .aconst_null, [], .long 29, []), (15, .invokestatic 55, [132, 3], .null, []), (18, .ifCond .eq 12, [30], .null, []), (21, .aload 0, [], .null, []), (22, .iload 1, [], .null, []), (23, .iload 2, [], .null, []), (24, .invokevirtual 90, [3, 11, 155], .null, []), (27, .goto 9, [36], .null, [])]
  | 30 => [(30, .aload 0, [], .null, []), (31, .aconst_null, [], .int (-1000000001), []), (33, .invokevirtual 73, [2, 11, 133], .null, []), (36, .nop, [36], .null, [])]
  | 36 => [(36, .ireturn, [0], .null, [])]
  | _ => []
/-- MoleSecretsModel.where(I)I -/
def am_b157 : Nat → List En := fun L => match L with
  | 0 => [(0, .iload 1, [], .null, []), (1, .invokestatic 85, [144, 1], .null, []), (4, .ifCond .eq 15, [19], .null, []), (7, .aload 0, [], .null, []), (8, .getfield 7, [11, 0], .null, []), (11, .aconst_null, [], .int 104, []), (13, .iload 1, [], .null, []), (14, .iadd, [], .null, []), (15, .iaload, [], .null, []), (16, .goto 9, [25], .null, [])]
  | 19 => [(19, .aload 0, [], .null, []), (20, .aconst_null, [], .int (-1000000001), []), (22, .invokevirtual 73, [2, 11, 133], .null, []), (25, .nop, [25], .null, [])]
  | 25 => [(25, .ireturn, [0], .null, [])]
  | _ => []
/-- MoleSecretsModel.now(I)I -/
def am_b158 : Nat → List En := fun L => match L with
  | 0 => [(0, .iload 1, [], .null, []), (1, .tableswitch 75 0 5 #[39, 46, 51, 56, 63, 70], [76], .null, [(0, 40), (1, 47), (2, 52), (3, 57), (4, 64), (5, 71)])]
  | 40 => [(40, .aload 0, [], .null, []), (41, .getfield 7, [11, 0], .null, []), (44, .aconst_null, [], .int 0, []), (45, .iaload, [], .null, []), (46, .ireturn, [0], .null, [])]
  | 47 => [(47, .aload 0, [], .null, []), (48, .invokevirtual 93, [1, 11, 149], .null, []), (51, .ireturn, [0], .null, [])]
  | 52 => [(52, .aload 0, [], .null, []), (53, .invokevirtual 97, [1, 11, 148], .null, []), (56, .ireturn, [0], .null, [])]
  | 57 => [(57, .aload 0, [], .null, []), (58, .aconst_null, [], .int (-3), []), (60, .invokevirtual 82, [2, 11, 150], .null, []), (63, .ireturn, [0], .null, [])]
  | 64 => [(64, .aload 0, [], .null, []), (65, .aconst_null, [], .int (-2), []), (67, .invokevirtual 82, [2, 11, 150], .null, []), (70, .ireturn, [0], .null, [])]
  | 71 => [(71, .aload 0, [], .null, []), (72, .invokevirtual 100, [1, 11, 151], .null, []), (75, .ireturn, [0], .null, [])]
  | 76 => [(76, .aload 0, [], .null, []), (77, .aconst_null, [], .int (-1000000001), []), (79, .invokevirtual 73, [2, 11, 133], .null, []), (82, .ireturn, [0], .null, [])]
  | _ => []
/-- MoleSecretsModel.stepsOf(I)I -/
def am_b159 : Nat → List En := fun L => match L with
  | 0 => [(0, .aload 0, [], .null, []), (1, .iload 1, [], .null, []), (2, .aconst_null, [], .int 6, []), (4, .invokevirtual 61, [3, 11, 141], .null, []), (7, .aconst_null, [], .int (-1), []), (8, .if_icmp .ne 7, [15], .null, []), (11, .aconst_null, [], .int 1, []), (12, .goto 4, [16], .null, [])]
  | 15 => [(15, .aconst_null, [], .int 2, []), (16, .nop, [16], .null, [])]
  | 16 => [(16, .istore 2, [], .null, []), (17, .aload 0, [], .null, []), (18, .iload 1, [], .null, []), (19, .aconst_null, [], .int 0, []), (20, .invokevirtual 61, [3, 11, 141], .null, []), (23, .tableswitch 54 2 5 #[29, 31, 48, 50], [77], .null, [(2, 52), (3, 54), (4, 71), (5, 73)])]
  | 52 => [(52, .iload 2, [], .null, []), (53, .ireturn, [0], .null, [])]
  | 54 => [(54, .aload 0, [], .null, []), (55, .getfield 7, [11, 0], .null, []), (58, .aconst_null, [], .int 0, []), (59, .iaload, [], .null, []), (60, .aconst_null, [], .int 3, []), (61, .irem, [], .null, []), (62, .ifCond .ne 7, [69], .null, []), (65, .aconst_null, [], .int 1, []), (66, .goto 4, [70], .null, [])]
  | 69 => [(69, .aconst_null, [], .int 0, []), (70, .nop, [70], .null, [])]
  | 70 => [(70, .ireturn, [0], .null, [])]
  | 71 => [(71, .aconst_null, [], .int 2, []), (72, .ireturn, [0], .null, [])]
  | 73 => [(73, .iload 2, [], .null, []), (74, .aconst_null, [], .int 1, []), (75, .iadd, [], .null, []), (76, .ireturn, [0], .null, [])]
  | 77 => [(77, .aconst_null, [], .int 1, []), (78, .ireturn, [0], .null, [])]
  | _ => []
/-- MoleSecretsModel.digsOf(I)I -/
def am_b160 : Nat → List En := fun L => match L with
  | 0 => [(0, .aload 0, [], .null, []), (1, .iload 1, [], .null, []), (2, .aconst_null, [], .int 0, []), (3, .invokevirtual 61, [3, 11, 141], .null, []), (6, .istore 2, [], .null, []), (7, .iload 2, [], .null, []), (8, .aconst_null, [], .int 1, []), (9, .if_icmp .eq 8, [17], .null, []), (12, .iload 2, [], .null, []), (13, .aconst_null, [], .int 4, []), (14, .if_icmp .ne 7, [21], .null, []), (17, .nop, [17], .null, [])]
  | 17 => [(17, .aconst_null, [], .int 1, []), (18, .goto 13, [31], .null, [])]
  | 21 => [(21, .iload 2, [], .null, []), (22, .aconst_null, [], .int 3, []), (23, .if_icmp .ne 7, [30], .null, []), (26, .aconst_null, [], .int (-1), []), (27, .goto 4, [31], .null, [])]
  | 30 => [(30, .aconst_null, [], .int 0, []), (31, .nop, [31], .null, [])]
  | 31 => [(31, .ireturn, [0], .null, [])]
  | _ => []
/-- MoleSecretsModel.isTurningFirst(I)Z -/
def am_b161 : Nat → List En := fun L => match L with
  | 0 => [(0, .aload 0, [], .null, []), (1, .iload 1, [], .null, []), (2, .aconst_null, [], .int 0, []), (3, .invokevirtual 61, [3, 11, 141], .null, []), (6, .istore 2, [], .null, []), (7, .iload 2, [], .null, []), (8, .aconst_null, [], .int 1, []), (9, .if_icmp .eq 27, [36], .null, []), (12, .iload 2, [], .null, []), (13, .aconst_null, [], .int 3, []), (14, .if_icmp .eq 22, [36], .null, []), (17, .iload 2, [], .null, []), (18, .aconst_null, [], .int 4, []), (19, .if_icmp .ne 21, [40], .null, []), (22, .aload 0, [], .null, []), (23, .iload 1, [], .null, []), (24, .aconst_null, [], .int 1, []), (25, .invokevirtual 61, [3, 11, 141], .null, []), (28, .aconst_null, [], .int 6, []), (30, .idiv, [], .null, []), (31, .aconst_null, [], .int 2, []), (32, .irem, [], .null, []), (33, .ifCond .ne 7, [40], .null, []), (36, .nop, [36], .null, [])]
  | 36 => [(36, .aconst_null, [], .int 1, []), (37, .goto 4, [41], .null, [])]
  | 40 => [(40, .aconst_null, [], .int 0, []), (41, .nop, [41], .null, [])]
  | 41 => [(41, .ireturn, [1], .null, [])]
  | _ => []
/-- MoleSecretsModel.forCell(I)I -/
def am_b162 : Nat → List En := fun L => match L with
  | 0 => [(0, .aload 0, [], .null, []), (1, .iload 1, [], .null, []), (2, .aconst_null, [], .int 0, []), (3, .invokevirtual 61, [3, 11, 141], .null, []), (6, .istore 2, [], .null, []), (7, .iload 2, [], .null, []), (8, .aconst_null, [], .int 1, []), (9, .if_icmp .eq 8, [17], .null, []), (12, .iload 2, [], .null, []), (13, .aconst_null, [], .int 4, []), (14, .if_icmp .ne 7, [21], .null, []), (17, .nop, [17], .null, [])]
  | 17 => [(17, .aconst_null, [], .int 1, []), (18, .goto 13, [31], .null, [])]
  | 21 => [(21, .iload 2, [], .null, []), (22, .aconst_null, [], .int 3, []), (23, .if_icmp .ne 7, [30], .null, []), (26, .aconst_null, [], .int 0, []), (27, .goto 4, [31], .null, [])]
  | 30 => [(30, .aconst_null, [], .int 2, []), (31, .nop, [31], .null, [])]
  | 31 => [(31, .ireturn, [0], .null, [])]
  | _ => []
/-- MoleSecretsModel.forSecret(I)I -/
def am_b163 : Nat → List En := fun L => match L with
  | 0 => [(0, .aload 0, [], .null, []), (1, .iload 1, [], .null, []), (2, .aconst_null, [], .int 0, []), (3, .invokevirtual 61, [3, 11, 141], .null, []), (6, .tableswitch 41 2 5 #[30, 33, 35, 38], [47], .null, [(2, 36), (3, 39), (4, 41), (5, 44)])]
  | 36 => [(36, .aconst_null, [], .int 15, []), (38, .ireturn, [0], .null, [])]
  | 39 => [(39, .aconst_null, [], .int 0, []), (40, .ireturn, [0], .null, [])]
  | 41 => [(41, .aconst_null, [], .int 14, []), (43, .ireturn, [0], .null, [])]
  | 44 => [(44, .aconst_null, [], .int 30, []), (46, .ireturn, [0], .null, [])]
  | 47 => [(47, .aconst_null, [], .int 10, []), (49, .ireturn, [0], .null, [])]
  | _ => []
/-- MoleSecretsModel.addsMole(III)I -/
def am_b164 : Nat → List En := fun L => match L with
  | 0 => [(0, .aload 0, [], .null, []), (1, .getfield 7, [11, 0], .null, []), (4, .aconst_null, [], .int 1, []), (5, .iaload, [], .null, []), (6, .istore 4, [], .null, []), (8, .aload 0, [], .null, []), (9, .getfield 7, [11, 0], .null, []), (12, .aconst_null, [], .int 1, []), (13, .dup2, [], .null, []), (14, .iaload, [], .null, []), (15, .aconst_null, [], .int 1, []), (16, .iadd, [], .null, []), (17, .iastore, [], .null, []), (18, .aload 0, [], .null, []), (19, .getfield 7, [11, 0], .null, []), (22, .iload 4, [], .null, []), (24, .aconst_null, [], .int 0, []), (25, .invokestatic 46, [140, 2], .null, []), (28, .iload 1, [], .null, []), (29, .iastore, [], .null, []), (30, .aload 0, [], .null, []), (31, .getfield 7, [11, 0], .null, []), (34, .iload 4, [], .null, []), (36, .aconst_null, [], .int 1, []), (37, .invokestatic 46, [140, 2], .null, []), (40, .iload 2, [], .null, []), (41, .iastore, [], .null, []), (42, .aload 0, [], .null, []), (43, .getfield 7, [11, 0], .null, []), (46, .iload 4, [], .null, []), (48, .aconst_null, [], .int 2, []), (49, .invokestatic 46, [140, 2], .null, []), (52, .iload 2, [], .null, []), (53, .iastore, [], .null, []), (54, .aload 0, [], .null, []), (55, .getfield 7, [11, 0], .null, []), (58, .iload 4, [], .null, []), (60, .aconst_null, [], .int 3, []), (61, .invokestatic 46, [140, 2], .null, []), (64, .iload 3, [], .null, []), (65, .iastore, [], .null, []), (66, .aload 0, [], .null, []), (67, .getfield 7, [11, 0], .null, []), (70, .iload 4, [], .null, []), (72, .aconst_null, [], .int 4, []), (73, .invokestatic 46, [140, 2], .null, []), (76, .aconst_null, [], .int 1, []), (77, .iastore, [], .null, []), (78, .aload 0, [], .null, []), (79, .getfield 7, [11, 0], .null, []), (82, .iload 4, [], .null, []), (84, .aconst_null, [], .int 5, []), (85, .invokestatic 46, [140, 2], .null, []), (88, .aconst_null, [], .int 0, []), (89, .iastore, [], .null, []), (90, .aload 0, [], .null, []), (91, .getfield 7, [11, 0], .null, []), (94, .iload 4, [], .null, []), (96, .aconst_null, [], .int 6, []), (98, .invokestatic 46, [140, 2], .null, []), (101, .aconst_null, [], .int (-1), []), (102, .iastore, [], .null, []), (103, .iload 4, [], .null, []), (105, .ireturn, [0], .null, [])]
  | _ => []
/-- MoleSecretsModel.mole(III)I -/
def am_b165 : Nat → List En := fun L => match L with
  | 0 => [(0, .iload 1, [], .null, []), (1, .invokestatic 103, [146, 1], .null, []), (4, .ifCond .eq 17, [21], .null, []), (7, .iload 2, [], .null, []), (8, .invokestatic 66, [143, 1], .null, []), (11, .ifCond .eq 10, [21], .null, []), (14, .iload 3, [], .null, []), (15, .invokestatic 66, [143, 1], .null, []), (18, .ifCond .ne 10, [28], .null, []), (21, .nop, [21], .null, [])]
  | 21 => [(21, .aload 0, [], .null, []), (22, .aconst_null, [], .int (-1000000001), []), (24, .invokevirtual 73, [2, 11, 133], .null, []), (27, .ireturn, [0], .null, [])]
  | 28 => [(28, .aload 0, [], .null, []), (29, .getfield 7, [11, 0], .null, []), (32, .aconst_null, [], .int 1, []), (33, .iaload, [], .null, []), (34, .aconst_null, [], .int 6, []), (36, .if_icmp .ne 12, [48], .null, []), (39, .aload 0, [], .null, []), (40, .aconst_null, [], .int (-1000000002), []), (42, .invokevirtual 73, [2, 11, 133], .null, []), (45, .goto 10, [55], .null, [])]
  | 48 => [(48, .aload 0, [], .null, []), (49, .iload 1, [], .null, []), (50, .iload 2, [], .null, []), (51, .iload 3, [], .null, []), (52, .invokevirtual 107, [4, 11, 164], .null, []), (55, .nop, [55], .null, [])]
  | 55 => [(55, .ireturn, [0], .null, [])]
  | _ => []
/-- MoleSecretsModel.of(II)I -/
def am_b166 : Nat → List En := fun L => match L with
  | 0 => [(0, .aload 0, [], .null, []), (1, .iload 1, [], .null, []), (2, .invokevirtual 111, [2, 11, 145], .null, []), (5, .ifCond .eq 15, [20], .null, []), (8, .iload 2, [], .null, []), (9, .i2l, [], .null, []), (10, .aconst_null, [], .long 0, []), (11, .aconst_null, [], .long 9, []), (14, .invokestatic 55, [132, 3], .null, []), (17, .ifCond .ne 10, [27], .null, []), (20, .nop, [20], .null, [])]
  | 20 => [(20, .aload 0, [], .null, []), (21, .aconst_null, [], .int (-1000000001), []), (23, .invokevirtual 73, [2, 11, 133], .null, []), (26, .ireturn, [0], .null, [])]
  | 27 => [(27, .iload 2, [], .null, []), (28, .aconst_null, [], .int 6, []), (30, .if_icmp .gt 10, [40], .null, []), (33, .aload 0, [], .null, []), (34, .iload 1, [], .null, []), (35, .iload 2, [], .null, []), (36, .invokevirtual 61, [3, 11, 141], .null, []), (39, .ireturn, [0], .null, [])]
  | 40 => [(40, .iload 2, [], .null, []), (41, .aconst_null, [], .int 7, []), (43, .if_icmp .ne 11, [54], .null, []), (46, .aload 0, [], .null, []), (47, .iload 1, [], .null, []), (48, .invokevirtual 116, [2, 11, 159], .null, []), (51, .goto 32, [83], .null, [])]
  | 54 => [(54, .iload 2, [], .null, []), (55, .aconst_null, [], .int 8, []), (57, .if_icmp .ne 13, [70], .null, []), (60, .aconst_null, [], .int 1, []), (61, .aload 0, [], .null, []), (62, .iload 1, [], .null, []), (63, .invokevirtual 119, [2, 11, 160], .null, []), (66, .iadd, [], .null, []), (67, .goto 16, [83], .null, [])]
  | 70 => [(70, .aload 0, [], .null, []), (71, .iload 1, [], .null, []), (72, .invokevirtual 122, [2, 11, 161], .null, []), (75, .ifCond .eq 7, [82], .null, []), (78, .aconst_null, [], .int 1, []), (79, .goto 4, [83], .null, [])]
  | 82 => [(82, .aconst_null, [], .int 0, []), (83, .nop, [83], .null, [])]
  | 83 => [(83, .ireturn, [0], .null, [])]
  | _ => []
/-- MoleSecretsModel.charges(II)I -/
def am_b167 : Nat → List En := fun L => match L with
  | 0 => [(0, .aload 0, [], .null, []), (1, .iload 1, [], .null, []), (2, .invokevirtual 111, [2, 11, 145], .null, []), (5, .ifCond .eq 13, [18], .null, []), (8, .iload 2, [], .null, []), (9, .i2l, [], .null, []), (10, .aconst_null, [], .long 0, []), (11, .aconst_null, [], .long 1, []), (12, .invokestatic 55, [132, 3], .null, []), (15, .ifCond .ne 10, [25], .null, []), (18, .nop, [18], .null, [])]
  | 18 => [(18, .aload 0, [], .null, []), (19, .aconst_null, [], .int (-1000000001), []), (21, .invokevirtual 73, [2, 11, 133], .null, []), (24, .ireturn, [0], .null, [])]
  | 25 => [(25, .iload 2, [], .null, []), (26, .ifCond .ne 11, [37], .null, []), (29, .aload 0, [], .null, []), (30, .iload 1, [], .null, []), (31, .invokevirtual 125, [2, 11, 162], .null, []), (34, .goto 8, [42], .null, [])]
  | 37 => [(37, .aload 0, [], .null, []), (38, .iload 1, [], .null, []), (39, .invokevirtual 128, [2, 11, 163], .null, []), (42, .nop, [42], .null, [])]
  | 42 => [(42, .ireturn, [0], .null, [])]
  | _ => []
/-- MoleSecretsModel.set(III)I -/
def am_b168 : Nat → List En := fun L => match L with
  | 0 => [(0, .iload 2, [], .null, []), (1, .i2l, [], .null, []), (2, .aconst_null, [], .long 1, []), (3, .aconst_null, [], .long 5, []), (6, .invokestatic 55, [132, 3], .null, []), (9, .ifCond .eq 39, [48], .null, []), (12, .iload 3, [], .null, []), (13, .i2l, [], .null, []), (14, .aconst_null, [], .long 0, []), (15, .iload 2, [], .null, []), (16, .aconst_null, [], .int 4, []), (17, .if_icmp .ne 7, [24], .null, []), (20, .aconst_null, [], .long 1, []), (21, .goto 17, [38], .null, [])]
  | 24 => [(24, .iload 2, [], .null, []), (25, .aconst_null, [], .int 5, []), (26, .if_icmp .ne 9, [35], .null, []), (29, .aconst_null, [], .long 9999, []), (32, .goto 6, [38], .null, [])]
  | 35 => [(35, .aconst_null, [], .long 29, []), (38, .nop, [38], .null, [])]
  | 38 => [(38, .invokestatic 55, [132, 3], .null, []), (41, .ifCond .eq 7, [48], .null, []), (44, .aconst_null, [], .int 1, []), (45, .goto 4, [49], .null, [])]
  | 48 => [(48, .aconst_null, [], .int 0, []), (49, .nop, [49], .null, [])]
  | 49 => [(49, .istore 4, [], .null, []), (51, .aload 0, [], .null, []), (52, .iload 1, [], .null, []), (53, .invokevirtual 111, [2, 11, 145], .null, []), (56, .ifCond .eq 21, [77], .null, []), (59, .iload 4, [], .null, []), (61, .ifCond .eq 16, [77], .null, []), (64, .aload 0, [], .null, []), (65, .iload 1, [], .null, []), (66, .iload 2, [], .null, []), (67, .invokestatic 46, [140, 2], .null, []), (70, .iload 3, [], .null, []), (71, .invokevirtual 70, [3, 11, 138], .null, []), (74, .goto 9, [83], .null, [])]
  | 77 => [(77, .aload 0, [], .null, []), (78, .aconst_null, [], .int (-1000000001), []), (80, .invokevirtual 73, [2, 11, 133], .null, []), (83, .nop, [83], .null, [])]
  | 83 => [(83, .ireturn, [0], .null, [])]
  | _ => []
/-- MoleSecretsModel.turn(II)I -/
def am_b169 : Nat → List En := fun L => match L with
  | 0 => [(0, .aload 0, [], .null, []), (1, .iload 1, [], .null, []), (2, .invokevirtual 111, [2, 11, 145], .null, []), (5, .ifCond .eq 23, [28], .null, []), (8, .iload 2, [], .null, []), (9, .invokestatic 103, [146, 1], .null, []), (12, .ifCond .eq 16, [28], .null, []), (15, .aload 0, [], .null, []), (16, .iload 1, [], .null, []), (17, .aconst_null, [], .int 0, []), (18, .invokestatic 46, [140, 2], .null, []), (21, .iload 2, [], .null, []), (22, .invokevirtual 70, [3, 11, 138], .null, []), (25, .goto 9, [34], .null, [])]
  | 28 => [(28, .aload 0, [], .null, []), (29, .aconst_null, [], .int (-1000000001), []), (31, .invokevirtual 73, [2, 11, 133], .null, []), (34, .nop, [34], .null, [])]
  | 34 => [(34, .ireturn, [0], .null, [])]
  | _ => []
/-- MoleSecretsModel.isUnder(II)Z -/
def am_b170 : Nat → List En := fun L => match L with
  | 0 => [(0, .iload 1, [], .null, []), (1, .ifCond .eq 28, [29], .null, []), (4, .iload 0, [], .null, []), (5, .iload 1, [], .null, []), (6, .if_icmp .eq 23, [29], .null, []), (9, .iload 0, [], .null, []), (10, .aconst_null, [], .int 4, []), (11, .if_icmp .ne 8, [19], .null, []), (14, .iload 1, [], .null, []), (15, .aconst_null, [], .int 1, []), (16, .if_icmp .eq 13, [29], .null, []), (19, .nop, [19], .null, [])]
  | 19 => [(19, .iload 0, [], .null, []), (20, .aconst_null, [], .int 5, []), (21, .if_icmp .ne 12, [33], .null, []), (24, .iload 1, [], .null, []), (25, .aconst_null, [], .int 2, []), (26, .if_icmp .ne 7, [33], .null, []), (29, .nop, [29], .null, [])]
  | 29 => [(29, .aconst_null, [], .int 1, []), (30, .goto 4, [34], .null, [])]
  | 33 => [(33, .aconst_null, [], .int 0, []), (34, .nop, [34], .null, [])]
  | 34 => [(34, .ireturn, [1], .null, [])]
  | _ => []
/-- MoleSecretsModel.as(II)I -/
def am_b171 : Nat → List En := fun L => match L with
  | 0 => [(0, .aload 0, [], .null, []), (1, .iload 1, [], .null, []), (2, .invokevirtual 111, [2, 11, 145], .null, []), (5, .ifCond .eq 10, [15], .null, []), (8, .iload 2, [], .null, []), (9, .invokestatic 103, [146, 1], .null, []), (12, .ifCond .ne 10, [22], .null, []), (15, .nop, [15], .null, [])]
  | 15 => [(15, .aload 0, [], .null, []), (16, .aconst_null, [], .int (-1000000001), []), (18, .invokevirtual 73, [2, 11, 133], .null, []), (21, .ireturn, [0], .null, [])]
  | 22 => [(22, .aload 0, [], .null, []), (23, .iload 1, [], .null, []), (24, .aconst_null, [], .int 0, []), (25, .invokevirtual 61, [3, 11, 141], .null, []), (28, .iload 2, [], .null, []), (29, .invokestatic 133, [170, 2], .null, []), (32, .ifCond .eq 12, [44], .null, []), (35, .aload 0, [], .null, []), (36, .iload 1, [], .null, []), (37, .aconst_null, [], .int 5, []), (38, .invokevirtual 61, [3, 11, 141], .null, []), (41, .goto 9, [50], .null, [])]
  | 44 => [(44, .aload 0, [], .null, []), (45, .aconst_null, [], .int (-1000000003), []), (47, .invokevirtual 73, [2, 11, 133], .null, []), (50, .nop, [50], .null, [])]
  | 50 => [(50, .ireturn, [0], .null, [])]
  | _ => []
/-- MoleSecretsModel.aimOf(I)I -/
def am_b172 : Nat → List En := fun L => match L with
  | 0 => [(0, .aload 0, [], .null, []), (1, .iload 1, [], .null, []), (2, .aconst_null, [], .int 4, []), (3, .invokevirtual 61, [3, 11, 141], .null, []), (6, .aconst_null, [], .int 1, []), (7, .if_icmp .ne 12, [19], .null, []), (10, .aload 0, [], .null, []), (11, .iload 1, [], .null, []), (12, .aconst_null, [], .int 3, []), (13, .invokevirtual 61, [3, 11, 141], .null, []), (16, .goto 9, [25], .null, [])]
  | 19 => [(19, .aload 0, [], .null, []), (20, .iload 1, [], .null, []), (21, .aconst_null, [], .int 2, []), (22, .invokevirtual 61, [3, 11, 141], .null, []), (25, .nop, [25], .null, [])]
  | 25 => [(25, .ireturn, [0], .null, [])]
  | _ => []
/-- MoleSecretsModel.isPaid(II)V -/
def am_b173 : Nat → List En := fun L => match L with
  | 0 => [(0, .aload 0, [], .null, []), (1, .getfield 7, [11, 0], .null, []), (4, .iload 1, [], .null, []), (5, .aconst_null, [], .int 5, []), (6, .invokestatic 46, [140, 2], .null, []), (9, .aload 0, [], .null, []), (10, .iload 1, [], .null, []), (11, .aconst_null, [], .int 5, []), (12, .invokevirtual 61, [3, 11, 141], .null, []), (15, .iload 2, [], .null, []), (16, .iadd, [], .null, []), (17, .aconst_null, [], .int 9999, []), (20, .invokestatic 138, [147, 2], .null, []), (23, .iastore, [], .null, []), (24, .return_, [], .null, [])]
  | _ => []
/-- MoleSecretsModel.nextTo(II)I -/
def am_b174 : Nat → List En := fun L => match L with
  | 0 => [(0, .aload 0, [], .null, []), (1, .iload 1, [], .null, []), (2, .aconst_null, [], .int 1, []), (3, .invokevirtual 61, [3, 11, 141], .null, []), (6, .istore 3, [], .null, []), (7, .iload 2, [], .null, []), (8, .aconst_null, [], .int 6, []), (10, .idiv, [], .null, []), (11, .iload 3, [], .null, []), (12, .aconst_null, [], .int 6, []), (14, .idiv, [], .null, []), (15, .isub, [], .null, []), (16, .istore 4, [], .null, []), (18, .iload 2, [], .null, []), (19, .aconst_null, [], .int 6, []), (21, .irem, [], .null, []), (22, .iload 3, [], .null, []), (23, .aconst_null, [], .int 6, []), (25, .irem, [], .null, []), (26, .isub, [], .null, []), (27, .istore 5, [], .null, []), (29, .iload 4, [], .null, []), (31, .ifCond .eq 20, [51], .null, []), (34, .aload 0, [], .null, []), (35, .iload 1, [], .null, []), (36, .invokevirtual 122, [2, 11, 161], .null, []), (39, .ifCond .ne 8, [47], .null, []), (42, .iload 5, [], .null, []), (44, .ifCond .ne 7, [51], .null, []), (47, .nop, [47], .null, [])]
  | 47 => [(47, .aconst_null, [], .int 1, []), (48, .goto 4, [52], .null, [])]
  | 51 => [(51, .aconst_null, [], .int 0, []), (52, .nop, [52], .null, [])]
  | 52 => [(52, .istore 6, [], .null, []), (54, .iload 6, [], .null, []), (56, .ifCond .eq 20, [76], .null, []), (59, .iload 3, [], .null, []), (60, .iload 4, [], .null, []), (62, .ifCond .le 8, [70], .null, []), (65, .aconst_null, [], .int 6, []), (67, .goto 5, [72], .null, [])]
  | 70 => [(70, .aconst_null, [], .int (-6), []), (72, .nop, [72], .null, [])]
  | 72 => [(72, .iadd, [], .null, []), (73, .goto 15, [88], .null, [])]
  | 76 => [(76, .iload 3, [], .null, []), (77, .iload 5, [], .null, []), (79, .ifCond .le 7, [86], .null, []), (82, .aconst_null, [], .int 1, []), (83, .goto 4, [87], .null, [])]
  | 86 => [(86, .aconst_null, [], .int (-1), []), (87, .nop, [87], .null, [])]
  | 87 => [(87, .iadd, [], .null, []), (88, .nop, [88], .null, [])]
  | 88 => [(88, .ireturn, [0], .null, [])]
  | _ => []
/-- MoleSecretsModel.step(I)V -/
def am_b175 : Nat → List En := fun L => match L with
  | 0 => [(0, .aload 0, [], .null, []), (1, .iload 1, [], .null, []), (2, .invokevirtual 141, [2, 11, 172], .null, []), (5, .istore 2, [], .null, []), (6, .aload 0, [], .null, []), (7, .iload 1, [], .null, []), (8, .aconst_null, [], .int 1, []), (9, .invokevirtual 61, [3, 11, 141], .null, []), (12, .iload 2, [], .null, []), (13, .if_icmp .ne 4, [17], .null, []), (16, .return_, [], .null, [])]
  | 17 => [(17, .aload 0, [], .null, []), (18, .iload 1, [], .null, []), (19, .iload 2, [], .null, []), (20, .invokevirtual 144, [3, 11, 174], .null, []), (23, .istore 3, [], .null, []), (24, .aload 0, [], .null, []), (25, .iload 3, [], .null, []), (26, .invokevirtual 147, [2, 11, 142], .null, []), (29, .ifCond .eq 15, [44], .null, []), (32, .aload 0, [], .null, []), (33, .getfield 7, [11, 0], .null, []), (36, .iload 1, [], .null, []), (37, .aconst_null, [], .int 1, []), (38, .invokestatic 46, [140, 2], .null, []), (41, .iload 3, [], .null, []), (42, .iastore, [], .null, []), (43, .return_, [], .null, [])]
  | 44 => [(44, .aload 0, [], .null, []), (45, .iload 1, [], .null, []), (46, .invokevirtual 119, [2, 11, 160], .null, []), (49, .istore 4, [], .null, []), (51, .iload 4, [], .null, []), (53, .ifCond .ge 22, [75], .null, []), (56, .aload 0, [], .null, []), (57, .getfield 7, [11, 0], .null, []), (60, .iload 1, [], .null, []), (61, .aconst_null, [], .int 4, []), (62, .invokestatic 46, [140, 2], .null, []), (65, .aconst_null, [], .int 1, []), (66, .aload 0, [], .null, []), (67, .iload 1, [], .null, []), (68, .aconst_null, [], .int 4, []), (69, .invokevirtual 61, [3, 11, 141], .null, []), (72, .isub, [], .null, []), (73, .iastore, [], .null, []), (74, .return_, [], .null, [])]
  | 75 => [(75, .aload 0, [], .null, []), (76, .getfield 7, [11, 0], .null, []), (79, .iload 3, [], .null, []), (80, .aconst_null, [], .int 0, []), (81, .invokestatic 50, [139, 2], .null, []), (84, .aconst_null, [], .int 1, []), (85, .iastore, [], .null, []), (86, .aload 0, [], .null, []), (87, .iload 1, [], .null, []), (88, .aload 0, [], .null, []), (89, .iload 1, [], .null, []), (90, .invokevirtual 125, [2, 11, 162], .null, []), (93, .invokevirtual 150, [3, 11, 173], .null, []), (96, .aload 0, [], .null, []), (97, .getfield 7, [11, 0], .null, []), (100, .iload 1, [], .null, []), (101, .aconst_null, [], .int 1, []), (102, .invokestatic 46, [140, 2], .null, []), (105, .iload 4, [], .null, []), (107, .aconst_null, [], .int 1, []), (108, .if_icmp .ne 7, [115], .null, []), (111, .iload 3, [], .null, []), (112, .goto 9, [121], .null, [])]
  | 115 => [(115, .aload 0, [], .null, []), (116, .iload 1, [], .null, []), (117, .aconst_null, [], .int 1, []), (118, .invokevirtual 61, [3, 11, 141], .null, []), (121, .nop, [121], .null, [])]
  | 121 => [(121, .iastore, [], .null, []), (122, .return_, [], .null, [])]
  | _ => []
/-- MoleSecretsModel.bringsOut(I)V -/
def am_b176 : Nat → List En := fun L => match L with
  | 0 => [(0, .aload 0, [], .null, []), (1, .iload 1, [], .null, []), (2, .aconst_null, [], .int 3, []), (3, .invokevirtual 61, [3, 11, 141], .null, []), (6, .aconst_null, [], .int 1, []), (7, .invokestatic 50, [139, 2], .null, []), (10, .istore 2, [], .null, []), (11, .aload 0, [], .null, []), (12, .getfield 7, [11, 0], .null, []), (15, .aconst_null, [], .int 104, []), (17, .aload 0, [], .null, []), (18, .iload 1, [], .null, []), (19, .aconst_null, [], .int 6, []), (21, .invokevirtual 61, [3, 11, 141], .null, []), (24, .iadd, [], .null, []), (25, .aconst_null, [], .int (-3), []), (27, .iastore, [], .null, []), (28, .aload 0, [], .null, []), (29, .getfield 7, [11, 0], .null, []), (32, .iload 1, [], .null, []), (33, .aconst_null, [], .int 6, []), (35, .invokestatic 46, [140, 2], .null, []), (38, .aconst_null, [], .int (-1), []), (39, .iastore, [], .null, []), (40, .aload 0, [], .null, []), (41, .getfield 7, [11, 0], .null, []), (44, .iload 2, [], .null, []), (45, .aload 0, [], .null, []), (46, .getfield 7, [11, 0], .null, []), (49, .iload 2, [], .null, []), (50, .iaload, [], .null, []), (51, .aconst_null, [], .int 1, []), (52, .iadd, [], .null, []), (53, .aconst_null, [], .int 99, []), (55, .invokestatic 138, [147, 2], .null, []), (58, .iastore, [], .null, []), (59, .aload 0, [], .null, []), (60, .iload 1, [], .null, []), (61, .aload 0, [], .null, []), (62, .iload 1, [], .null, []), (63, .invokevirtual 128, [2, 11, 163], .null, []), (66, .invokevirtual 150, [3, 11, 173], .null, []), (69, .return_, [], .null, [])]
  | _ => []
/-- MoleSecretsModel.picksUp(I)V -/
def am_b177 : Nat → List En := fun L => match L with
  | 0 => [(0, .aconst_null, [], .int 0, []), (1, .istore 2, [], .null, []), (2, .nop, [2], .null, [])]
  | 2 => [(2, .iload 2, [], .null, []), (3, .aconst_null, [], .int 6, []), (5, .if_icmp .ge 27, [32], .null, []), (8, .aload 0, [], .null, []), (9, .getfield 7, [11, 0], .null, []), (12, .aconst_null, [], .int 104, []), (14, .iload 2, [], .null, []), (15, .iadd, [], .null, []), (16, .iaload, [], .null, []), (17, .aload 0, [], .null, []), (18, .iload 1, [], .null, []), (19, .aconst_null, [], .int 1, []), (20, .invokevirtual 61, [3, 11, 141], .null, []), (23, .if_icmp .eq 9, [32], .null, []), (26, .iinc 2 1, [], .int 1, []), (29, .goto (-27), [2], .null, [])]
  | 32 => [(32, .iload 2, [], .null, []), (33, .aconst_null, [], .int 6, []), (35, .if_icmp .ge 26, [61], .null, []), (38, .aload 0, [], .null, []), (39, .getfield 7, [11, 0], .null, []), (42, .aconst_null, [], .int 104, []), (44, .iload 2, [], .null, []), (45, .iadd, [], .null, []), (46, .aconst_null, [], .int (-2), []), (48, .iastore, [], .null, []), (49, .aload 0, [], .null, []), (50, .getfield 7, [11, 0], .null, []), (53, .iload 1, [], .null, []), (54, .aconst_null, [], .int 6, []), (56, .invokestatic 46, [140, 2], .null, []), (59, .iload 2, [], .null, []), (60, .iastore, [], .null, []), (61, .nop, [61], .null, [])]
  | 61 => [(61, .return_, [], .null, [])]
  | _ => []
/-- MoleSecretsModel.looks(I)V -/
def am_b178 : Nat → List En := fun L => match L with
  | 0 => [(0, .aload 0, [], .null, []), (1, .iload 1, [], .null, []), (2, .aconst_null, [], .int 1, []), (3, .invokevirtual 61, [3, 11, 141], .null, []), (6, .aload 0, [], .null, []), (7, .iload 1, [], .null, []), (8, .aconst_null, [], .int 3, []), (9, .invokevirtual 61, [3, 11, 141], .null, []), (12, .if_icmp .ne 7, [19], .null, []), (15, .aconst_null, [], .int 1, []), (16, .goto 4, [20], .null, [])]
  | 19 => [(19, .aconst_null, [], .int 0, []), (20, .nop, [20], .null, [])]
  | 20 => [(20, .istore 2, [], .null, []), (21, .iload 2, [], .null, []), (22, .ifCond .eq 19, [41], .null, []), (25, .aload 0, [], .null, []), (26, .iload 1, [], .null, []), (27, .aconst_null, [], .int 6, []), (29, .invokevirtual 61, [3, 11, 141], .null, []), (32, .aconst_null, [], .int (-1), []), (33, .if_icmp .eq 8, [41], .null, []), (36, .aload 0, [], .null, []), (37, .iload 1, [], .null, []), (38, .invokevirtual 154, [2, 11, 176], .null, []), (41, .nop, [41], .null, [])]
  | 41 => [(41, .iload 2, [], .null, []), (42, .ifCond .ne 19, [61], .null, []), (45, .aload 0, [], .null, []), (46, .iload 1, [], .null, []), (47, .aconst_null, [], .int 6, []), (49, .invokevirtual 61, [3, 11, 141], .null, []), (52, .aconst_null, [], .int (-1), []), (53, .if_icmp .ne 8, [61], .null, []), (56, .aload 0, [], .null, []), (57, .iload 1, [], .null, []), (58, .invokevirtual 158, [2, 11, 177], .null, []), (61, .nop, [61], .null, [])]
  | 61 => [(61, .aload 0, [], .null, []), (62, .iload 1, [], .null, []), (63, .aconst_null, [], .int 1, []), (64, .invokevirtual 61, [3, 11, 141], .null, []), (67, .aload 0, [], .null, []), (68, .iload 1, [], .null, []), (69, .invokevirtual 141, [2, 11, 172], .null, []), (72, .if_icmp .ne 21, [93], .null, []), (75, .aload 0, [], .null, []), (76, .getfield 7, [11, 0], .null, []), (79, .iload 1, [], .null, []), (80, .aconst_null, [], .int 4, []), (81, .invokestatic 46, [140, 2], .null, []), (84, .aconst_null, [], .int 1, []), (85, .aload 0, [], .null, []), (86, .iload 1, [], .null, []), (87, .aconst_null, [], .int 4, []), (88, .invokevirtual 61, [3, 11, 141], .null, []), (91, .isub, [], .null, []), (92, .iastore, [], .null, []), (93, .nop, [93], .null, [])]
  | 93 => [(93, .return_, [], .null, [])]
  | _ => []
/-- MoleSecretsModel.minute()V -/
def am_b179 : Nat → List En := fun L => match L with
  | 0 => [(0, .aconst_null, [], .int 0, []), (1, .istore 1, [], .null, []), (2, .nop, [2], .null, [])]
  | 2 => [(2, .iload 1, [], .null, []), (3, .aload 0, [], .null, []), (4, .getfield 7, [11, 0], .null, []), (7, .aconst_null, [], .int 1, []), (8, .iaload, [], .null, []), (9, .if_icmp .ge 51, [60], .null, []), (12, .iload 1, [], .null, []), (13, .aload 0, [], .null, []), (14, .getfield 25, [11, 6], .null, []), (17, .if_icmp .eq 37, [54], .null, []), (20, .aload 0, [], .null, []), (21, .iload 1, [], .null, []), (22, .invokevirtual 116, [2, 11, 159], .null, []), (25, .istore 2, [], .null, []), (26, .aload 0, [], .null, []), (27, .iload 1, [], .null, []), (28, .invokevirtual 161, [2, 11, 178], .null, []), (31, .aconst_null, [], .int 0, []), (32, .istore 3, [], .null, []), (33, .nop, [33], .null, [])]
  | 33 => [(33, .iload 3, [], .null, []), (34, .iload 2, [], .null, []), (35, .if_icmp .ge 19, [54], .null, []), (38, .aload 0, [], .null, []), (39, .iload 1, [], .null, []), (40, .invokevirtual 164, [2, 11, 175], .null, []), (43, .aload 0, [], .null, []), (44, .iload 1, [], .null, []), (45, .invokevirtual 161, [2, 11, 178], .null, []), (48, .iinc 3 1, [], .int 1, []), (51, .goto (-18), [33], .null, [])]
  | 54 => [(54, .iinc 1 1, [], .int 1, []), (57, .goto (-55), [2], .null, [])]
  | 60 => [(60, .aload 0, [], .null, []), (61, .getfield 7, [11, 0], .null, []), (64, .aconst_null, [], .int 0, []), (65, .dup2, [], .null, []), (66, .iaload, [], .null, []), (67, .aconst_null, [], .int 1, []), (68, .iadd, [], .null, []), (69, .iastore, [], .null, []), (70, .return_, [], .null, [])]
  | _ => []
/-- MoleSecretsModel.minutesGo(I)V -/
def am_b180 : Nat → List En := fun L => match L with
  | 0 => [(0, .aconst_null, [], .int 0, []), (1, .istore 2, [], .null, []), (2, .nop, [2], .null, [])]
  | 2 => [(2, .iload 2, [], .null, []), (3, .iload 1, [], .null, []), (4, .if_icmp .ge 13, [17], .null, []), (7, .aload 0, [], .null, []), (8, .invokevirtual 167, [1, 11, 179], .null, []), (11, .iinc 2 1, [], .int 1, []), (14, .goto (-12), [2], .null, [])]
  | 17 => [(17, .return_, [], .null, [])]
  | _ => []
/-- MoleSecretsModel.minutes(I)I -/
def am_b181 : Nat → List En := fun L => match L with
  | 0 => [(0, .iload 1, [], .null, []), (1, .i2l, [], .null, []), (2, .aconst_null, [], .long 1, []), (3, .aconst_null, [], .long 100, []), (6, .invokestatic 55, [132, 3], .null, []), (9, .ifCond .ne 10, [19], .null, []), (12, .aload 0, [], .null, []), (13, .aconst_null, [], .int (-1000000001), []), (15, .invokevirtual 73, [2, 11, 133], .null, []), (18, .ireturn, [0], .null, [])]
  | 19 => [(19, .aload 0, [], .null, []), (20, .getfield 7, [11, 0], .null, []), (23, .aconst_null, [], .int 0, []), (24, .iaload, [], .null, []), (25, .iload 1, [], .null, []), (26, .iadd, [], .null, []), (27, .aconst_null, [], .int 99999, []), (29, .if_icmp .le 10, [39], .null, []), (32, .aload 0, [], .null, []), (33, .aconst_null, [], .int (-1000000005), []), (35, .invokevirtual 73, [2, 11, 133], .null, []), (38, .ireturn, [0], .null, [])]
  | 39 => [(39, .aload 0, [], .null, []), (40, .iload 1, [], .null, []), (41, .invokevirtual 174, [2, 11, 180], .null, []), (44, .aload 0, [], .null, []), (45, .aconst_null, [], .int (-3), []), (47, .invokevirtual 82, [2, 11, 150], .null, []), (50, .ireturn, [0], .null, [])]
  | _ => []
/-- MoleSecretsModel.isAhead(I)Z -/
def am_b182 : Nat → List En := fun L => match L with
  | 0 => [(0, .iload 0, [], .null, []), (1, .i2l, [], .null, []), (2, .aconst_null, [], .long 0, []), (3, .aconst_null, [], .long 200, []), (6, .invokestatic 55, [132, 3], .null, []), (9, .ireturn, [1], .null, [])]
  | _ => []
/-- MoleSecretsModel.behind(II)I -/
def am_b183 : Nat → List En := fun L => match L with
  | 0 => [(0, .aload 0, [], .null, []), (1, .invokevirtual 179, [1, 11, 136], .null, []), (4, .aload 0, [], .null, []), (5, .iload 2, [], .null, []), (6, .invokevirtual 174, [2, 11, 180], .null, []), (9, .aload 0, [], .null, []), (10, .aload 0, [], .null, []), (11, .getfield 7, [11, 0], .null, []), (14, .iload 1, [], .null, []), (15, .iaload, [], .null, []), (16, .invokevirtual 182, [2, 11, 137], .null, []), (19, .ireturn, [0], .null, [])]
  | _ => []
/-- MoleSecretsModel.handsBehind(I)I -/
def am_b184 : Nat → List En := fun L => match L with
  | 0 => [(0, .aload 0, [], .null, []), (1, .invokevirtual 179, [1, 11, 136], .null, []), (4, .aload 0, [], .null, []), (5, .iload 1, [], .null, []), (6, .invokevirtual 174, [2, 11, 180], .null, []), (9, .aload 0, [], .null, []), (10, .aload 0, [], .null, []), (11, .invokevirtual 100, [1, 11, 151], .null, []), (14, .invokevirtual 182, [2, 11, 137], .null, []), (17, .ireturn, [0], .null, [])]
  | _ => []
/-- MoleSecretsModel.outBehind(I)I -/
def am_b185 : Nat → List En := fun L => match L with
  | 0 => [(0, .aload 0, [], .null, []), (1, .invokevirtual 179, [1, 11, 136], .null, []), (4, .aload 0, [], .null, []), (5, .iload 1, [], .null, []), (6, .invokevirtual 174, [2, 11, 180], .null, []), (9, .aload 0, [], .null, []), (10, .aconst_null, [], .int (-3), []), (12, .invokevirtual 82, [2, 11, 150], .null, []), (15, .istore 2, [], .null, []), (16, .aconst_null, [], .int 0, []), (17, .istore 3, [], .null, []), (18, .aconst_null, [], .int 0, []), (19, .istore 4, [], .null, []), (21, .nop, [21], .null, [])]
  | 21 => [(21, .iload 4, [], .null, []), (23, .aconst_null, [], .int 6, []), (25, .if_icmp .ge 18, [43], .null, []), (28, .iload 3, [], .null, []), (29, .iload 2, [], .null, []), (30, .iload 4, [], .null, []), (32, .ishr, [], .null, []), (33, .aconst_null, [], .int 1, []), (34, .iand, [], .null, []), (35, .iadd, [], .null, []), (36, .istore 3, [], .null, []), (37, .iinc 4 1, [], .int 1, []), (40, .goto (-19), [21], .null, [])]
  | 43 => [(43, .aload 0, [], .null, []), (44, .iload 3, [], .null, []), (45, .invokevirtual 182, [2, 11, 137], .null, []), (48, .ireturn, [0], .null, [])]
  | _ => []
/-- MoleSecretsModel.on(III)I -/
def am_b186 : Nat → List En := fun L => match L with
  | 0 => [(0, .aload 0, [], .null, []), (1, .iload 1, [], .null, []), (2, .invokevirtual 111, [2, 11, 145], .null, []), (5, .ifCond .eq 22, [27], .null, []), (8, .iload 2, [], .null, []), (9, .invokestatic 185, [182, 1], .null, []), (12, .ifCond .eq 15, [27], .null, []), (15, .iload 3, [], .null, []), (16, .i2l, [], .null, []), (17, .aconst_null, [], .long 0, []), (18, .aconst_null, [], .long 2, []), (21, .invokestatic 55, [132, 3], .null, []), (24, .ifCond .ne 10, [34], .null, []), (27, .nop, [27], .null, [])]
  | 27 => [(27, .aload 0, [], .null, []), (28, .aconst_null, [], .int (-1000000001), []), (30, .invokevirtual 73, [2, 11, 133], .null, []), (33, .ireturn, [0], .null, [])]
  | 34 => [(34, .aload 0, [], .null, []), (35, .iload 1, [], .null, []), (36, .iload 3, [], .null, []), (37, .ifCond .ne 7, [44], .null, []), (40, .aconst_null, [], .int 1, []), (41, .goto 14, [55], .null, [])]
  | 44 => [(44, .iload 3, [], .null, []), (45, .aconst_null, [], .int 1, []), (46, .if_icmp .ne 7, [53], .null, []), (49, .aconst_null, [], .int 5, []), (50, .goto 5, [55], .null, [])]
  | 53 => [(53, .aconst_null, [], .int 6, []), (55, .nop, [55], .null, [])]
  | 55 => [(55, .invokestatic 46, [140, 2], .null, []), (58, .iload 2, [], .null, []), (59, .invokevirtual 190, [3, 11, 183], .null, []), (62, .ireturn, [0], .null, [])]
  | _ => []
/-- MoleSecretsModel.then(II)I -/
def am_b187 : Nat → List En := fun L => match L with
  | 0 => [(0, .iload 1, [], .null, []), (1, .invokestatic 85, [144, 1], .null, []), (4, .ifCond .eq 22, [26], .null, []), (7, .iload 2, [], .null, []), (8, .invokestatic 185, [182, 1], .null, []), (11, .ifCond .eq 15, [26], .null, []), (14, .aload 0, [], .null, []), (15, .aconst_null, [], .int 104, []), (17, .iload 1, [], .null, []), (18, .iadd, [], .null, []), (19, .iload 2, [], .null, []), (20, .invokevirtual 190, [3, 11, 183], .null, []), (23, .goto 9, [32], .null, [])]
  | 26 => [(26, .aload 0, [], .null, []), (27, .aconst_null, [], .int (-1000000001), []), (29, .invokevirtual 73, [2, 11, 133], .null, []), (32, .nop, [32], .null, [])]
  | 32 => [(32, .ireturn, [0], .null, [])]
  | _ => []
/-- MoleSecretsModel.firstAs(III)I -/
def am_b188 : Nat → List En := fun L => match L with
  | 0 => [(0, .aload 0, [], .null, []), (1, .invokevirtual 179, [1, 11, 136], .null, []), (4, .aconst_null, [], .int 0, []), (5, .istore 4, [], .null, []), (7, .nop, [7], .null, [])]
  | 7 => [(7, .iload 4, [], .null, []), (9, .iload 3, [], .null, []), (10, .if_icmp .gt 23, [33], .null, []), (13, .aload 0, [], .null, []), (14, .getfield 7, [11, 0], .null, []), (17, .iload 1, [], .null, []), (18, .iaload, [], .null, []), (19, .iload 2, [], .null, []), (20, .if_icmp .eq 13, [33], .null, []), (23, .aload 0, [], .null, []), (24, .invokevirtual 167, [1, 11, 179], .null, []), (27, .iinc 4 1, [], .int 1, []), (30, .goto (-23), [7], .null, [])]
  | 33 => [(33, .aload 0, [], .null, []), (34, .iload 4, [], .null, []), (36, .invokevirtual 182, [2, 11, 137], .null, []), (39, .ireturn, [0], .null, [])]
  | _ => []
/-- MoleSecretsModel.toldFirst(II)I -/
def am_b189 : Nat → List En := fun L => match L with
  | 0 => [(0, .aload 0, [], .null, []), (1, .iload 1, [], .null, []), (2, .iload 2, [], .null, []), (3, .aconst_null, [], .int 200, []), (6, .invokevirtual 193, [4, 11, 188], .null, []), (9, .istore 3, [], .null, []), (10, .iload 3, [], .null, []), (11, .aconst_null, [], .int 200, []), (14, .if_icmp .le 12, [26], .null, []), (17, .aload 0, [], .null, []), (18, .aconst_null, [], .int (-1000000004), []), (20, .invokevirtual 73, [2, 11, 133], .null, []), (23, .goto 4, [27], .null, [])]
  | 26 => [(26, .iload 3, [], .null, []), (27, .nop, [27], .null, [])]
  | 27 => [(27, .ireturn, [0], .null, [])]
  | _ => []
/-- MoleSecretsModel.out(I)I -/
def am_b190 : Nat → List En := fun L => match L with
  | 0 => [(0, .iload 1, [], .null, []), (1, .invokestatic 85, [144, 1], .null, []), (4, .ifCond .eq 16, [20], .null, []), (7, .aload 0, [], .null, []), (8, .aconst_null, [], .int 104, []), (10, .iload 1, [], .null, []), (11, .iadd, [], .null, []), (12, .aconst_null, [], .int (-3), []), (14, .invokevirtual 197, [3, 11, 189], .null, []), (17, .goto 9, [26], .null, [])]
  | 20 => [(20, .aload 0, [], .null, []), (21, .aconst_null, [], .int (-1000000001), []), (23, .invokevirtual 73, [2, 11, 133], .null, []), (26, .nop, [26], .null, [])]
  | 26 => [(26, .ireturn, [0], .null, [])]
  | _ => []
/-- MoleSecretsModel.dug(I)I -/
def am_b191 : Nat → List En := fun L => match L with
  | 0 => [(0, .iload 1, [], .null, []), (1, .invokestatic 66, [143, 1], .null, []), (4, .ifCond .eq 16, [20], .null, []), (7, .aload 0, [], .null, []), (8, .iload 1, [], .null, []), (9, .aconst_null, [], .int 0, []), (10, .invokestatic 50, [139, 2], .null, []), (13, .aconst_null, [], .int 1, []), (14, .invokevirtual 197, [3, 11, 189], .null, []), (17, .goto 9, [26], .null, [])]
  | 20 => [(20, .aload 0, [], .null, []), (21, .aconst_null, [], .int (-1000000001), []), (23, .invokevirtual 73, [2, 11, 133], .null, []), (26, .nop, [26], .null, [])]
  | 26 => [(26, .ireturn, [0], .null, [])]
  | _ => []
/-- MoleSecretsModel.comes(II)I -/
def am_b192 : Nat → List En := fun L => match L with
  | 0 => [(0, .aload 0, [], .null, []), (1, .iload 1, [], .null, []), (2, .invokevirtual 111, [2, 11, 145], .null, []), (5, .ifCond .eq 23, [28], .null, []), (8, .iload 2, [], .null, []), (9, .invokestatic 66, [143, 1], .null, []), (12, .ifCond .eq 16, [28], .null, []), (15, .aload 0, [], .null, []), (16, .iload 1, [], .null, []), (17, .aconst_null, [], .int 1, []), (18, .invokestatic 46, [140, 2], .null, []), (21, .iload 2, [], .null, []), (22, .invokevirtual 197, [3, 11, 189], .null, []), (25, .goto 9, [34], .null, [])]
  | 28 => [(28, .aload 0, [], .null, []), (29, .aconst_null, [], .int (-1000000001), []), (31, .invokevirtual 73, [2, 11, 133], .null, []), (34, .nop, [34], .null, [])]
  | 34 => [(34, .ireturn, [0], .null, [])]
  | _ => []
/-- MoleSecretsModel.isSoon(I)Z -/
def am_b193 : Nat → List En := fun L => match L with
  | 0 => [(0, .iload 0, [], .null, []), (1, .i2l, [], .null, []), (2, .aconst_null, [], .long 1, []), (3, .aconst_null, [], .long 60, []), (6, .invokestatic 55, [132, 3], .null, []), (9, .ireturn, [1], .null, [])]
  | _ => []
/-- MoleSecretsModel.kind(II)I -/
def am_b194 : Nat → List En := fun L => match L with
  | 0 => [(0, .aload 0, [], .null, []), (1, .iload 1, [], .null, []), (2, .invokevirtual 111, [2, 11, 145], .null, []), (5, .ifCond .eq 10, [15], .null, []), (8, .iload 2, [], .null, []), (9, .invokestatic 85, [144, 1], .null, []), (12, .ifCond .ne 10, [22], .null, []), (15, .nop, [15], .null, [])]
  | 15 => [(15, .aload 0, [], .null, []), (16, .aconst_null, [], .int (-1000000001), []), (18, .invokevirtual 73, [2, 11, 133], .null, []), (21, .ireturn, [0], .null, [])]
  | 22 => [(22, .iload 1, [], .null, []), (23, .aconst_null, [], .int 0, []), (24, .invokestatic 46, [140, 2], .null, []), (27, .istore 3, [], .null, []), (28, .aload 0, [], .null, []), (29, .getfield 7, [11, 0], .null, []), (32, .iload 3, [], .null, []), (33, .iaload, [], .null, []), (34, .istore 4, [], .null, []), (36, .aconst_null, [], .int 0, []), (37, .istore 5, [], .null, []), (39, .aconst_null, [], .int 202, []), (42, .istore 6, [], .null, []), (44, .aconst_null, [], .int 0, []), (45, .istore 7, [], .null, []), (47, .nop, [47], .null, [])]
  | 47 => [(47, .iload 7, [], .null, []), (49, .aconst_null, [], .int 5, []), (50, .if_icmp .gt 64, [114], .null, []), (53, .aload 0, [], .null, []), (54, .getfield 7, [11, 0], .null, []), (57, .iload 3, [], .null, []), (58, .iload 7, [], .null, []), (60, .iastore, [], .null, []), (61, .aload 0, [], .null, []), (62, .aconst_null, [], .int 104, []), (64, .iload 2, [], .null, []), (65, .iadd, [], .null, []), (66, .aconst_null, [], .int (-3), []), (68, .aconst_null, [], .int 200, []), (71, .invokevirtual 193, [4, 11, 188], .null, []), (74, .istore 8, [], .null, []), (76, .iload 8, [], .null, []), (78, .iload 6, [], .null, []), (80, .if_icmp .ge 8, [88], .null, []), (83, .iload 7, [], .null, []), (85, .goto 5, [90], .null, [])]
  | 88 => [(88, .iload 5, [], .null, []), (90, .nop, [90], .null, [])]
  | 90 => [(90, .istore 5, [], .null, []), (92, .iload 8, [], .null, []), (94, .iload 6, [], .null, []), (96, .if_icmp .ge 8, [104], .null, []), (99, .iload 8, [], .null, []), (101, .goto 5, [106], .null, [])]
  | 104 => [(104, .iload 6, [], .null, []), (106, .nop, [106], .null, [])]
  | 106 => [(106, .istore 6, [], .null, []), (108, .iinc 7 1, [], .int 1, []), (111, .goto (-64), [47], .null, [])]
  | 114 => [(114, .aload 0, [], .null, []), (115, .getfield 7, [11, 0], .null, []), (118, .iload 3, [], .null, []), (119, .iload 4, [], .null, []), (121, .iastore, [], .null, []), (122, .iload 5, [], .null, []), (124, .ireturn, [0], .null, [])]
  | _ => []
/-- MoleSecretsModel.lead(II)I -/
def am_b195 : Nat → List En := fun L => match L with
  | 0 => [(0, .aload 0, [], .null, []), (1, .iload 1, [], .null, []), (2, .invokevirtual 111, [2, 11, 145], .null, []), (5, .ifCond .eq 10, [15], .null, []), (8, .iload 2, [], .null, []), (9, .invokestatic 202, [193, 1], .null, []), (12, .ifCond .ne 10, [22], .null, []), (15, .nop, [15], .null, [])]
  | 15 => [(15, .aload 0, [], .null, []), (16, .aconst_null, [], .int (-1000000001), []), (18, .invokevirtual 73, [2, 11, 133], .null, []), (21, .ireturn, [0], .null, [])]
  | 22 => [(22, .iload 1, [], .null, []), (23, .aconst_null, [], .int 3, []), (24, .invokestatic 46, [140, 2], .null, []), (27, .istore 3, [], .null, []), (28, .aload 0, [], .null, []), (29, .getfield 7, [11, 0], .null, []), (32, .iload 3, [], .null, []), (33, .iaload, [], .null, []), (34, .istore 4, [], .null, []), (36, .aconst_null, [], .int 0, []), (37, .istore 5, [], .null, []), (39, .aconst_null, [], .int (-1), []), (40, .istore 6, [], .null, []), (42, .aconst_null, [], .int 0, []), (43, .istore 7, [], .null, []), (45, .nop, [45], .null, [])]
  | 45 => [(45, .iload 7, [], .null, []), (47, .aconst_null, [], .int 30, []), (49, .if_icmp .ge 56, [105], .null, []), (52, .aload 0, [], .null, []), (53, .getfield 7, [11, 0], .null, []), (56, .iload 3, [], .null, []), (57, .iload 7, [], .null, []), (59, .iastore, [], .null, []), (60, .aload 0, [], .null, []), (61, .iload 2, [], .null, []), (62, .invokevirtual 205, [2, 11, 185], .null, []), (65, .istore 8, [], .null, []), (67, .iload 8, [], .null, []), (69, .iload 6, [], .null, []), (71, .if_icmp .le 8, [79], .null, []), (74, .iload 7, [], .null, []), (76, .goto 5, [81], .null, [])]
  | 79 => [(79, .iload 5, [], .null, []), (81, .nop, [81], .null, [])]
  | 81 => [(81, .istore 5, [], .null, []), (83, .iload 8, [], .null, []), (85, .iload 6, [], .null, []), (87, .if_icmp .le 8, [95], .null, []), (90, .iload 8, [], .null, []), (92, .goto 5, [97], .null, [])]
  | 95 => [(95, .iload 6, [], .null, []), (97, .nop, [97], .null, [])]
  | 97 => [(97, .istore 6, [], .null, []), (99, .iinc 7 1, [], .int 1, []), (102, .goto (-57), [45], .null, [])]
  | 105 => [(105, .aload 0, [], .null, []), (106, .getfield 7, [11, 0], .null, []), (109, .iload 3, [], .null, []), (110, .iload 4, [], .null, []), (112, .iastore, [], .null, []), (113, .iload 5, [], .null, []), (115, .ireturn, [0], .null, [])]
  | _ => []
/-- MoleSecretsModel.dig(I)I -/
def am_b196 : Nat → List En := fun L => match L with
  | 0 => [(0, .iload 1, [], .null, []), (1, .invokestatic 202, [193, 1], .null, []), (4, .ifCond .ne 10, [14], .null, []), (7, .aload 0, [], .null, []), (8, .aconst_null, [], .int (-1000000001), []), (10, .invokevirtual 73, [2, 11, 133], .null, []), (13, .ireturn, [0], .null, [])]
  | 14 => [(14, .aconst_null, [], .int (-1), []), (15, .istore 2, [], .null, []), (16, .aconst_null, [], .int 999999, []), (18, .istore 3, [], .null, []), (19, .aconst_null, [], .int 0, []), (20, .istore 4, [], .null, []), (22, .nop, [22], .null, [])]
  | 22 => [(22, .iload 4, [], .null, []), (24, .aconst_null, [], .int 30, []), (26, .if_icmp .ge 75, [101], .null, []), (29, .aload 0, [], .null, []), (30, .iload 4, [], .null, []), (32, .invokevirtual 147, [2, 11, 142], .null, []), (35, .ifCond .ne 60, [95], .null, []), (38, .aload 0, [], .null, []), (39, .getfield 7, [11, 0], .null, []), (42, .iload 4, [], .null, []), (44, .aconst_null, [], .int 0, []), (45, .invokestatic 50, [139, 2], .null, []), (48, .aconst_null, [], .int 1, []), (49, .iastore, [], .null, []), (50, .aload 0, [], .null, []), (51, .iload 1, [], .null, []), (52, .invokevirtual 209, [2, 11, 184], .null, []), (55, .istore 5, [], .null, []), (57, .aload 0, [], .null, []), (58, .getfield 7, [11, 0], .null, []), (61, .iload 4, [], .null, []), (63, .aconst_null, [], .int 0, []), (64, .invokestatic 50, [139, 2], .null, []), (67, .aconst_null, [], .int 0, []), (68, .iastore, [], .null, []), (69, .iload 5, [], .null, []), (71, .iload 3, [], .null, []), (72, .if_icmp .ge 8, [80], .null, []), (75, .iload 4, [], .null, []), (77, .goto 4, [81], .null, [])]
  | 80 => [(80, .iload 2, [], .null, []), (81, .nop, [81], .null, [])]
  | 81 => [(81, .istore 2, [], .null, []), (82, .iload 5, [], .null, []), (84, .iload 3, [], .null, []), (85, .if_icmp .ge 8, [93], .null, []), (88, .iload 5, [], .null, []), (90, .goto 4, [94], .null, [])]
  | 93 => [(93, .iload 3, [], .null, []), (94, .nop, [94], .null, [])]
  | 94 => [(94, .istore 3, [], .null, []), (95, .nop, [95], .null, [])]
  | 95 => [(95, .iinc 4 1, [], .int 1, []), (98, .goto (-76), [22], .null, [])]
  | 101 => [(101, .iload 2, [], .null, []), (102, .ifCond .ge 12, [114], .null, []), (105, .aload 0, [], .null, []), (106, .aconst_null, [], .int (-1000000004), []), (108, .invokevirtual 73, [2, 11, 133], .null, []), (111, .goto 4, [115], .null, [])]
  | 114 => [(114, .iload 2, [], .null, []), (115, .nop, [115], .null, [])]
  | 115 => [(115, .ireturn, [0], .null, [])]
  | _ => []
/-- MoleSecretsModel.leave(I)I -/
def am_b197 : Nat → List En := fun L => match L with
  | 0 => [(0, .iload 1, [], .null, []), (1, .invokestatic 85, [144, 1], .null, []), (4, .ifCond .ne 10, [14], .null, []), (7, .aload 0, [], .null, []), (8, .aconst_null, [], .int (-1000000001), []), (10, .invokevirtual 73, [2, 11, 133], .null, []), (13, .ireturn, [0], .null, [])]
  | 14 => [(14, .aload 0, [], .null, []), (15, .invokevirtual 212, [1, 11, 134], .null, []), (18, .aconst_null, [], .int (-1), []), (19, .istore 2, [], .null, []), (20, .aconst_null, [], .int 61, []), (22, .istore 3, [], .null, []), (23, .aconst_null, [], .int 0, []), (24, .istore 4, [], .null, []), (26, .nop, [26], .null, [])]
  | 26 => [(26, .iload 4, [], .null, []), (28, .aconst_null, [], .int 30, []), (30, .if_icmp .ge 57, [87], .null, []), (33, .aload 0, [], .null, []), (34, .iload 1, [], .null, []), (35, .iload 4, [], .null, []), (37, .invokevirtual 90, [3, 11, 155], .null, []), (40, .pop, [], .null, []), (41, .aload 0, [], .null, []), (42, .aconst_null, [], .int 104, []), (44, .iload 1, [], .null, []), (45, .iadd, [], .null, []), (46, .aconst_null, [], .int (-3), []), (48, .aconst_null, [], .int 60, []), (50, .invokevirtual 193, [4, 11, 188], .null, []), (53, .istore 5, [], .null, []), (55, .iload 5, [], .null, []), (57, .iload 3, [], .null, []), (58, .if_icmp .ge 8, [66], .null, []), (61, .iload 4, [], .null, []), (63, .goto 4, [67], .null, [])]
  | 66 => [(66, .iload 2, [], .null, []), (67, .nop, [67], .null, [])]
  | 67 => [(67, .istore 2, [], .null, []), (68, .iload 5, [], .null, []), (70, .iload 3, [], .null, []), (71, .if_icmp .ge 8, [79], .null, []), (74, .iload 5, [], .null, []), (76, .goto 4, [80], .null, [])]
  | 79 => [(79, .iload 3, [], .null, []), (80, .nop, [80], .null, [])]
  | 80 => [(80, .istore 3, [], .null, []), (81, .iinc 4 1, [], .int 1, []), (84, .goto (-58), [26], .null, [])]
  | 87 => [(87, .aload 0, [], .null, []), (88, .invokevirtual 215, [1, 11, 135], .null, []), (91, .iload 2, [], .null, []), (92, .ifCond .ge 12, [104], .null, []), (95, .aload 0, [], .null, []), (96, .aconst_null, [], .int (-1000000004), []), (98, .invokevirtual 73, [2, 11, 133], .null, []), (101, .goto 4, [105], .null, [])]
  | 104 => [(104, .iload 2, [], .null, []), (105, .nop, [105], .null, [])]
  | 105 => [(105, .ireturn, [0], .null, [])]
  | _ => []
/-- MoleSecretsModel.dismiss(I)I -/
def am_b198 : Nat → List En := fun L => match L with
  | 0 => [(0, .iload 1, [], .null, []), (1, .invokestatic 202, [193, 1], .null, []), (4, .ifCond .ne 10, [14], .null, []), (7, .aload 0, [], .null, []), (8, .aconst_null, [], .int (-1000000001), []), (10, .invokevirtual 73, [2, 11, 133], .null, []), (13, .ireturn, [0], .null, [])]
  | 14 => [(14, .aconst_null, [], .int (-1), []), (15, .istore 2, [], .null, []), (16, .aconst_null, [], .int 999999, []), (18, .istore 3, [], .null, []), (19, .aconst_null, [], .int 0, []), (20, .istore 4, [], .null, []), (22, .nop, [22], .null, [])]
  | 22 => [(22, .iload 4, [], .null, []), (24, .aload 0, [], .null, []), (25, .getfield 7, [11, 0], .null, []), (28, .aconst_null, [], .int 1, []), (29, .iaload, [], .null, []), (30, .if_icmp .ge 48, [78], .null, []), (33, .aload 0, [], .null, []), (34, .iload 4, [], .null, []), (36, .putfield 25, [11, 6, 0], .null, []), (39, .aload 0, [], .null, []), (40, .iload 1, [], .null, []), (41, .invokevirtual 209, [2, 11, 184], .null, []), (44, .istore 5, [], .null, []), (46, .iload 5, [], .null, []), (48, .iload 3, [], .null, []), (49, .if_icmp .ge 8, [57], .null, []), (52, .iload 4, [], .null, []), (54, .goto 4, [58], .null, [])]
  | 57 => [(57, .iload 2, [], .null, []), (58, .nop, [58], .null, [])]
  | 58 => [(58, .istore 2, [], .null, []), (59, .iload 5, [], .null, []), (61, .iload 3, [], .null, []), (62, .if_icmp .ge 8, [70], .null, []), (65, .iload 5, [], .null, []), (67, .goto 4, [71], .null, [])]
  | 70 => [(70, .iload 3, [], .null, []), (71, .nop, [71], .null, [])]
  | 71 => [(71, .istore 3, [], .null, []), (72, .iinc 4 1, [], .int 1, []), (75, .goto (-53), [22], .null, [])]
  | 78 => [(78, .aload 0, [], .null, []), (79, .aconst_null, [], .int (-1), []), (80, .putfield 25, [11, 6, 0], .null, []), (83, .iload 2, [], .null, []), (84, .ifCond .ge 12, [96], .null, []), (87, .aload 0, [], .null, []), (88, .aconst_null, [], .int (-1000000004), []), (90, .invokevirtual 73, [2, 11, 133], .null, []), (93, .goto 4, [97], .null, [])]
  | 96 => [(96, .iload 2, [], .null, []), (97, .nop, [97], .null, [])]
  | 97 => [(97, .ireturn, [0], .null, [])]
  | _ => []
/-- MoleSecretsModel.richest(I)I -/
def am_b199 : Nat → List En := fun L => match L with
  | 0 => [(0, .iload 1, [], .null, []), (1, .invokestatic 185, [182, 1], .null, []), (4, .ifCond .ne 10, [14], .null, []), (7, .aload 0, [], .null, []), (8, .aconst_null, [], .int (-1000000001), []), (10, .invokevirtual 73, [2, 11, 133], .null, []), (13, .ireturn, [0], .null, [])]
  | 14 => [(14, .aload 0, [], .null, []), (15, .getfield 7, [11, 0], .null, []), (18, .aconst_null, [], .int 1, []), (19, .iaload, [], .null, []), (20, .ifCond .ne 10, [30], .null, []), (23, .aload 0, [], .null, []), (24, .aconst_null, [], .int (-1000000004), []), (26, .invokevirtual 73, [2, 11, 133], .null, []), (29, .ireturn, [0], .null, [])]
  | 30 => [(30, .aload 0, [], .null, []), (31, .invokevirtual 179, [1, 11, 136], .null, []), (34, .aload 0, [], .null, []), (35, .iload 1, [], .null, []), (36, .invokevirtual 174, [2, 11, 180], .null, []), (39, .aconst_null, [], .int 0, []), (40, .istore 2, [], .null, []), (41, .aconst_null, [], .int 1, []), (42, .istore 3, [], .null, []), (43, .nop, [43], .null, [])]
  | 43 => [(43, .iload 3, [], .null, []), (44, .aload 0, [], .null, []), (45, .getfield 7, [11, 0], .null, []), (48, .aconst_null, [], .int 1, []), (49, .iaload, [], .null, []), (50, .if_icmp .ge 30, [80], .null, []), (53, .aload 0, [], .null, []), (54, .iload 3, [], .null, []), (55, .aconst_null, [], .int 5, []), (56, .invokevirtual 61, [3, 11, 141], .null, []), (59, .aload 0, [], .null, []), (60, .iload 2, [], .null, []), (61, .aconst_null, [], .int 5, []), (62, .invokevirtual 61, [3, 11, 141], .null, []), (65, .if_icmp .le 7, [72], .null, []), (68, .iload 3, [], .null, []), (69, .goto 4, [73], .null, [])]
  | 72 => [(72, .iload 2, [], .null, []), (73, .nop, [73], .null, [])]
  | 73 => [(73, .istore 2, [], .null, []), (74, .iinc 3 1, [], .int 1, []), (77, .goto (-34), [43], .null, [])]
  | 80 => [(80, .aload 0, [], .null, []), (81, .iload 2, [], .null, []), (82, .invokevirtual 182, [2, 11, 137], .null, []), (85, .ireturn, [0], .null, [])]
  | _ => []
/-- MoleSecretsModel.feed(II)I -/
def am_b200 : Nat → List En := fun L => match L with
  | 0 => [(0, .iload 2, [], .null, []), (1, .i2l, [], .null, []), (2, .aconst_null, [], .long 1, []), (3, .aconst_null, [], .long 4, []), (6, .invokestatic 55, [132, 3], .null, []), (9, .ifCond .ne 10, [19], .null, []), (12, .aload 0, [], .null, []), (13, .aconst_null, [], .int (-1000000001), []), (15, .invokevirtual 73, [2, 11, 133], .null, []), (18, .ireturn, [0], .null, [])]
  | 19 => [(19, .aload 0, [], .null, []), (20, .getfield 220, [11, 8], .null, []), (23, .iload 2, [], .null, []), (24, .iadd, [], .null, []), (25, .aconst_null, [], .int 120, []), (27, .if_icmp .le 10, [37], .null, []), (30, .aload 0, [], .null, []), (31, .aconst_null, [], .int (-1000000002), []), (33, .invokevirtual 73, [2, 11, 133], .null, []), (36, .ireturn, [0], .null, [])]
  | 37 => [(37, .iload 2, [], .null, []), (38, .aconst_null, [], .int 1, []), (39, .isub, [], .null, []), (40, .istore 3, [], .null, []), (41, .nop, [41], .null, [])]
  | 41 => [(41, .iload 3, [], .null, []), (42, .ifCond .lt 38, [80], .null, []), (45, .aload 0, [], .null, []), (46, .getfield 29, [11, 7], .null, []), (49, .aload 0, [], .null, []), (50, .getfield 220, [11, 8], .null, []), (53, .iload 1, [], .null, []), (54, .aconst_null, [], .int 8, []), (56, .iload 3, [], .null, []), (57, .imul, [], .null, []), (58, .ishr, [], .null, []), (59, .aconst_null, [], .int 255, []), (62, .iand, [], .null, []), (63, .iastore, [], .null, []), (64, .aload 0, [], .null, []), (65, .dup, [], .null, []), (66, .getfield 220, [11, 8], .null, []), (69, .aconst_null, [], .int 1, []), (70, .iadd, [], .null, []), (71, .putfield 220, [11, 8, 0], .null, []), (74, .iinc 3 (-1), [], .int (-1), []), (77, .goto (-36), [41], .null, [])]
  | 80 => [(80, .aload 0, [], .null, []), (81, .getfield 220, [11, 8], .null, []), (84, .ireturn, [0], .null, [])]
  | _ => []
/-- MoleSecretsModel.wipe()I -/
def am_b201 : Nat → List En := fun L => match L with
  | 0 => [(0, .aload 0, [], .null, []), (1, .getfield 220, [11, 8], .null, []), (4, .istore 1, [], .null, []), (5, .aload 0, [], .null, []), (6, .aconst_null, [], .int 0, []), (7, .putfield 220, [11, 8, 0], .null, []), (10, .iload 1, [], .null, []), (11, .ireturn, [0], .null, [])]
  | _ => []
/-- MoleSecretsModel.byteAt(I)I -/
def am_b202 : Nat → List En := fun L => match L with
  | 0 => [(0, .iload 1, [], .null, []), (1, .aload 0, [], .null, []), (2, .getfield 220, [11, 8], .null, []), (5, .if_icmp .ge 12, [17], .null, []), (8, .aload 0, [], .null, []), (9, .getfield 29, [11, 7], .null, []), (12, .iload 1, [], .null, []), (13, .iaload, [], .null, []), (14, .goto 4, [18], .null, [])]
  | 17 => [(17, .aconst_null, [], .int (-1), []), (18, .nop, [18], .null, [])]
  | 18 => [(18, .ireturn, [0], .null, [])]
  | _ => []
/-- MoleSecretsModel.isLetter(I)Z -/
def am_b203 : Nat → List En := fun L => match L with
  | 0 => [(0, .iload 0, [], .null, []), (1, .i2l, [], .null, []), (2, .aconst_null, [], .long 97, []), (5, .aconst_null, [], .long 122, []), (8, .invokestatic 55, [132, 3], .null, []), (11, .ireturn, [1], .null, [])]
  | _ => []
/-- MoleSecretsModel.isDigit(I)Z -/
def am_b204 : Nat → List En := fun L => match L with
  | 0 => [(0, .iload 0, [], .null, []), (1, .i2l, [], .null, []), (2, .aconst_null, [], .long 48, []), (5, .aconst_null, [], .long 57, []), (8, .invokestatic 55, [132, 3], .null, []), (11, .ireturn, [1], .null, [])]
  | _ => []
/-- MoleSecretsModel.token()V -/
def am_b205 : Nat → List En := fun L => match L with
  | 0 => [(0, .aload 0, [], .null, []), (1, .aload 0, [], .null, []), (2, .getfield 231, [11, 10], .null, []), (5, .putfield 234, [11, 9, 0], .null, []), (8, .nop, [8], .null, [])]
  | 8 => [(8, .aload 0, [], .null, []), (9, .aload 0, [], .null, []), (10, .getfield 234, [11, 9], .null, []), (13, .invokevirtual 237, [2, 11, 202], .null, []), (16, .aconst_null, [], .int 32, []), (18, .if_icmp .ne 16, [34], .null, []), (21, .aload 0, [], .null, []), (22, .dup, [], .null, []), (23, .getfield 234, [11, 9], .null, []), (26, .aconst_null, [], .int 1, []), (27, .iadd, [], .null, []), (28, .putfield 234, [11, 9, 0], .null, []), (31, .goto (-23), [8], .null, [])]
  | 34 => [(34, .aload 0, [], .null, []), (35, .aload 0, [], .null, []), (36, .getfield 234, [11, 9], .null, []), (39, .invokevirtual 237, [2, 11, 202], .null, []), (42, .invokestatic 240, [203, 1], .null, []), (45, .istore 1, [], .null, []), (46, .aload 0, [], .null, []), (47, .aload 0, [], .null, []), (48, .getfield 234, [11, 9], .null, []), (51, .invokevirtual 237, [2, 11, 202], .null, []), (54, .invokestatic 243, [204, 1], .null, []), (57, .istore 2, [], .null, []), (58, .aload 0, [], .null, []), (59, .aload 0, [], .null, []), (60, .getfield 234, [11, 9], .null, []), (63, .aload 0, [], .null, []), (64, .getfield 220, [11, 8], .null, []), (67, .if_icmp .ge 12, [79], .null, []), (70, .aload 0, [], .null, []), (71, .getfield 234, [11, 9], .null, []), (74, .aconst_null, [], .int 1, []), (75, .iadd, [], .null, []), (76, .goto 7, [83], .null, [])]
  | 79 => [(79, .aload 0, [], .null, []), (80, .getfield 234, [11, 9], .null, []), (83, .nop, [83], .null, [])]
  | 83 => [(83, .putfield 231, [11, 10, 0], .null, []), (86, .nop, [86], .null, [])]
  | 86 => [(86, .iload 1, [], .null, []), (87, .ifCond .eq 17, [104], .null, []), (90, .aload 0, [], .null, []), (91, .aload 0, [], .null, []), (92, .getfield 231, [11, 10], .null, []), (95, .invokevirtual 237, [2, 11, 202], .null, []), (98, .invokestatic 240, [203, 1], .null, []), (101, .ifCond .ne 21, [122], .null, []), (104, .nop, [104], .null, [])]
  | 104 => [(104, .iload 2, [], .null, []), (105, .ifCond .eq 30, [135], .null, []), (108, .aload 0, [], .null, []), (109, .aload 0, [], .null, []), (110, .getfield 231, [11, 10], .null, []), (113, .invokevirtual 237, [2, 11, 202], .null, []), (116, .invokestatic 243, [204, 1], .null, []), (119, .ifCond .eq 16, [135], .null, []), (122, .nop, [122], .null, [])]
  | 122 => [(122, .aload 0, [], .null, []), (123, .dup, [], .null, []), (124, .getfield 231, [11, 10], .null, []), (127, .aconst_null, [], .int 1, []), (128, .iadd, [], .null, []), (129, .putfield 231, [11, 10, 0], .null, []), (132, .goto (-46), [86], .null, [])]
  | 135 => [(135, .return_, [], .null, [])]
  | _ => []
/-- MoleSecretsModel.must(Z)V -/
def am_b206 : Nat → List En := fun L => match L with
  | 0 => [(0, .aload 0, [], .null, []), (1, .aload 0, [], .null, []), (2, .getfield 246, [11, 12], .null, []), (5, .ifCond .ne 7, [12], .null, []), (8, .iload 1, [], .null, []), (9, .ifCond .ne 7, [16], .null, []), (12, .nop, [12], .null, [])]
  | 12 => [(12, .aconst_null, [], .int 1, []), (13, .goto 4, [17], .null, [])]
  | 16 => [(16, .aconst_null, [], .int 0, []), (17, .nop, [17], .null, [])]
  | 17 => [(17, .putfield 246, [11, 12, 1], .null, []), (20, .aload 0, [], .null, []), (21, .getfield 246, [11, 12], .null, []), (24, .ifCond .ne 7, [31], .null, []), (27, .aload 0, [], .null, []), (28, .invokevirtual 250, [1, 11, 205], .null, []), (31, .nop, [31], .null, [])]
  | 31 => [(31, .return_, [], .null, [])]
  | _ => []
/-- MoleSecretsModel.word()J -/
def am_b207 : Nat → List En := fun L => match L with
  | 0 => [(0, .aconst_null, [], .long 0, []), (1, .lstore 1, [], .null, []), (2, .aload 0, [], .null, []), (3, .getfield 234, [11, 9], .null, []), (6, .istore 3, [], .null, []), (7, .nop, [7], .null, [])]
  | 7 => [(7, .iload 3, [], .null, []), (8, .aload 0, [], .null, []), (9, .getfield 231, [11, 10], .null, []), (12, .if_icmp .ge 38, [50], .null, []), (15, .lload 1, [], .null, []), (16, .aconst_null, [], .long 36028797018963967, []), (19, .lcmp, [], .null, []), (20, .ifCond .le 7, [27], .null, []), (23, .lload 1, [], .null, []), (24, .goto 19, [43], .null, [])]
  | 27 => [(27, .aconst_null, [], .long 32, []), (30, .lload 1, [], .null, []), (31, .lmul, [], .null, []), (32, .aload 0, [], .null, []), (33, .getfield 29, [11, 7], .null, []), (36, .iload 3, [], .null, []), (37, .iaload, [], .null, []), (38, .aconst_null, [], .int 96, []), (40, .isub, [], .null, []), (41, .i2l, [], .null, []), (42, .ladd, [], .null, []), (43, .nop, [43], .null, [])]
  | 43 => [(43, .lstore 1, [], .null, []), (44, .iinc 3 1, [], .int 1, []), (47, .goto (-40), [7], .null, [])]
  | 50 => [(50, .aload 0, [], .null, []), (51, .getfield 246, [11, 12], .null, []), (54, .ifCond .ne 17, [71], .null, []), (57, .aload 0, [], .null, []), (58, .aload 0, [], .null, []), (59, .getfield 234, [11, 9], .null, []), (62, .invokevirtual 237, [2, 11, 202], .null, []), (65, .invokestatic 240, [203, 1], .null, []), (68, .ifCond .ne 7, [75], .null, []), (71, .nop, [71], .null, [])]
  | 71 => [(71, .aconst_null, [], .long 0, []), (72, .goto 4, [76], .null, [])]
  | 75 => [(75, .lload 1, [], .null, []), (76, .nop, [76], .null, [])]
  | 76 => [(76, .lreturn, [], .null, [])]
  | _ => []
/-- MoleSecretsModel.number(II)V -/
def am_b208 : Nat → List En := fun L => match L with
  | 0 => [(0, .aload 0, [], .null, []), (1, .getfield 246, [11, 12], .null, []), (4, .ifCond .eq 4, [8], .null, []), (7, .return_, [], .null, [])]
  | 8 => [(8, .aload 0, [], .null, []), (9, .aload 0, [], .null, []), (10, .getfield 234, [11, 9], .null, []), (13, .invokevirtual 237, [2, 11, 202], .null, []), (16, .invokestatic 243, [204, 1], .null, []), (19, .istore 3, [], .null, []), (20, .aconst_null, [], .int 0, []), (21, .istore 4, [], .null, []), (23, .aload 0, [], .null, []), (24, .getfield 234, [11, 9], .null, []), (27, .istore 5, [], .null, []), (29, .nop, [29], .null, [])]
  | 29 => [(29, .iload 5, [], .null, []), (31, .aload 0, [], .null, []), (32, .getfield 231, [11, 10], .null, []), (35, .if_icmp .ge 44, [79], .null, []), (38, .iload 3, [], .null, []), (39, .ifCond .eq 40, [79], .null, []), (42, .iload 4, [], .null, []), (44, .aconst_null, [], .int 999, []), (47, .if_icmp .le 8, [55], .null, []), (50, .iload 4, [], .null, []), (52, .goto 19, [71], .null, [])]
  | 55 => [(55, .aconst_null, [], .int 10, []), (57, .iload 4, [], .null, []), (59, .imul, [], .null, []), (60, .aload 0, [], .null, []), (61, .getfield 29, [11, 7], .null, []), (64, .iload 5, [], .null, []), (66, .iaload, [], .null, []), (67, .iadd, [], .null, []), (68, .aconst_null, [], .int 48, []), (70, .isub, [], .null, []), (71, .nop, [71], .null, [])]
  | 71 => [(71, .istore 4, [], .null, []), (73, .iinc 5 1, [], .int 1, []), (76, .goto (-47), [29], .null, [])]
  | 79 => [(79, .aload 0, [], .null, []), (80, .iload 4, [], .null, []), (82, .putfield 257, [11, 11, 0], .null, []), (85, .aload 0, [], .null, []), (86, .iload 3, [], .null, []), (87, .ifCond .eq 20, [107], .null, []), (90, .iload 4, [], .null, []), (92, .i2l, [], .null, []), (93, .iload 1, [], .null, []), (94, .i2l, [], .null, []), (95, .iload 2, [], .null, []), (96, .i2l, [], .null, []), (97, .invokestatic 55, [132, 3], .null, []), (100, .ifCond .eq 7, [107], .null, []), (103, .aconst_null, [], .int 1, []), (104, .goto 4, [108], .null, [])]
  | 107 => [(107, .aconst_null, [], .int 0, []), (108, .nop, [108], .null, [])]
  | 108 => [(108, .invokevirtual 260, [2, 11, 206], .null, []), (111, .return_, [], .null, [])]
  | _ => []
/-- MoleSecretsModel.kindHere()I -/
def am_b209 : Nat → List En := fun L => match L with
  | 0 => [(0, .aload 0, [], .null, []), (1, .invokevirtual 264, [1, 11, 207], .null, []), (4, .lstore 1, [], .null, []), (5, .lload 1, [], .null, []), (6, .aconst_null, [], .long 441733, []), (9, .lcmp, [], .null, []), (10, .ifCond .ne 7, [17], .null, []), (13, .aconst_null, [], .int 0, []), (14, .goto 64, [78], .null, [])]
  | 17 => [(17, .lload 1, [], .null, []), (18, .aconst_null, [], .long 143891634, []), (21, .lcmp, [], .null, []), (22, .ifCond .ne 7, [29], .null, []), (25, .aconst_null, [], .int 1, []), (26, .goto 52, [78], .null, [])]
  | 29 => [(29, .lload 1, [], .null, []), (30, .aconst_null, [], .long 3274253490, []), (33, .lcmp, [], .null, []), (34, .ifCond .ne 7, [41], .null, []), (37, .aconst_null, [], .int 2, []), (38, .goto 40, [78], .null, [])]
  | 41 => [(41, .lload 1, [], .null, []), (42, .aconst_null, [], .long 19516410020, []), (45, .lcmp, [], .null, []), (46, .ifCond .ne 7, [53], .null, []), (49, .aconst_null, [], .int 3, []), (50, .goto 28, [78], .null, [])]
  | 53 => [(53, .lload 1, [], .null, []), (54, .aconst_null, [], .long 437899442, []), (57, .lcmp, [], .null, []), (58, .ifCond .ne 7, [65], .null, []), (61, .aconst_null, [], .int 4, []), (62, .goto 16, [78], .null, [])]
  | 65 => [(65, .lload 1, [], .null, []), (66, .aconst_null, [], .long 9314051250, []), (69, .lcmp, [], .null, []), (70, .ifCond .ne 7, [77], .null, []), (73, .aconst_null, [], .int 5, []), (74, .goto 4, [78], .null, [])]
  | 77 => [(77, .aconst_null, [], .int (-1), []), (78, .nop, [78], .null, [])]
  | 78 => [(78, .ireturn, [0], .null, [])]
  | _ => []
/-- MoleSecretsModel.moleItem(I)V -/
def am_b210 : Nat → List En := fun L => match L with
  | 0 => [(0, .aload 0, [], .null, []), (1, .aload 0, [], .null, []), (2, .getfield 7, [11, 0], .null, []), (5, .aconst_null, [], .int 1, []), (6, .iaload, [], .null, []), (7, .aconst_null, [], .int 6, []), (9, .if_icmp .ge 7, [16], .null, []), (12, .aconst_null, [], .int 1, []), (13, .goto 4, [17], .null, [])]
  | 16 => [(16, .aconst_null, [], .int 0, []), (17, .nop, [17], .null, [])]
  | 17 => [(17, .invokevirtual 260, [2, 11, 206], .null, []), (20, .aload 0, [], .null, []), (21, .aconst_null, [], .int 0, []), (22, .aconst_null, [], .int 29, []), (24, .invokevirtual 280, [3, 11, 208], .null, []), (27, .aload 0, [], .null, []), (28, .getfield 257, [11, 11], .null, []), (31, .istore 2, [], .null, []), (32, .aload 0, [], .null, []), (33, .aconst_null, [], .int 0, []), (34, .aconst_null, [], .int 29, []), (36, .invokevirtual 280, [3, 11, 208], .null, []), (39, .aload 0, [], .null, []), (40, .getfield 246, [11, 12], .null, []), (43, .ifCond .ne 14, [57], .null, []), (46, .aload 0, [], .null, []), (47, .iload 1, [], .null, []), (48, .iload 2, [], .null, []), (49, .aload 0, [], .null, []), (50, .getfield 257, [11, 11], .null, []), (53, .invokevirtual 107, [4, 11, 164], .null, []), (56, .pop, [], .null, []), (57, .nop, [57], .null, [])]
  | 57 => [(57, .return_, [], .null, [])]
  | _ => []
/-- MoleSecretsModel.dugItem()V -/
def am_b211 : Nat → List En := fun L => match L with
  | 0 => [(0, .aload 0, [], .null, []), (1, .aconst_null, [], .int 1, []), (2, .invokevirtual 260, [2, 11, 206], .null, []), (5, .aload 0, [], .null, []), (6, .aconst_null, [], .int 0, []), (7, .aconst_null, [], .int 29, []), (9, .invokevirtual 280, [3, 11, 208], .null, []), (12, .aload 0, [], .null, []), (13, .getfield 246, [11, 12], .null, []), (16, .ifCond .ne 17, [33], .null, []), (19, .aload 0, [], .null, []), (20, .getfield 7, [11, 0], .null, []), (23, .aload 0, [], .null, []), (24, .getfield 257, [11, 11], .null, []), (27, .aconst_null, [], .int 0, []), (28, .invokestatic 50, [139, 2], .null, []), (31, .aconst_null, [], .int 1, []), (32, .iastore, [], .null, []), (33, .nop, [33], .null, [])]
  | 33 => [(33, .return_, [], .null, [])]
  | _ => []
/-- MoleSecretsModel.secretItem()V -/
def am_b212 : Nat → List En := fun L => match L with
  | 0 => [(0, .aload 0, [], .null, []), (1, .aconst_null, [], .int 1, []), (2, .invokevirtual 260, [2, 11, 206], .null, []), (5, .aload 0, [], .null, []), (6, .aconst_null, [], .int 0, []), (7, .aconst_null, [], .int 5, []), (8, .invokevirtual 280, [3, 11, 208], .null, []), (11, .aload 0, [], .null, []), (12, .getfield 257, [11, 11], .null, []), (15, .istore 1, [], .null, []), (16, .aload 0, [], .null, []), (17, .aconst_null, [], .int 0, []), (18, .aconst_null, [], .int 29, []), (20, .invokevirtual 280, [3, 11, 208], .null, []), (23, .aload 0, [], .null, []), (24, .getfield 246, [11, 12], .null, []), (27, .ifCond .ne 13, [40], .null, []), (30, .aload 0, [], .null, []), (31, .iload 1, [], .null, []), (32, .aload 0, [], .null, []), (33, .getfield 257, [11, 11], .null, []), (36, .invokevirtual 90, [3, 11, 155], .null, []), (39, .pop, [], .null, []), (40, .nop, [40], .null, [])]
  | 40 => [(40, .return_, [], .null, [])]
  | _ => []
/-- MoleSecretsModel.item()V -/
def am_b213 : Nat → List En := fun L => match L with
  | 0 => [(0, .aload 0, [], .null, []), (1, .invokevirtual 283, [1, 11, 209], .null, []), (4, .istore 1, [], .null, []), (5, .aload 0, [], .null, []), (6, .invokevirtual 264, [1, 11, 207], .null, []), (9, .lstore 2, [], .null, []), (10, .iload 1, [], .null, []), (11, .ifCond .lt 11, [22], .null, []), (14, .aload 0, [], .null, []), (15, .iload 1, [], .null, []), (16, .invokevirtual 286, [2, 11, 210], .null, []), (19, .goto 38, [57], .null, [])]
  | 22 => [(22, .lload 2, [], .null, []), (23, .aconst_null, [], .long 4775, []), (26, .lcmp, [], .null, []), (27, .ifCond .ne 10, [37], .null, []), (30, .aload 0, [], .null, []), (31, .invokevirtual 291, [1, 11, 211], .null, []), (34, .goto 23, [57], .null, [])]
  | 37 => [(37, .lload 2, [], .null, []), (38, .aconst_null, [], .long 642894004, []), (41, .lcmp, [], .null, []), (42, .ifCond .ne 10, [52], .null, []), (45, .aload 0, [], .null, []), (46, .invokevirtual 296, [1, 11, 212], .null, []), (49, .goto 8, [57], .null, [])]
  | 52 => [(52, .aload 0, [], .null, []), (53, .aconst_null, [], .int 0, []), (54, .invokevirtual 260, [2, 11, 206], .null, []), (57, .nop, [57], .null, [])]
  | 57 => [(57, .return_, [], .null, [])]
  | _ => []
/-- MoleSecretsModel.shire()I -/
def am_b214 : Nat → List En := fun L => match L with
  | 0 => [(0, .aload 0, [], .null, []), (1, .invokevirtual 212, [1, 11, 134], .null, []), (4, .aload 0, [], .null, []), (5, .aconst_null, [], .int 0, []), (6, .putfield 246, [11, 12, 1], .null, []), (9, .aload 0, [], .null, []), (10, .aconst_null, [], .int 0, []), (11, .putfield 231, [11, 10, 0], .null, []), (14, .aload 0, [], .null, []), (15, .invokevirtual 250, [1, 11, 205], .null, []), (18, .aconst_null, [], .int 1, []), (19, .istore 1, [], .null, []), (20, .aload 0, [], .null, []), (21, .invokevirtual 299, [1, 11, 213], .null, []), (24, .nop, [24], .null, [])]
  | 24 => [(24, .aload 0, [], .null, []), (25, .getfield 246, [11, 12], .null, []), (28, .ifCond .ne 31, [59], .null, []), (31, .aload 0, [], .null, []), (32, .aload 0, [], .null, []), (33, .getfield 234, [11, 9], .null, []), (36, .invokevirtual 237, [2, 11, 202], .null, []), (39, .aconst_null, [], .int 59, []), (41, .if_icmp .ne 18, [59], .null, []), (44, .aload 0, [], .null, []), (45, .aconst_null, [], .int 1, []), (46, .invokevirtual 260, [2, 11, 206], .null, []), (49, .aload 0, [], .null, []), (50, .invokevirtual 299, [1, 11, 213], .null, []), (53, .iinc 1 1, [], .int 1, []), (56, .goto (-32), [24], .null, [])]
  | 59 => [(59, .aload 0, [], .null, []), (60, .aload 0, [], .null, []), (61, .getfield 246, [11, 12], .null, []), (64, .ifCond .ne 14, [78], .null, []), (67, .aload 0, [], .null, []), (68, .getfield 234, [11, 9], .null, []), (71, .aload 0, [], .null, []), (72, .getfield 220, [11, 8], .null, []), (75, .if_icmp .ge 7, [82], .null, []), (78, .nop, [78], .null, [])]
  | 78 => [(78, .aconst_null, [], .int 1, []), (79, .goto 4, [83], .null, [])]
  | 82 => [(82, .aconst_null, [], .int 0, []), (83, .nop, [83], .null, [])]
  | 83 => [(83, .putfield 246, [11, 12, 1], .null, []), (86, .aload 0, [], .null, []), (87, .getfield 246, [11, 12], .null, []), (90, .ifCond .eq 7, [97], .null, []), (93, .aload 0, [], .null, []), (94, .invokevirtual 215, [1, 11, 135], .null, []), (97, .nop, [97], .null, [])]
  | 97 => [(97, .aload 0, [], .null, []), (98, .aconst_null, [], .int 0, []), (99, .putfield 220, [11, 8, 0], .null, []), (102, .aload 0, [], .null, []), (103, .getfield 246, [11, 12], .null, []), (106, .ifCond .eq 12, [118], .null, []), (109, .aconst_null, [], .int (-1), []), (110, .aload 0, [], .null, []), (111, .getfield 234, [11, 9], .null, []), (114, .isub, [], .null, []), (115, .goto 4, [119], .null, [])]
  | 118 => [(118, .iload 1, [], .null, []), (119, .nop, [119], .null, [])]
  | 119 => [(119, .ireturn, [0], .null, [])]
  | _ => []
/-- MoleSecretsModel.isOne(I)Z -/
def am_b215 : Nat → List En := fun L => match L with
  | 0 => [(0, .iload 0, [], .null, []), (1, .i2l, [], .null, []), (2, .aconst_null, [], .long 0, []), (3, .aconst_null, [], .long 3, []), (6, .invokestatic 55, [132, 3], .null, []), (9, .ireturn, [1], .null, [])]
  | _ => []
/-- MoleSecretsModel.sheet(III)I -/
def am_b216 : Nat → List En := fun L => match L with
  | 0 => [(0, .iload 1, [], .null, []), (1, .invokestatic 302, [215, 1], .null, []), (4, .ifCond .eq 25, [29], .null, []), (7, .iload 2, [], .null, []), (8, .ifCond .eq 28, [36], .null, []), (11, .iload 2, [], .null, []), (12, .aconst_null, [], .int 8, []), (14, .if_icmp .eq 22, [36], .null, []), (17, .iload 2, [], .null, []), (18, .aconst_null, [], .int 16, []), (20, .if_icmp .eq 16, [36], .null, []), (23, .iload 2, [], .null, []), (24, .aconst_null, [], .int 64, []), (26, .if_icmp .eq 10, [36], .null, []), (29, .nop, [29], .null, [])]
  | 29 => [(29, .aload 0, [], .null, []), (30, .aconst_null, [], .int (-1000000001), []), (32, .invokevirtual 73, [2, 11, 133], .null, []), (35, .ireturn, [0], .null, [])]
  | 36 => [(36, .iload 3, [], .null, []), (37, .ifCond .ge 11, [48], .null, []), (40, .aload 0, [], .null, []), (41, .aconst_null, [], .int (-1000000007), []), (44, .invokevirtual 73, [2, 11, 133], .null, []), (47, .ireturn, [0], .null, [])]
  | 48 => [(48, .iload 3, [], .null, []), (49, .aconst_null, [], .int 40, []), (51, .if_icmp .le 10, [61], .null, []), (54, .aload 0, [], .null, []), (55, .aconst_null, [], .int (-1000000001), []), (57, .invokevirtual 73, [2, 11, 133], .null, []), (60, .ireturn, [0], .null, [])]
  | 61 => [(61, .aload 0, [], .null, []), (62, .getfield 32, [11, 13], .null, []), (65, .iload 1, [], .null, []), (66, .iload 2, [], .null, []), (67, .iastore, [], .null, []), (68, .aload 0, [], .null, []), (69, .getfield 35, [11, 14], .null, []), (72, .iload 1, [], .null, []), (73, .iload 2, [], .null, []), (74, .ifCond .ne 7, [81], .null, []), (77, .aconst_null, [], .int 0, []), (78, .goto 4, [82], .null, [])]
  | 81 => [(81, .iload 3, [], .null, []), (82, .nop, [82], .null, [])]
  | 82 => [(82, .iastore, [], .null, []), (83, .aconst_null, [], .int 0, []), (84, .istore 4, [], .null, []), (86, .nop, [86], .null, [])]
  | 86 => [(86, .iload 4, [], .null, []), (88, .aconst_null, [], .int 40, []), (90, .if_icmp .ge 22, [112], .null, []), (93, .aload 0, [], .null, []), (94, .getfield 38, [11, 15], .null, []), (97, .aconst_null, [], .int 40, []), (99, .iload 1, [], .null, []), (100, .imul, [], .null, []), (101, .iload 4, [], .null, []), (103, .iadd, [], .null, []), (104, .aconst_null, [], .long 0, []), (105, .lastore, [], .null, []), (106, .iinc 4 1, [], .int 1, []), (109, .goto (-23), [86], .null, [])]
  | 112 => [(112, .aload 0, [], .null, []), (113, .getfield 35, [11, 14], .null, []), (116, .iload 1, [], .null, []), (117, .iaload, [], .null, []), (118, .ireturn, [0], .null, [])]
  | _ => []
/-- MoleSecretsModel.narrowed(IJ)J -/
def am_b217 : Nat → List En := fun L => match L with
  | 0 => [(0, .iload 0, [], .null, []), (1, .aconst_null, [], .int 8, []), (3, .if_icmp .ne 10, [13], .null, []), (6, .lload 1, [], .null, []), (7, .l2i, [], .null, []), (8, .i2b, [], .null, []), (9, .i2l, [], .null, []), (10, .goto 17, [27], .null, [])]
  | 13 => [(13, .iload 0, [], .null, []), (14, .aconst_null, [], .int 16, []), (16, .if_icmp .ne 10, [26], .null, []), (19, .lload 1, [], .null, []), (20, .l2i, [], .null, []), (21, .i2s, [], .null, []), (22, .i2l, [], .null, []), (23, .goto 4, [27], .null, [])]
  | 26 => [(26, .lload 1, [], .null, []), (27, .nop, [27], .null, [])]
  | 27 => [(27, .lreturn, [], .null, [])]
  | _ => []
/-- MoleSecretsModel.wrongSheet(I)I -/
def am_b218 : Nat → List En := fun L => match L with
  | 0 => [(0, .iload 1, [], .null, []), (1, .invokestatic 302, [215, 1], .null, []), (4, .ifCond .ne 8, [12], .null, []), (7, .aconst_null, [], .int (-1000000001), []), (9, .goto 19, [28], .null, [])]
  | 12 => [(12, .aload 0, [], .null, []), (13, .getfield 32, [11, 13], .null, []), (16, .iload 1, [], .null, []), (17, .iaload, [], .null, []), (18, .ifCond .ne 9, [27], .null, []), (21, .aconst_null, [], .int (-1000000006), []), (24, .goto 4, [28], .null, [])]
  | 27 => [(27, .aconst_null, [], .int 0, []), (28, .nop, [28], .null, [])]
  | 28 => [(28, .ireturn, [0], .null, [])]
  | _ => []
/-- MoleSecretsModel.write(IIJ)J -/
def am_b219 : Nat → List En := fun L => match L with
  | 0 => [(0, .aload 0, [], .null, []), (1, .iload 1, [], .null, []), (2, .invokevirtual 307, [2, 11, 218], .null, []), (5, .istore 5, [], .null, []), (7, .iload 5, [], .null, []), (9, .ifCond .eq 11, [20], .null, []), (12, .aload 0, [], .null, []), (13, .iload 5, [], .null, []), (15, .invokevirtual 73, [2, 11, 133], .null, []), (18, .i2l, [], .null, []), (19, .lreturn, [], .null, [])]
  | 20 => [(20, .iload 2, [], .null, []), (21, .i2l, [], .null, []), (22, .aconst_null, [], .long 0, []), (23, .aload 0, [], .null, []), (24, .getfield 35, [11, 14], .null, []), (27, .iload 1, [], .null, []), (28, .iaload, [], .null, []), (29, .aconst_null, [], .int 1, []), (30, .isub, [], .null, []), (31, .i2l, [], .null, []), (32, .invokestatic 55, [132, 3], .null, []), (35, .ifCond .ne 11, [46], .null, []), (38, .aload 0, [], .null, []), (39, .aconst_null, [], .int (-1000000001), []), (41, .invokevirtual 73, [2, 11, 133], .null, []), (44, .i2l, [], .null, []), (45, .lreturn, [], .null, [])]
  | 46 => [(46, .aload 0, [], .null, []), (47, .getfield 38, [11, 15], .null, []), (50, .aconst_null, [], .int 40, []), (52, .iload 1, [], .null, []), (53, .imul, [], .null, []), (54, .iload 2, [], .null, []), (55, .iadd, [], .null, []), (56, .laload, [], .null, []), (57, .lstore 6, [], .null, []), (59, .aload 0, [], .null, []), (60, .getfield 38, [11, 15], .null, []), (63, .aconst_null, [], .int 40, []), (65, .iload 1, [], .null, []), (66, .imul, [], .null, []), (67, .iload 2, [], .null, []), (68, .iadd, [], .null, []), (69, .aload 0, [], .null, []), (70, .getfield 32, [11, 13], .null, []), (73, .iload 1, [], .null, []), (74, .iaload, [], .null, []), (75, .lload 3, [], .null, []), (76, .invokestatic 310, [217, 2], .null, []), (79, .lastore, [], .null, []), (80, .lload 6, [], .null, []), (82, .lreturn, [], .null, [])]
  | _ => []
/-- MoleSecretsModel.copy(IIIII)I -/
def am_b220 : Nat → List En := fun L => match L with
  | 0 => [(0, .iload 1, [], .null, []), (1, .invokestatic 302, [215, 1], .null, []), (4, .ifCond .eq 10, [14], .null, []), (7, .iload 3, [], .null, []), (8, .invokestatic 302, [215, 1], .null, []), (11, .ifCond .ne 10, [21], .null, []), (14, .nop, [14], .null, [])]
  | 14 => [(14, .aload 0, [], .null, []), (15, .aconst_null, [], .int (-1000000001), []), (17, .invokevirtual 73, [2, 11, 133], .null, []), (20, .ireturn, [0], .null, [])]
  | 21 => [(21, .aload 0, [], .null, []), (22, .getfield 32, [11, 13], .null, []), (25, .iload 1, [], .null, []), (26, .iaload, [], .null, []), (27, .ifCond .eq 12, [39], .null, []), (30, .aload 0, [], .null, []), (31, .getfield 32, [11, 13], .null, []), (34, .iload 3, [], .null, []), (35, .iaload, [], .null, []), (36, .ifCond .ne 11, [47], .null, []), (39, .nop, [39], .null, [])]
  | 39 => [(39, .aload 0, [], .null, []), (40, .aconst_null, [], .int (-1000000006), []), (43, .invokevirtual 73, [2, 11, 133], .null, []), (46, .ireturn, [0], .null, [])]
  | 47 => [(47, .aload 0, [], .null, []), (48, .getfield 32, [11, 13], .null, []), (51, .iload 1, [], .null, []), (52, .iaload, [], .null, []), (53, .aload 0, [], .null, []), (54, .getfield 32, [11, 13], .null, []), (57, .iload 3, [], .null, []), (58, .iaload, [], .null, []), (59, .if_icmp .eq 10, [69], .null, []), (62, .aload 0, [], .null, []), (63, .aconst_null, [], .int (-1000000003), []), (65, .invokevirtual 73, [2, 11, 133], .null, []), (68, .ireturn, [0], .null, [])]
  | 69 => [(69, .iload 2, [], .null, []), (70, .ifCond .lt 40, [110], .null, []), (73, .iload 4, [], .null, []), (75, .ifCond .lt 35, [110], .null, []), (78, .iload 5, [], .null, []), (80, .ifCond .lt 30, [110], .null, []), (83, .iload 5, [], .null, []), (85, .aload 0, [], .null, []), (86, .getfield 35, [11, 14], .null, []), (89, .iload 1, [], .null, []), (90, .iaload, [], .null, []), (91, .iload 2, [], .null, []), (92, .isub, [], .null, []), (93, .if_icmp .gt 17, [110], .null, []), (96, .iload 5, [], .null, []), (98, .aload 0, [], .null, []), (99, .getfield 35, [11, 14], .null, []), (102, .iload 3, [], .null, []), (103, .iaload, [], .null, []), (104, .iload 4, [], .null, []), (106, .isub, [], .null, []), (107, .if_icmp .le 10, [117], .null, []), (110, .nop, [110], .null, [])]
  | 110 => [(110, .aload 0, [], .null, []), (111, .aconst_null, [], .int (-1000000001), []), (113, .invokevirtual 73, [2, 11, 133], .null, []), (116, .ireturn, [0], .null, [])]
  | 117 => [(117, .aconst_null, [], .int 0, []), (118, .istore 6, [], .null, []), (120, .nop, [120], .null, [])]
  | 120 => [(120, .iload 6, [], .null, []), (122, .iload 5, [], .null, []), (124, .if_icmp .ge 30, [154], .null, []), (127, .aload 0, [], .null, []), (128, .getfield 42, [11, 16], .null, []), (131, .iload 6, [], .null, []), (133, .aload 0, [], .null, []), (134, .getfield 38, [11, 15], .null, []), (137, .aconst_null, [], .int 40, []), (139, .iload 1, [], .null, []), (140, .imul, [], .null, []), (141, .iload 2, [], .null, []), (142, .iadd, [], .null, []), (143, .iload 6, [], .null, []), (145, .iadd, [], .null, []), (146, .laload, [], .null, []), (147, .lastore, [], .null, []), (148, .iinc 6 1, [], .int 1, []), (151, .goto (-31), [120], .null, [])]
  | 154 => [(154, .aconst_null, [], .int 0, []), (155, .istore 6, [], .null, []), (157, .nop, [157], .null, [])]
  | 157 => [(157, .iload 6, [], .null, []), (159, .iload 5, [], .null, []), (161, .if_icmp .ge 31, [192], .null, []), (164, .aload 0, [], .null, []), (165, .getfield 38, [11, 15], .null, []), (168, .aconst_null, [], .int 40, []), (170, .iload 3, [], .null, []), (171, .imul, [], .null, []), (172, .iload 4, [], .null, []), (174, .iadd, [], .null, []), (175, .iload 6, [], .null, []), (177, .iadd, [], .null, []), (178, .aload 0, [], .null, []), (179, .getfield 42, [11, 16], .null, []), (182, .iload 6, [], .null, []), (184, .laload, [], .null, []), (185, .lastore, [], .null, []), (186, .iinc 6 1, [], .int 1, []), (189, .goto (-32), [157], .null, [])]
  | 192 => [(192, .iload 5, [], .null, []), (194, .ireturn, [0], .null, [])]
  | _ => []
/-- MoleSecretsModel.lays(I)I -/
def am_b221 : Nat → List En := fun L => match L with
  | 0 => [(0, .aload 0, [], .null, []), (1, .iload 1, [], .null, []), (2, .invokevirtual 307, [2, 11, 218], .null, []), (5, .istore 2, [], .null, []), (6, .iload 2, [], .null, []), (7, .ifCond .eq 9, [16], .null, []), (10, .aload 0, [], .null, []), (11, .iload 2, [], .null, []), (12, .invokevirtual 73, [2, 11, 133], .null, []), (15, .ireturn, [0], .null, [])]
  | 16 => [(16, .aconst_null, [], .int 0, []), (17, .istore 3, [], .null, []), (18, .aconst_null, [], .int 0, []), (19, .istore 4, [], .null, []), (21, .nop, [21], .null, [])]
  | 21 => [(21, .iload 4, [], .null, []), (23, .aload 0, [], .null, []), (24, .getfield 35, [11, 14], .null, []), (27, .iload 1, [], .null, []), (28, .iaload, [], .null, []), (29, .if_icmp .ge 91, [120], .null, []), (32, .iload 4, [], .null, []), (34, .aconst_null, [], .int 30, []), (36, .if_icmp .ge 84, [120], .null, []), (39, .aload 0, [], .null, []), (40, .getfield 38, [11, 15], .null, []), (43, .aconst_null, [], .int 40, []), (45, .iload 1, [], .null, []), (46, .imul, [], .null, []), (47, .iload 4, [], .null, []), (49, .iadd, [], .null, []), (50, .laload, [], .null, []), (51, .aconst_null, [], .long 0, []), (52, .aconst_null, [], .long 1, []), (53, .invokestatic 55, [132, 3], .null, []), (56, .istore 5, [], .null, []), (58, .aload 0, [], .null, []), (59, .getfield 7, [11, 0], .null, []), (62, .iload 4, [], .null, []), (64, .aconst_null, [], .int 0, []), (65, .invokestatic 50, [139, 2], .null, []), (68, .iload 5, [], .null, []), (70, .ifCond .eq 19, [89], .null, []), (73, .aload 0, [], .null, []), (74, .getfield 38, [11, 15], .null, []), (77, .aconst_null, [], .int 40, []), (79, .iload 1, [], .null, []), (80, .imul, [], .null, []), (81, .iload 4, [], .null, []), (83, .iadd, [], .null, []), (84, .laload, [], .null, []), (85, .l2i, [], .null, []), (86, .goto 14, [100], .null, [])]
  | 89 => [(89, .aload 0, [], .null, []), (90, .getfield 7, [11, 0], .null, []), (93, .iload 4, [], .null, []), (95, .aconst_null, [], .int 0, []), (96, .invokestatic 50, [139, 2], .null, []), (99, .iaload, [], .null, []), (100, .nop, [100], .null, [])]
  | 100 => [(100, .iastore, [], .null, []), (101, .iload 3, [], .null, []), (102, .iload 5, [], .null, []), (104, .ifCond .eq 7, [111], .null, []), (107, .aconst_null, [], .int 1, []), (108, .goto 4, [112], .null, [])]
  | 111 => [(111, .aconst_null, [], .int 0, []), (112, .nop, [112], .null, [])]
  | 112 => [(112, .iadd, [], .null, []), (113, .istore 3, [], .null, []), (114, .iinc 4 1, [], .int 1, []), (117, .goto (-96), [21], .null, [])]
  | 120 => [(120, .iload 3, [], .null, []), (121, .ireturn, [0], .null, [])]
  | _ => []
/-- MoleSecretsModel.book(II)I -/
def am_b222 : Nat → List En := fun L => match L with
  | 0 => [(0, .aload 0, [], .null, []), (1, .iload 1, [], .null, []), (2, .invokevirtual 307, [2, 11, 218], .null, []), (5, .istore 3, [], .null, []), (6, .iload 3, [], .null, []), (7, .ifCond .eq 9, [16], .null, []), (10, .aload 0, [], .null, []), (11, .iload 3, [], .null, []), (12, .invokevirtual 73, [2, 11, 133], .null, []), (15, .ireturn, [0], .null, [])]
  | 16 => [(16, .aload 0, [], .null, []), (17, .iload 2, [], .null, []), (18, .invokevirtual 111, [2, 11, 145], .null, []), (21, .ifCond .ne 10, [31], .null, []), (24, .aload 0, [], .null, []), (25, .aconst_null, [], .int (-1000000001), []), (27, .invokevirtual 73, [2, 11, 133], .null, []), (30, .ireturn, [0], .null, [])]
  | 31 => [(31, .aload 0, [], .null, []), (32, .invokevirtual 179, [1, 11, 136], .null, []), (35, .aconst_null, [], .int 0, []), (36, .istore 4, [], .null, []), (38, .nop, [38], .null, [])]
  | 38 => [(38, .iload 4, [], .null, []), (40, .aload 0, [], .null, []), (41, .getfield 35, [11, 14], .null, []), (44, .iload 1, [], .null, []), (45, .iaload, [], .null, []), (46, .if_icmp .ge 41, [87], .null, []), (49, .aload 0, [], .null, []), (50, .getfield 38, [11, 15], .null, []), (53, .aconst_null, [], .int 40, []), (55, .iload 1, [], .null, []), (56, .imul, [], .null, []), (57, .iload 4, [], .null, []), (59, .iadd, [], .null, []), (60, .aload 0, [], .null, []), (61, .getfield 32, [11, 13], .null, []), (64, .iload 1, [], .null, []), (65, .iaload, [], .null, []), (66, .aload 0, [], .null, []), (67, .iload 2, [], .null, []), (68, .aconst_null, [], .int 1, []), (69, .invokevirtual 61, [3, 11, 141], .null, []), (72, .i2l, [], .null, []), (73, .invokestatic 310, [217, 2], .null, []), (76, .lastore, [], .null, []), (77, .aload 0, [], .null, []), (78, .invokevirtual 167, [1, 11, 179], .null, []), (81, .iinc 4 1, [], .int 1, []), (84, .goto (-46), [38], .null, [])]
  | 87 => [(87, .aload 0, [], .null, []), (88, .aload 0, [], .null, []), (89, .getfield 35, [11, 14], .null, []), (92, .iload 1, [], .null, []), (93, .iaload, [], .null, []), (94, .invokevirtual 182, [2, 11, 137], .null, []), (97, .ireturn, [0], .null, [])]
  | _ => []
/-- MoleSecretsModel.isBook(II)Z -/
def am_b223 : Nat → List En := fun L => match L with
  | 0 => [(0, .aconst_null, [], .int 0, []), (1, .istore 3, [], .null, []), (2, .nop, [2], .null, [])]
  | 2 => [(2, .iload 3, [], .null, []), (3, .aload 0, [], .null, []), (4, .getfield 35, [11, 14], .null, []), (7, .iload 1, [], .null, []), (8, .iaload, [], .null, []), (9, .if_icmp .ge 37, [46], .null, []), (12, .aload 0, [], .null, []), (13, .getfield 38, [11, 15], .null, []), (16, .aconst_null, [], .int 40, []), (18, .iload 1, [], .null, []), (19, .imul, [], .null, []), (20, .iload 3, [], .null, []), (21, .iadd, [], .null, []), (22, .laload, [], .null, []), (23, .aload 0, [], .null, []), (24, .iload 2, [], .null, []), (25, .aconst_null, [], .int 1, []), (26, .invokevirtual 61, [3, 11, 141], .null, []), (29, .i2l, [], .null, []), (30, .lcmp, [], .null, []), (31, .ifCond .eq 5, [36], .null, []), (34, .aconst_null, [], .int 0, []), (35, .ireturn, [1], .null, [])]
  | 36 => [(36, .aload 0, [], .null, []), (37, .invokevirtual 167, [1, 11, 179], .null, []), (40, .iinc 3 1, [], .int 1, []), (43, .goto (-41), [2], .null, [])]
  | 46 => [(46, .aconst_null, [], .int 1, []), (47, .ireturn, [1], .null, [])]
  | _ => []
/-- MoleSecretsModel.read(II)I -/
def am_b224 : Nat → List En := fun L => match L with
  | 0 => [(0, .aload 0, [], .null, []), (1, .iload 1, [], .null, []), (2, .invokevirtual 307, [2, 11, 218], .null, []), (5, .istore 3, [], .null, []), (6, .iload 3, [], .null, []), (7, .ifCond .eq 9, [16], .null, []), (10, .aload 0, [], .null, []), (11, .iload 3, [], .null, []), (12, .invokevirtual 73, [2, 11, 133], .null, []), (15, .ireturn, [0], .null, [])]
  | 16 => [(16, .aload 0, [], .null, []), (17, .iload 2, [], .null, []), (18, .invokevirtual 111, [2, 11, 145], .null, []), (21, .ifCond .ne 10, [31], .null, []), (24, .aload 0, [], .null, []), (25, .aconst_null, [], .int (-1000000001), []), (27, .invokevirtual 73, [2, 11, 133], .null, []), (30, .ireturn, [0], .null, [])]
  | 31 => [(31, .aload 0, [], .null, []), (32, .invokevirtual 179, [1, 11, 136], .null, []), (35, .aconst_null, [], .int 0, []), (36, .istore 4, [], .null, []), (38, .aconst_null, [], .int 0, []), (39, .istore 5, [], .null, []), (41, .nop, [41], .null, [])]
  | 41 => [(41, .iload 5, [], .null, []), (43, .aconst_null, [], .int 180, []), (46, .if_icmp .ge 62, [108], .null, []), (49, .aload 0, [], .null, []), (50, .getfield 7, [11, 0], .null, []), (53, .iload 2, [], .null, []), (54, .aconst_null, [], .int 0, []), (55, .invokestatic 46, [140, 2], .null, []), (58, .iload 5, [], .null, []), (60, .aconst_null, [], .int 30, []), (62, .idiv, [], .null, []), (63, .iastore, [], .null, []), (64, .aload 0, [], .null, []), (65, .getfield 7, [11, 0], .null, []), (68, .iload 2, [], .null, []), (69, .aconst_null, [], .int 3, []), (70, .invokestatic 46, [140, 2], .null, []), (73, .iload 5, [], .null, []), (75, .aconst_null, [], .int 30, []), (77, .irem, [], .null, []), (78, .iastore, [], .null, []), (79, .aload 0, [], .null, []), (80, .iload 4, [], .null, []), (82, .aload 0, [], .null, []), (83, .iload 1, [], .null, []), (84, .iload 2, [], .null, []), (85, .invokevirtual 314, [3, 11, 223], .null, []), (88, .ifCond .eq 7, [95], .null, []), (91, .aconst_null, [], .int 1, []), (92, .goto 4, [96], .null, [])]
  | 95 => [(95, .aconst_null, [], .int 0, []), (96, .nop, [96], .null, [])]
  | 96 => [(96, .iadd, [], .null, []), (97, .invokevirtual 182, [2, 11, 137], .null, []), (100, .istore 4, [], .null, []), (102, .iinc 5 1, [], .int 1, []), (105, .goto (-64), [41], .null, [])]
  | 108 => [(108, .iload 4, [], .null, []), (110, .ireturn, [0], .null, [])]
  | _ => []
/-- MoleSecretsModel.image()I -/
def am_b225 : Nat → List En := fun L => match L with
  | 0 => [(0, .aconst_null, [], .int 0, []), (1, .istore 1, [], .null, []), (2, .nop, [2], .null, [])]
  | 2 => [(2, .iload 1, [], .null, []), (3, .aconst_null, [], .int 110, []), (5, .if_icmp .ge 21, [26], .null, []), (8, .aload 0, [], .null, []), (9, .getfield 13, [11, 1], .null, []), (12, .iload 1, [], .null, []), (13, .aload 0, [], .null, []), (14, .getfield 7, [11, 0], .null, []), (17, .iload 1, [], .null, []), (18, .iaload, [], .null, []), (19, .iastore, [], .null, []), (20, .iinc 1 1, [], .int 1, []), (23, .goto (-21), [2], .null, [])]
  | 26 => [(26, .aload 0, [], .null, []), (27, .aconst_null, [], .int 1, []), (28, .putfield 317, [11, 5, 1], .null, []), (31, .aconst_null, [], .int 1, []), (32, .ireturn, [0], .null, [])]
  | _ => []
/-- MoleSecretsModel.undo()I -/
def am_b226 : Nat → List En := fun L => match L with
  | 0 => [(0, .aload 0, [], .null, []), (1, .getfield 317, [11, 5], .null, []), (4, .ifCond .ne 10, [14], .null, []), (7, .aload 0, [], .null, []), (8, .aconst_null, [], .int (-1000000004), []), (10, .invokevirtual 73, [2, 11, 133], .null, []), (13, .ireturn, [0], .null, [])]
  | 14 => [(14, .aconst_null, [], .int 0, []), (15, .istore 1, [], .null, []), (16, .nop, [16], .null, [])]
  | 16 => [(16, .iload 1, [], .null, []), (17, .aconst_null, [], .int 110, []), (19, .if_icmp .ge 21, [40], .null, []), (22, .aload 0, [], .null, []), (23, .getfield 7, [11, 0], .null, []), (26, .iload 1, [], .null, []), (27, .aload 0, [], .null, []), (28, .getfield 13, [11, 1], .null, []), (31, .iload 1, [], .null, []), (32, .iaload, [], .null, []), (33, .iastore, [], .null, []), (34, .iinc 1 1, [], .int 1, []), (37, .goto (-21), [16], .null, [])]
  | 40 => [(40, .aload 0, [], .null, []), (41, .getfield 7, [11, 0], .null, []), (44, .aconst_null, [], .int 1, []), (45, .iaload, [], .null, []), (46, .ireturn, [0], .null, [])]
  | _ => []
/-- MoleSecretsModel.tear()I -/
def am_b227 : Nat → List En := fun L => match L with
  | 0 => [(0, .aload 0, [], .null, []), (1, .getfield 317, [11, 5], .null, []), (4, .ifCond .eq 7, [11], .null, []), (7, .aconst_null, [], .int 1, []), (8, .goto 4, [12], .null, [])]
  | 11 => [(11, .aconst_null, [], .int 0, []), (12, .nop, [12], .null, [])]
  | 12 => [(12, .istore 1, [], .null, []), (13, .aload 0, [], .null, []), (14, .aconst_null, [], .int 0, []), (15, .putfield 317, [11, 5, 1], .null, []), (18, .iload 1, [], .null, []), (19, .ireturn, [0], .null, [])]
  | _ => []
/-- MoleSecretsModel.dugMany()I -/
def am_b228 : Nat → List En := fun L => match L with
  | 0 => [(0, .aconst_null, [], .int 0, []), (1, .istore 1, [], .null, []), (2, .aconst_null, [], .int 0, []), (3, .istore 2, [], .null, []), (4, .nop, [4], .null, [])]
  | 4 => [(4, .iload 2, [], .null, []), (5, .aconst_null, [], .int 30, []), (7, .if_icmp .ge 22, [29], .null, []), (10, .iload 1, [], .null, []), (11, .aload 0, [], .null, []), (12, .getfield 7, [11, 0], .null, []), (15, .iload 2, [], .null, []), (16, .aconst_null, [], .int 0, []), (17, .invokestatic 50, [139, 2], .null, []), (20, .iaload, [], .null, []), (21, .iadd, [], .null, []), (22, .istore 1, [], .null, []), (23, .iinc 2 1, [], .int 1, []), (26, .goto (-22), [4], .null, [])]
  | 29 => [(29, .iload 1, [], .null, []), (30, .ireturn, [0], .null, [])]
  | _ => []
/-- MoleSecretsModel.count(I)I -/
def am_b229 : Nat → List En := fun L => match L with
  | 0 => [(0, .iload 1, [], .null, []), (1, .tableswitch 53 0 3 #[31, 38, 43, 48], [54], .null, [(0, 32), (1, 39), (2, 44), (3, 49)])]
  | 32 => [(32, .aload 0, [], .null, []), (33, .getfield 7, [11, 0], .null, []), (36, .aconst_null, [], .int 1, []), (37, .iaload, [], .null, []), (38, .ireturn, [0], .null, [])]
  | 39 => [(39, .aload 0, [], .null, []), (40, .getfield 220, [11, 8], .null, []), (43, .ireturn, [0], .null, [])]
  | 44 => [(44, .aload 0, [], .null, []), (45, .invokevirtual 320, [1, 11, 228], .null, []), (48, .ireturn, [0], .null, [])]
  | 49 => [(49, .aload 0, [], .null, []), (50, .invokevirtual 97, [1, 11, 148], .null, []), (53, .ireturn, [0], .null, [])]
  | 54 => [(54, .aload 0, [], .null, []), (55, .aconst_null, [], .int (-1000000001), []), (57, .invokevirtual 73, [2, 11, 133], .null, []), (60, .ireturn, [0], .null, [])]
  | _ => []
/-- MoleSecretsModel.status(I)I -/
def am_b230 : Nat → List En := fun L => match L with
  | 0 => [(0, .iload 1, [], .null, []), (1, .i2l, [], .null, []), (2, .aconst_null, [], .long (-1), []), (5, .aconst_null, [], .long 6, []), (8, .invokestatic 55, [132, 3], .null, []), (11, .ifCond .ne 10, [21], .null, []), (14, .aload 0, [], .null, []), (15, .aconst_null, [], .int (-1000000001), []), (17, .invokevirtual 73, [2, 11, 133], .null, []), (20, .ireturn, [0], .null, [])]
  | 21 => [(21, .aconst_null, [], .int 0, []), (22, .istore 2, [], .null, []), (23, .aconst_null, [], .int 0, []), (24, .istore 3, [], .null, []), (25, .nop, [25], .null, [])]
  | 25 => [(25, .iload 3, [], .null, []), (26, .aconst_null, [], .int 7, []), (28, .if_icmp .ge 31, [59], .null, []), (31, .iload 2, [], .null, []), (32, .iload 1, [], .null, []), (33, .ifCond .lt 8, [41], .null, []), (36, .iload 3, [], .null, []), (37, .iload 1, [], .null, []), (38, .if_icmp .ne 12, [50], .null, []), (41, .nop, [41], .null, [])]
  | 41 => [(41, .aload 0, [], .null, []), (42, .getfield 22, [11, 4], .null, []), (45, .iload 3, [], .null, []), (46, .iaload, [], .null, []), (47, .goto 4, [51], .null, [])]
  | 50 => [(50, .aconst_null, [], .int 0, []), (51, .nop, [51], .null, [])]
  | 51 => [(51, .iadd, [], .null, []), (52, .istore 2, [], .null, []), (53, .iinc 3 1, [], .int 1, []), (56, .goto (-31), [25], .null, [])]
  | 59 => [(59, .iload 2, [], .null, []), (60, .ireturn, [0], .null, [])]
  | _ => []
/-- java/lang/Integer.bitCount(I)I -/
def am_b231 : Nat → List En := fun L => match L with
  | 0 => [(0, .iload 0, [], .null, []), (1, .iload 0, [], .null, []), (2, .aconst_null, [], .int 1, []), (3, .iushr, [], .null, []), (4, .aconst_null, [], .int 1431655765, []), (7, .iand, [], .null, []), (8, .isub, [], .null, []), (9, .istore 0, [], .null, []), (10, .iload 0, [], .null, []), (11, .aconst_null, [], .int 858993459, []), (14, .iand, [], .null, []), (15, .iload 0, [], .null, []), (16, .aconst_null, [], .int 2, []), (17, .iushr, [], .null, []), (18, .aconst_null, [], .int 858993459, []), (21, .iand, [], .null, []), (22, .iadd, [], .null, []), (23, .istore 0, [], .null, []), (24, .iload 0, [], .null, []), (25, .iload 0, [], .null, []), (26, .aconst_null, [], .int 4, []), (27, .iushr, [], .null, []), (28, .iadd, [], .null, []), (29, .aconst_null, [], .int 252645135, []), (32, .iand, [], .null, []), (33, .istore 0, [], .null, []), (34, .iload 0, [], .null, []), (35, .iload 0, [], .null, []), (36, .aconst_null, [], .int 8, []), (38, .iushr, [], .null, []), (39, .iadd, [], .null, []), (40, .istore 0, [], .null, []), (41, .iload 0, [], .null, []), (42, .iload 0, [], .null, []), (43, .aconst_null, [], .int 16, []), (45, .iushr, [], .null, []), (46, .iadd, [], .null, []), (47, .istore 0, [], .null, []), (48, .iload 0, [], .null, []), (49, .aconst_null, [], .int 63, []), (51, .iand, [], .null, []), (52, .ireturn, [0], .null, [])]
  | _ => []
/-- java/util/Arrays.fill([JJ)V -/
def am_b232 : Nat → List En := fun L => match L with
  | 0 => [(0, .aconst_null, [], .int 0, []), (1, .istore 3, [], .null, []), (2, .aload 0, [], .null, []), (3, .arraylength, [], .null, []), (4, .istore 4, [], .null, []), (6, .nop, [6], .null, [])]
  | 6 => [(6, .iload 3, [], .null, []), (7, .iload 4, [], .null, []), (9, .if_icmp .ge 13, [22], .null, []), (12, .aload 0, [], .null, []), (13, .iload 3, [], .null, []), (14, .lload 1, [], .null, []), (15, .lastore, [], .null, []), (16, .iinc 3 1, [], .int 1, []), (19, .goto (-13), [6], .null, [])]
  | 22 => [(22, .return_, [], .null, [])]
  | _ => []
/-- java/util/Arrays.fill([II)V -/
def am_b233 : Nat → List En := fun L => match L with
  | 0 => [(0, .aconst_null, [], .int 0, []), (1, .istore 2, [], .null, []), (2, .aload 0, [], .null, []), (3, .arraylength, [], .null, []), (4, .istore 3, [], .null, []), (5, .nop, [5], .null, [])]
  | 5 => [(5, .iload 2, [], .null, []), (6, .iload 3, [], .null, []), (7, .if_icmp .ge 13, [20], .null, []), (10, .aload 0, [], .null, []), (11, .iload 2, [], .null, []), (12, .iload 1, [], .null, []), (13, .iastore, [], .null, []), (14, .iinc 2 1, [], .int 1, []), (17, .goto (-12), [5], .null, [])]
  | 20 => [(20, .return_, [], .null, [])]
  | _ => []
/-- the law -/
def am_bL : Nat → List En := fun L => match L with
  | 0 => [(0, .new 7, [10, 7], .null, []), (3, .dup, [], .null, []), (4, .invokespecial 9, [80, 1], .null, []), (7, .astore 1, [], .null, []), (8, .new 10, [11, 17], .null, []), (11, .dup, [], .null, []), (12, .invokespecial 12, [131, 1], .null, []), (15, .astore 2, [], .null, []), (16, .aconst_null, [], .int 0, []), (17, .istore 3, [], .null, []), (18, .nop, [18], .null, [])]
  | 18 => [(18, .iload 3, [], .null, []), (19, .aload 0, [], .null, []), (20, .arraylength, [], .null, []), (21, .aconst_null, [], .int 6, []), (23, .isub, [], .null, []), (24, .if_icmp .gt 1300, [1324], .null, []), (27, .aload 0, [], .null, []), (28, .iload 3, [], .null, []), (29, .iaload, [], .null, []), (30, .aconst_null, [], .int 63, []), (32, .iand, [], .null, []), (33, .tableswitch 1285 0 36 #[163, 206, 239, 272, 295, 318, 361, 394, 427, 470, 503, 536, 559, 602, 635, 658, 681, 714, 747, 780, 803, 826, 849, 872, 905, 918, 931, 974, 1048, 1111, 1134, 1167, 1200, 1213, 1226, 1239, 1262], [1318], .null, [(0, 196), (1, 239), (2, 272), (3, 305), (4, 328), (5, 351), (6, 394), (7, 427), (8, 460), (9, 503), (10, 536), (11, 569), (12, 592), (13, 635), (14, 668), (15, 691), (16, 714), (17, 747), (18, 780), (19, 813), (20, 836), (21, 859), (22, 882), (23, 905), (24, 938), (25, 951), (26, 964), (27, 1007), (28, 1081), (29, 1144), (30, 1167), (31, 1200), (32, 1233), (33, 1246), (34, 1259), (35, 1272), (36, 1295)])]
  | 196 => [(196, .aload 1, [], .null, []), (197, .aload 0, [], .null, []), (198, .iload 3, [], .null, []), (199, .aconst_null, [], .int 1, []), (200, .iadd, [], .null, []), (201, .iaload, [], .null, []), (202, .aload 0, [], .null, []), (203, .iload 3, [], .null, []), (204, .aconst_null, [], .int 2, []), (205, .iadd, [], .null, []), (206, .iaload, [], .null, []), (207, .aload 0, [], .null, []), (208, .iload 3, [], .null, []), (209, .aconst_null, [], .int 3, []), (210, .iadd, [], .null, []), (211, .iaload, [], .null, []), (212, .invokevirtual 13, [4, 10, 81], .null, []), (215, .aload 2, [], .null, []), (216, .aload 0, [], .null, []), (217, .iload 3, [], .null, []), (218, .aconst_null, [], .int 1, []), (219, .iadd, [], .null, []), (220, .iaload, [], .null, []), (221, .aload 0, [], .null, []), (222, .iload 3, [], .null, []), (223, .aconst_null, [], .int 2, []), (224, .iadd, [], .null, []), (225, .iaload, [], .null, []), (226, .aload 0, [], .null, []), (227, .iload 3, [], .null, []), (228, .aconst_null, [], .int 3, []), (229, .iadd, [], .null, []), (230, .iaload, [], .null, []), (231, .invokevirtual 17, [4, 11, 152], .null, []), (234, .if_icmp .eq 1084, [1318], .null, []), (237, .aconst_null, [], .int 0, []), (238, .ireturn, [1], .null, [])]
  | 239 => [(239, .aload 1, [], .null, []), (240, .aload 0, [], .null, []), (241, .iload 3, [], .null, []), (242, .aconst_null, [], .int 1, []), (243, .iadd, [], .null, []), (244, .iaload, [], .null, []), (245, .aload 0, [], .null, []), (246, .iload 3, [], .null, []), (247, .aconst_null, [], .int 2, []), (248, .iadd, [], .null, []), (249, .iaload, [], .null, []), (250, .invokevirtual 18, [3, 10, 82], .null, []), (253, .aload 2, [], .null, []), (254, .aload 0, [], .null, []), (255, .iload 3, [], .null, []), (256, .aconst_null, [], .int 1, []), (257, .iadd, [], .null, []), (258, .iaload, [], .null, []), (259, .aload 0, [], .null, []), (260, .iload 3, [], .null, []), (261, .aconst_null, [], .int 2, []), (262, .iadd, [], .null, []), (263, .iaload, [], .null, []), (264, .invokevirtual 22, [3, 11, 154], .null, []), (267, .if_icmp .eq 1051, [1318], .null, []), (270, .aconst_null, [], .int 0, []), (271, .ireturn, [1], .null, [])]
  | 272 => [(272, .aload 1, [], .null, []), (273, .aload 0, [], .null, []), (274, .iload 3, [], .null, []), (275, .aconst_null, [], .int 1, []), (276, .iadd, [], .null, []), (277, .iaload, [], .null, []), (278, .aload 0, [], .null, []), (279, .iload 3, [], .null, []), (280, .aconst_null, [], .int 2, []), (281, .iadd, [], .null, []), (282, .iaload, [], .null, []), (283, .invokevirtual 23, [3, 10, 83], .null, []), (286, .aload 2, [], .null, []), (287, .aload 0, [], .null, []), (288, .iload 3, [], .null, []), (289, .aconst_null, [], .int 1, []), (290, .iadd, [], .null, []), (291, .iaload, [], .null, []), (292, .aload 0, [], .null, []), (293, .iload 3, [], .null, []), (294, .aconst_null, [], .int 2, []), (295, .iadd, [], .null, []), (296, .iaload, [], .null, []), (297, .invokevirtual 26, [3, 11, 156], .null, []), (300, .if_icmp .eq 1018, [1318], .null, []), (303, .aconst_null, [], .int 0, []), (304, .ireturn, [1], .null, [])]
  | 305 => [(305, .aload 1, [], .null, []), (306, .aload 0, [], .null, []), (307, .iload 3, [], .null, []), (308, .aconst_null, [], .int 1, []), (309, .iadd, [], .null, []), (310, .iaload, [], .null, []), (311, .invokevirtual 27, [2, 10, 84], .null, []), (314, .aload 2, [], .null, []), (315, .aload 0, [], .null, []), (316, .iload 3, [], .null, []), (317, .aconst_null, [], .int 1, []), (318, .iadd, [], .null, []), (319, .iaload, [], .null, []), (320, .invokevirtual 31, [2, 11, 157], .null, []), (323, .if_icmp .eq 995, [1318], .null, []), (326, .aconst_null, [], .int 0, []), (327, .ireturn, [1], .null, [])]
  | 328 => [(328, .aload 1, [], .null, []), (329, .aload 0, [], .null, []), (330, .iload 3, [], .null, []), (331, .aconst_null, [], .int 1, []), (332, .iadd, [], .null, []), (333, .iaload, [], .null, []), (334, .invokevirtual 32, [2, 10, 85], .null, []), (337, .aload 2, [], .null, []), (338, .aload 0, [], .null, []), (339, .iload 3, [], .null, []), (340, .aconst_null, [], .int 1, []), (341, .iadd, [], .null, []), (342, .iaload, [], .null, []), (343, .invokevirtual 35, [2, 11, 158], .null, []), (346, .if_icmp .eq 972, [1318], .null, []), (349, .aconst_null, [], .int 0, []), (350, .ireturn, [1], .null, [])]
  | 351 => [(351, .aload 1, [], .null, []), (352, .aload 0, [], .null, []), (353, .iload 3, [], .null, []), (354, .aconst_null, [], .int 1, []), (355, .iadd, [], .null, []), (356, .iaload, [], .null, []), (357, .aload 0, [], .null, []), (358, .iload 3, [], .null, []), (359, .aconst_null, [], .int 2, []), (360, .iadd, [], .null, []), (361, .iaload, [], .null, []), (362, .aload 0, [], .null, []), (363, .iload 3, [], .null, []), (364, .aconst_null, [], .int 3, []), (365, .iadd, [], .null, []), (366, .iaload, [], .null, []), (367, .invokevirtual 36, [4, 10, 86], .null, []), (370, .aload 2, [], .null, []), (371, .aload 0, [], .null, []), (372, .iload 3, [], .null, []), (373, .aconst_null, [], .int 1, []), (374, .iadd, [], .null, []), (375, .iaload, [], .null, []), (376, .aload 0, [], .null, []), (377, .iload 3, [], .null, []), (378, .aconst_null, [], .int 2, []), (379, .iadd, [], .null, []), (380, .iaload, [], .null, []), (381, .aload 0, [], .null, []), (382, .iload 3, [], .null, []), (383, .aconst_null, [], .int 3, []), (384, .iadd, [], .null, []), (385, .iaload, [], .null, []), (386, .invokevirtual 39, [4, 11, 165], .null, []), (389, .if_icmp .eq 929, [1318], .null, []), (392, .aconst_null, [], .int 0, []), (393, .ireturn, [1], .null, [])]
  | 394 => [(394, .aload 1, [], .null, []), (395, .aload 0, [], .null, []), (396, .iload 3, [], .null, []), (397, .aconst_null, [], .int 1, []), (398, .iadd, [], .null, []), (399, .iaload, [], .null, []), (400, .aload 0, [], .null, []), (401, .iload 3, [], .null, []), (402, .aconst_null, [], .int 2, []), (403, .iadd, [], .null, []), (404, .iaload, [], .null, []), (405, .invokevirtual 40, [3, 10, 87], .null, []), (408, .aload 2, [], .null, []), (409, .aload 0, [], .null, []), (410, .iload 3, [], .null, []), (411, .aconst_null, [], .int 1, []), (412, .iadd, [], .null, []), (413, .iaload, [], .null, []), (414, .aload 0, [], .null, []), (415, .iload 3, [], .null, []), (416, .aconst_null, [], .int 2, []), (417, .iadd, [], .null, []), (418, .iaload, [], .null, []), (419, .invokevirtual 43, [3, 11, 166], .null, []), (422, .if_icmp .eq 896, [1318], .null, []), (425, .aconst_null, [], .int 0, []), (426, .ireturn, [1], .null, [])]
  | 427 => [(427, .aload 1, [], .null, []), (428, .aload 0, [], .null, []), (429, .iload 3, [], .null, []), (430, .aconst_null, [], .int 1, []), (431, .iadd, [], .null, []), (432, .iaload, [], .null, []), (433, .aload 0, [], .null, []), (434, .iload 3, [], .null, []), (435, .aconst_null, [], .int 2, []), (436, .iadd, [], .null, []), (437, .iaload, [], .null, []), (438, .invokevirtual 44, [3, 10, 88], .null, []), (441, .aload 2, [], .null, []), (442, .aload 0, [], .null, []), (443, .iload 3, [], .null, []), (444, .aconst_null, [], .int 1, []), (445, .iadd, [], .null, []), (446, .iaload, [], .null, []), (447, .aload 0, [], .null, []), (448, .iload 3, [], .null, []), (449, .aconst_null, [], .int 2, []), (450, .iadd, [], .null, []), (451, .iaload, [], .null, []), (452, .invokevirtual 47, [3, 11, 167], .null, []), (455, .if_icmp .eq 863, [1318], .null, []), (458, .aconst_null, [], .int 0, []), (459, .ireturn, [1], .null, [])]
  | 460 => [(460, .aload 1, [], .null, []), (461, .aload 0, [], .null, []), (462, .iload 3, [], .null, []), (463, .aconst_null, [], .int 1, []), (464, .iadd, [], .null, []), (465, .iaload, [], .null, []), (466, .aload 0, [], .null, []), (467, .iload 3, [], .null, []), (468, .aconst_null, [], .int 2, []), (469, .iadd, [], .null, []), (470, .iaload, [], .null, []), (471, .aload 0, [], .null, []), (472, .iload 3, [], .null, []), (473, .aconst_null, [], .int 3, []), (474, .iadd, [], .null, []), (475, .iaload, [], .null, []), (476, .invokevirtual 48, [4, 10, 89], .null, []), (479, .aload 2, [], .null, []), (480, .aload 0, [], .null, []), (481, .iload 3, [], .null, []), (482, .aconst_null, [], .int 1, []), (483, .iadd, [], .null, []), (484, .iaload, [], .null, []), (485, .aload 0, [], .null, []), (486, .iload 3, [], .null, []), (487, .aconst_null, [], .int 2, []), (488, .iadd, [], .null, []), (489, .iaload, [], .null, []), (490, .aload 0, [], .null, []), (491, .iload 3, [], .null, []), (492, .aconst_null, [], .int 3, []), (493, .iadd, [], .null, []), (494, .iaload, [], .null, []), (495, .invokevirtual 51, [4, 11, 168], .null, []), (498, .if_icmp .eq 820, [1318], .null, []), (501, .aconst_null, [], .int 0, []), (502, .ireturn, [1], .null, [])]
  | 503 => [(503, .aload 1, [], .null, []), (504, .aload 0, [], .null, []), (505, .iload 3, [], .null, []), (506, .aconst_null, [], .int 1, []), (507, .iadd, [], .null, []), (508, .iaload, [], .null, []), (509, .aload 0, [], .null, []), (510, .iload 3, [], .null, []), (511, .aconst_null, [], .int 2, []), (512, .iadd, [], .null, []), (513, .iaload, [], .null, []), (514, .invokevirtual 52, [3, 10, 90], .null, []), (517, .aload 2, [], .null, []), (518, .aload 0, [], .null, []), (519, .iload 3, [], .null, []), (520, .aconst_null, [], .int 1, []), (521, .iadd, [], .null, []), (522, .iaload, [], .null, []), (523, .aload 0, [], .null, []), (524, .iload 3, [], .null, []), (525, .aconst_null, [], .int 2, []), (526, .iadd, [], .null, []), (527, .iaload, [], .null, []), (528, .invokevirtual 55, [3, 11, 169], .null, []), (531, .if_icmp .eq 787, [1318], .null, []), (534, .aconst_null, [], .int 0, []), (535, .ireturn, [1], .null, [])]
  | 536 => [(536, .aload 1, [], .null, []), (537, .aload 0, [], .null, []), (538, .iload 3, [], .null, []), (539, .aconst_null, [], .int 1, []), (540, .iadd, [], .null, []), (541, .iaload, [], .null, []), (542, .aload 0, [], .null, []), (543, .iload 3, [], .null, []), (544, .aconst_null, [], .int 2, []), (545, .iadd, [], .null, []), (546, .iaload, [], .null, []), (547, .invokevirtual 56, [3, 10, 91], .null, []), (550, .aload 2, [], .null, []), (551, .aload 0, [], .null, []), (552, .iload 3, [], .null, []), (553, .aconst_null, [], .int 1, []), (554, .iadd, [], .null, []), (555, .iaload, [], .null, []), (556, .aload 0, [], .null, []), (557, .iload 3, [], .null, []), (558, .aconst_null, [], .int 2, []), (559, .iadd, [], .null, []), (560, .iaload, [], .null, []), (561, .invokevirtual 59, [3, 11, 171], .null, []), (564, .if_icmp .eq 754, [1318], .null, []), (567, .aconst_null, [], .int 0, []), (568, .ireturn, [1], .null, [])]
  | 569 => [(569, .aload 1, [], .null, []), (570, .aload 0, [], .null, []), (571, .iload 3, [], .null, []), (572, .aconst_null, [], .int 1, []), (573, .iadd, [], .null, []), (574, .iaload, [], .null, []), (575, .invokevirtual 60, [2, 10, 92], .null, []), (578, .aload 2, [], .null, []), (579, .aload 0, [], .null, []), (580, .iload 3, [], .null, []), (581, .aconst_null, [], .int 1, []), (582, .iadd, [], .null, []), (583, .iaload, [], .null, []), (584, .invokevirtual 63, [2, 11, 181], .null, []), (587, .if_icmp .eq 731, [1318], .null, []), (590, .aconst_null, [], .int 0, []), (591, .ireturn, [1], .null, [])]
  | 592 => [(592, .aload 1, [], .null, []), (593, .aload 0, [], .null, []), (594, .iload 3, [], .null, []), (595, .aconst_null, [], .int 1, []), (596, .iadd, [], .null, []), (597, .iaload, [], .null, []), (598, .aload 0, [], .null, []), (599, .iload 3, [], .null, []), (600, .aconst_null, [], .int 2, []), (601, .iadd, [], .null, []), (602, .iaload, [], .null, []), (603, .aload 0, [], .null, []), (604, .iload 3, [], .null, []), (605, .aconst_null, [], .int 3, []), (606, .iadd, [], .null, []), (607, .iaload, [], .null, []), (608, .invokevirtual 64, [4, 10, 93], .null, []), (611, .aload 2, [], .null, []), (612, .aload 0, [], .null, []), (613, .iload 3, [], .null, []), (614, .aconst_null, [], .int 1, []), (615, .iadd, [], .null, []), (616, .iaload, [], .null, []), (617, .aload 0, [], .null, []), (618, .iload 3, [], .null, []), (619, .aconst_null, [], .int 2, []), (620, .iadd, [], .null, []), (621, .iaload, [], .null, []), (622, .aload 0, [], .null, []), (623, .iload 3, [], .null, []), (624, .aconst_null, [], .int 3, []), (625, .iadd, [], .null, []), (626, .iaload, [], .null, []), (627, .invokevirtual 67, [4, 11, 186], .null, []), (630, .if_icmp .eq 688, [1318], .null, []), (633, .aconst_null, [], .int 0, []), (634, .ireturn, [1], .null, [])]
  | 635 => [(635, .aload 1, [], .null, []), (636, .aload 0, [], .null, []), (637, .iload 3, [], .null, []), (638, .aconst_null, [], .int 1, []), (639, .iadd, [], .null, []), (640, .iaload, [], .null, []), (641, .aload 0, [], .null, []), (642, .iload 3, [], .null, []), (643, .aconst_null, [], .int 2, []), (644, .iadd, [], .null, []), (645, .iaload, [], .null, []), (646, .invokevirtual 68, [3, 10, 94], .null, []), (649, .aload 2, [], .null, []), (650, .aload 0, [], .null, []), (651, .iload 3, [], .null, []), (652, .aconst_null, [], .int 1, []), (653, .iadd, [], .null, []), (654, .iaload, [], .null, []), (655, .aload 0, [], .null, []), (656, .iload 3, [], .null, []), (657, .aconst_null, [], .int 2, []), (658, .iadd, [], .null, []), (659, .iaload, [], .null, []), (660, .invokevirtual 71, [3, 11, 187], .null, []), (663, .if_icmp .eq 655, [1318], .null, []), (666, .aconst_null, [], .int 0, []), (667, .ireturn, [1], .null, [])]
  | 668 => [(668, .aload 1, [], .null, []), (669, .aload 0, [], .null, []), (670, .iload 3, [], .null, []), (671, .aconst_null, [], .int 1, []), (672, .iadd, [], .null, []), (673, .iaload, [], .null, []), (674, .invokevirtual 72, [2, 10, 95], .null, []), (677, .aload 2, [], .null, []), (678, .aload 0, [], .null, []), (679, .iload 3, [], .null, []), (680, .aconst_null, [], .int 1, []), (681, .iadd, [], .null, []), (682, .iaload, [], .null, []), (683, .invokevirtual 75, [2, 11, 190], .null, []), (686, .if_icmp .eq 632, [1318], .null, []), (689, .aconst_null, [], .int 0, []), (690, .ireturn, [1], .null, [])]
  | 691 => [(691, .aload 1, [], .null, []), (692, .aload 0, [], .null, []), (693, .iload 3, [], .null, []), (694, .aconst_null, [], .int 1, []), (695, .iadd, [], .null, []), (696, .iaload, [], .null, []), (697, .invokevirtual 76, [2, 10, 96], .null, []), (700, .aload 2, [], .null, []), (701, .aload 0, [], .null, []), (702, .iload 3, [], .null, []), (703, .aconst_null, [], .int 1, []), (704, .iadd, [], .null, []), (705, .iaload, [], .null, []), (706, .invokevirtual 79, [2, 11, 191], .null, []), (709, .if_icmp .eq 609, [1318], .null, []), (712, .aconst_null, [], .int 0, []), (713, .ireturn, [1], .null, [])]
  | 714 => [(714, .aload 1, [], .null, []), (715, .aload 0, [], .null, []), (716, .iload 3, [], .null, []), (717, .aconst_null, [], .int 1, []), (718, .iadd, [], .null, []), (719, .iaload, [], .null, []), (720, .aload 0, [], .null, []), (721, .iload 3, [], .null, []), (722, .aconst_null, [], .int 2, []), (723, .iadd, [], .null, []), (724, .iaload, [], .null, []), (725, .invokevirtual 80, [3, 10, 97], .null, []), (728, .aload 2, [], .null, []), (729, .aload 0, [], .null, []), (730, .iload 3, [], .null, []), (731, .aconst_null, [], .int 1, []), (732, .iadd, [], .null, []), (733, .iaload, [], .null, []), (734, .aload 0, [], .null, []), (735, .iload 3, [], .null, []), (736, .aconst_null, [], .int 2, []), (737, .iadd, [], .null, []), (738, .iaload, [], .null, []), (739, .invokevirtual 83, [3, 11, 192], .null, []), (742, .if_icmp .eq 576, [1318], .null, []), (745, .aconst_null, [], .int 0, []), (746, .ireturn, [1], .null, [])]
  | 747 => [(747, .aload 1, [], .null, []), (748, .aload 0, [], .null, []), (749, .iload 3, [], .null, []), (750, .aconst_null, [], .int 1, []), (751, .iadd, [], .null, []), (752, .iaload, [], .null, []), (753, .aload 0, [], .null, []), (754, .iload 3, [], .null, []), (755, .aconst_null, [], .int 2, []), (756, .iadd, [], .null, []), (757, .iaload, [], .null, []), (758, .invokevirtual 84, [3, 10, 98], .null, []), (761, .aload 2, [], .null, []), (762, .aload 0, [], .null, []), (763, .iload 3, [], .null, []), (764, .aconst_null, [], .int 1, []), (765, .iadd, [], .null, []), (766, .iaload, [], .null, []), (767, .aload 0, [], .null, []), (768, .iload 3, [], .null, []), (769, .aconst_null, [], .int 2, []), (770, .iadd, [], .null, []), (771, .iaload, [], .null, []), (772, .invokevirtual 87, [3, 11, 194], .null, []), (775, .if_icmp .eq 543, [1318], .null, []), (778, .aconst_null, [], .int 0, []), (779, .ireturn, [1], .null, [])]
  | 780 => [(780, .aload 1, [], .null, []), (781, .aload 0, [], .null, []), (782, .iload 3, [], .null, []), (783, .aconst_null, [], .int 1, []), (784, .iadd, [], .null, []), (785, .iaload, [], .null, []), (786, .aload 0, [], .null, []), (787, .iload 3, [], .null, []), (788, .aconst_null, [], .int 2, []), (789, .iadd, [], .null, []), (790, .iaload, [], .null, []), (791, .invokevirtual 88, [3, 10, 99], .null, []), (794, .aload 2, [], .null, []), (795, .aload 0, [], .null, []), (796, .iload 3, [], .null, []), (797, .aconst_null, [], .int 1, []), (798, .iadd, [], .null, []), (799, .iaload, [], .null, []), (800, .aload 0, [], .null, []), (801, .iload 3, [], .null, []), (802, .aconst_null, [], .int 2, []), (803, .iadd, [], .null, []), (804, .iaload, [], .null, []), (805, .invokevirtual 91, [3, 11, 195], .null, []), (808, .if_icmp .eq 510, [1318], .null, []), (811, .aconst_null, [], .int 0, []), (812, .ireturn, [1], .null, [])]
  | 813 => [(813, .aload 1, [], .null, []), (814, .aload 0, [], .null, []), (815, .iload 3, [], .null, []), (816, .aconst_null, [], .int 1, []), (817, .iadd, [], .null, []), (818, .iaload, [], .null, []), (819, .invokevirtual 92, [2, 10, 100], .null, []), (822, .aload 2, [], .null, []), (823, .aload 0, [], .null, []), (824, .iload 3, [], .null, []), (825, .aconst_null, [], .int 1, []), (826, .iadd, [], .null, []), (827, .iaload, [], .null, []), (828, .invokevirtual 95, [2, 11, 196], .null, []), (831, .if_icmp .eq 487, [1318], .null, []), (834, .aconst_null, [], .int 0, []), (835, .ireturn, [1], .null, [])]
  | 836 => [(836, .aload 1, [], .null, []), (837, .aload 0, [], .null, []), (838, .iload 3, [], .null, []), (839, .aconst_null, [], .int 1, []), (840, .iadd, [], .null, []), (841, .iaload, [], .null, []), (842, .invokevirtual 96, [2, 10, 101], .null, []), (845, .aload 2, [], .null, []), (846, .aload 0, [], .null, []), (847, .iload 3, [], .null, []), (848, .aconst_null, [], .int 1, []), (849, .iadd, [], .null, []), (850, .iaload, [], .null, []), (851, .invokevirtual 99, [2, 11, 197], .null, []), (854, .if_icmp .eq 464, [1318], .null, []), (857, .aconst_null, [], .int 0, []), (858, .ireturn, [1], .null, [])]
  | 859 => [(859, .aload 1, [], .null, []), (860, .aload 0, [], .null, []), (861, .iload 3, [], .null, []), (862, .aconst_null, [], .int 1, []), (863, .iadd, [], .null, []), (864, .iaload, [], .null, []), (865, .invokevirtual 100, [2, 10, 102], .null, []), (868, .aload 2, [], .null, []), (869, .aload 0, [], .null, []), (870, .iload 3, [], .null, []), (871, .aconst_null, [], .int 1, []), (872, .iadd, [], .null, []), (873, .iaload, [], .null, []), (874, .invokevirtual 103, [2, 11, 198], .null, []), (877, .if_icmp .eq 441, [1318], .null, []), (880, .aconst_null, [], .int 0, []), (881, .ireturn, [1], .null, [])]
  | 882 => [(882, .aload 1, [], .null, []), (883, .aload 0, [], .null, []), (884, .iload 3, [], .null, []), (885, .aconst_null, [], .int 1, []), (886, .iadd, [], .null, []), (887, .iaload, [], .null, []), (888, .invokevirtual 104, [2, 10, 103], .null, []), (891, .aload 2, [], .null, []), (892, .aload 0, [], .null, []), (893, .iload 3, [], .null, []), (894, .aconst_null, [], .int 1, []), (895, .iadd, [], .null, []), (896, .iaload, [], .null, []), (897, .invokevirtual 107, [2, 11, 199], .null, []), (900, .if_icmp .eq 418, [1318], .null, []), (903, .aconst_null, [], .int 0, []), (904, .ireturn, [1], .null, [])]
  | 905 => [(905, .aload 1, [], .null, []), (906, .aload 0, [], .null, []), (907, .iload 3, [], .null, []), (908, .aconst_null, [], .int 1, []), (909, .iadd, [], .null, []), (910, .iaload, [], .null, []), (911, .aload 0, [], .null, []), (912, .iload 3, [], .null, []), (913, .aconst_null, [], .int 2, []), (914, .iadd, [], .null, []), (915, .iaload, [], .null, []), (916, .invokevirtual 108, [3, 10, 104], .null, []), (919, .aload 2, [], .null, []), (920, .aload 0, [], .null, []), (921, .iload 3, [], .null, []), (922, .aconst_null, [], .int 1, []), (923, .iadd, [], .null, []), (924, .iaload, [], .null, []), (925, .aload 0, [], .null, []), (926, .iload 3, [], .null, []), (927, .aconst_null, [], .int 2, []), (928, .iadd, [], .null, []), (929, .iaload, [], .null, []), (930, .invokevirtual 111, [3, 11, 200], .null, []), (933, .if_icmp .eq 385, [1318], .null, []), (936, .aconst_null, [], .int 0, []), (937, .ireturn, [1], .null, [])]
  | 938 => [(938, .aload 1, [], .null, []), (939, .invokevirtual 112, [1, 10, 105], .null, []), (942, .aload 2, [], .null, []), (943, .invokevirtual 116, [1, 11, 201], .null, []), (946, .if_icmp .eq 372, [1318], .null, []), (949, .aconst_null, [], .int 0, []), (950, .ireturn, [1], .null, [])]
  | 951 => [(951, .aload 1, [], .null, []), (952, .invokevirtual 117, [1, 10, 106], .null, []), (955, .aload 2, [], .null, []), (956, .invokevirtual 120, [1, 11, 214], .null, []), (959, .if_icmp .eq 359, [1318], .null, []), (962, .aconst_null, [], .int 0, []), (963, .ireturn, [1], .null, [])]
  | 964 => [(964, .aload 1, [], .null, []), (965, .aload 0, [], .null, []), (966, .iload 3, [], .null, []), (967, .aconst_null, [], .int 1, []), (968, .iadd, [], .null, []), (969, .iaload, [], .null, []), (970, .aload 0, [], .null, []), (971, .iload 3, [], .null, []), (972, .aconst_null, [], .int 2, []), (973, .iadd, [], .null, []), (974, .iaload, [], .null, []), (975, .aload 0, [], .null, []), (976, .iload 3, [], .null, []), (977, .aconst_null, [], .int 3, []), (978, .iadd, [], .null, []), (979, .iaload, [], .null, []), (980, .invokevirtual 121, [4, 10, 107], .null, []), (983, .aload 2, [], .null, []), (984, .aload 0, [], .null, []), (985, .iload 3, [], .null, []), (986, .aconst_null, [], .int 1, []), (987, .iadd, [], .null, []), (988, .iaload, [], .null, []), (989, .aload 0, [], .null, []), (990, .iload 3, [], .null, []), (991, .aconst_null, [], .int 2, []), (992, .iadd, [], .null, []), (993, .iaload, [], .null, []), (994, .aload 0, [], .null, []), (995, .iload 3, [], .null, []), (996, .aconst_null, [], .int 3, []), (997, .iadd, [], .null, []), (998, .iaload, [], .null, []), (999, .invokevirtual 124, [4, 11, 216], .null, []), (1002, .if_icmp .eq 316, [1318], .null, []), (1005, .aconst_null, [], .int 0, []), (1006, .ireturn, [1], .null, [])]
  | 1007 => [(1007, .aload 1, [], .null, []), (1008, .aload 0, [], .null, []), (1009, .iload 3, [], .null, []), (1010, .aconst_null, [], .int 1, []), (1011, .iadd, [], .null, []), (1012, .iaload, [], .null, []), (1013, .aload 0, [], .null, []), (1014, .iload 3, [], .null, []), (1015, .aconst_null, [], .int 2, []), (1016, .iadd, [], .null, []), (1017, .iaload, [], .null, []), (1018, .aload 0, [], .null, []), (1019, .iload 3, [], .null, []), (1020, .aconst_null, [], .int 3, []), (1021, .iadd, [], .null, []), (1022, .iaload, [], .null, []), (1023, .i2l, [], .null, []), (1024, .aconst_null, [], .int 32, []), (1026, .lshl, [], .null, []), (1027, .aload 0, [], .null, []), (1028, .iload 3, [], .null, []), (1029, .aconst_null, [], .int 4, []), (1030, .iadd, [], .null, []), (1031, .iaload, [], .null, []), (1032, .i2l, [], .null, []), (1033, .aconst_null, [], .long 4294967295, []), (1036, .land, [], .null, []), (1037, .lor, [], .null, []), (1038, .invokevirtual 127, [4, 10, 108], .null, []), (1041, .aload 2, [], .null, []), (1042, .aload 0, [], .null, []), (1043, .iload 3, [], .null, []), (1044, .aconst_null, [], .int 1, []), (1045, .iadd, [], .null, []), (1046, .iaload, [], .null, []), (1047, .aload 0, [], .null, []), (1048, .iload 3, [], .null, []), (1049, .aconst_null, [], .int 2, []), (1050, .iadd, [], .null, []), (1051, .iaload, [], .null, []), (1052, .aload 0, [], .null, []), (1053, .iload 3, [], .null, []), (1054, .aconst_null, [], .int 3, []), (1055, .iadd, [], .null, []), (1056, .iaload, [], .null, []), (1057, .i2l, [], .null, []), (1058, .aconst_null, [], .int 32, []), (1060, .lshl, [], .null, []), (1061, .aload 0, [], .null, []), (1062, .iload 3, [], .null, []), (1063, .aconst_null, [], .int 4, []), (1064, .iadd, [], .null, []), (1065, .iaload, [], .null, []), (1066, .i2l, [], .null, []), (1067, .aconst_null, [], .long 4294967295, []), (1070, .land, [], .null, []), (1071, .lor, [], .null, []), (1072, .invokevirtual 131, [4, 11, 219], .null, []), (1075, .lcmp, [], .null, []), (1076, .ifCond .eq 242, [1318], .null, []), (1079, .aconst_null, [], .int 0, []), (1080, .ireturn, [1], .null, [])]
  | 1081 => [(1081, .aload 1, [], .null, []), (1082, .aload 0, [], .null, []), (1083, .iload 3, [], .null, []), (1084, .aconst_null, [], .int 1, []), (1085, .iadd, [], .null, []), (1086, .iaload, [], .null, []), (1087, .aload 0, [], .null, []), (1088, .iload 3, [], .null, []), (1089, .aconst_null, [], .int 2, []), (1090, .iadd, [], .null, []), (1091, .iaload, [], .null, []), (1092, .aload 0, [], .null, []), (1093, .iload 3, [], .null, []), (1094, .aconst_null, [], .int 3, []), (1095, .iadd, [], .null, []), (1096, .iaload, [], .null, []), (1097, .aload 0, [], .null, []), (1098, .iload 3, [], .null, []), (1099, .aconst_null, [], .int 4, []), (1100, .iadd, [], .null, []), (1101, .iaload, [], .null, []), (1102, .aload 0, [], .null, []), (1103, .iload 3, [], .null, []), (1104, .aconst_null, [], .int 5, []), (1105, .iadd, [], .null, []), (1106, .iaload, [], .null, []), (1107, .invokevirtual 132, [6, 10, 109], .null, []), (1110, .aload 2, [], .null, []), (1111, .aload 0, [], .null, []), (1112, .iload 3, [], .null, []), (1113, .aconst_null, [], .int 1, []), (1114, .iadd, [], .null, []), (1115, .iaload, [], .null, []), (1116, .aload 0, [], .null, []), (1117, .iload 3, [], .null, []), (1118, .aconst_null, [], .int 2, []), (1119, .iadd, [], .null, []), (1120, .iaload, [], .null, []), (1121, .aload 0, [], .null, []), (1122, .iload 3, [], .null, []), (1123, .aconst_null, [], .int 3, []), (1124, .iadd, [], .null, []), (1125, .iaload, [], .null, []), (1126, .aload 0, [], .null, []), (1127, .iload 3, [], .null, []), (1128, .aconst_null, [], .int 4, []), (1129, .iadd, [], .null, []), (1130, .iaload, [], .null, []), (1131, .aload 0, [], .null, []), (1132, .iload 3, [], .null, []), (1133, .aconst_null, [], .int 5, []), (1134, .iadd, [], .null, []), (1135, .iaload, [], .null, []), (1136, .invokevirtual 136, [6, 11, 220], .null, []), (1139, .if_icmp .eq 179, [1318], .null, []), (1142, .aconst_null, [], .int 0, []), (1143, .ireturn, [1], .null, [])]
  | 1144 => [(1144, .aload 1, [], .null, []), (1145, .aload 0, [], .null, []), (1146, .iload 3, [], .null, []), (1147, .aconst_null, [], .int 1, []), (1148, .iadd, [], .null, []), (1149, .iaload, [], .null, []), (1150, .invokevirtual 137, [2, 10, 110], .null, []), (1153, .aload 2, [], .null, []), (1154, .aload 0, [], .null, []), (1155, .iload 3, [], .null, []), (1156, .aconst_null, [], .int 1, []), (1157, .iadd, [], .null, []), (1158, .iaload, [], .null, []), (1159, .invokevirtual 140, [2, 11, 221], .null, []), (1162, .if_icmp .eq 156, [1318], .null, []), (1165, .aconst_null, [], .int 0, []), (1166, .ireturn, [1], .null, [])]
  | 1167 => [(1167, .aload 1, [], .null, []), (1168, .aload 0, [], .null, []), (1169, .iload 3, [], .null, []), (1170, .aconst_null, [], .int 1, []), (1171, .iadd, [], .null, []), (1172, .iaload, [], .null, []), (1173, .aload 0, [], .null, []), (1174, .iload 3, [], .null, []), (1175, .aconst_null, [], .int 2, []), (1176, .iadd, [], .null, []), (1177, .iaload, [], .null, []), (1178, .invokevirtual 141, [3, 10, 111], .null, []), (1181, .aload 2, [], .null, []), (1182, .aload 0, [], .null, []), (1183, .iload 3, [], .null, []), (1184, .aconst_null, [], .int 1, []), (1185, .iadd, [], .null, []), (1186, .iaload, [], .null, []), (1187, .aload 0, [], .null, []), (1188, .iload 3, [], .null, []), (1189, .aconst_null, [], .int 2, []), (1190, .iadd, [], .null, []), (1191, .iaload, [], .null, []), (1192, .invokevirtual 144, [3, 11, 222], .null, []), (1195, .if_icmp .eq 123, [1318], .null, []), (1198, .aconst_null, [], .int 0, []), (1199, .ireturn, [1], .null, [])]
  | 1200 => [(1200, .aload 1, [], .null, []), (1201, .aload 0, [], .null, []), (1202, .iload 3, [], .null, []), (1203, .aconst_null, [], .int 1, []), (1204, .iadd, [], .null, []), (1205, .iaload, [], .null, []), (1206, .aload 0, [], .null, []), (1207, .iload 3, [], .null, []), (1208, .aconst_null, [], .int 2, []), (1209, .iadd, [], .null, []), (1210, .iaload, [], .null, []), (1211, .invokevirtual 145, [3, 10, 112], .null, []), (1214, .aload 2, [], .null, []), (1215, .aload 0, [], .null, []), (1216, .iload 3, [], .null, []), (1217, .aconst_null, [], .int 1, []), (1218, .iadd, [], .null, []), (1219, .iaload, [], .null, []), (1220, .aload 0, [], .null, []), (1221, .iload 3, [], .null, []), (1222, .aconst_null, [], .int 2, []), (1223, .iadd, [], .null, []), (1224, .iaload, [], .null, []), (1225, .invokevirtual 148, [3, 11, 224], .null, []), (1228, .if_icmp .eq 90, [1318], .null, []), (1231, .aconst_null, [], .int 0, []), (1232, .ireturn, [1], .null, [])]
  | 1233 => [(1233, .aload 1, [], .null, []), (1234, .invokevirtual 149, [1, 10, 113], .null, []), (1237, .aload 2, [], .null, []), (1238, .invokevirtual 152, [1, 11, 225], .null, []), (1241, .if_icmp .eq 77, [1318], .null, []), (1244, .aconst_null, [], .int 0, []), (1245, .ireturn, [1], .null, [])]
  | 1246 => [(1246, .aload 1, [], .null, []), (1247, .invokevirtual 153, [1, 10, 114], .null, []), (1250, .aload 2, [], .null, []), (1251, .invokevirtual 156, [1, 11, 226], .null, []), (1254, .if_icmp .eq 64, [1318], .null, []), (1257, .aconst_null, [], .int 0, []), (1258, .ireturn, [1], .null, [])]
  | 1259 => [(1259, .aload 1, [], .null, []), (1260, .invokevirtual 157, [1, 10, 115], .null, []), (1263, .aload 2, [], .null, []), (1264, .invokevirtual 160, [1, 11, 227], .null, []), (1267, .if_icmp .eq 51, [1318], .null, []), (1270, .aconst_null, [], .int 0, []), (1271, .ireturn, [1], .null, [])]
  | 1272 => [(1272, .aload 1, [], .null, []), (1273, .aload 0, [], .null, []), (1274, .iload 3, [], .null, []), (1275, .aconst_null, [], .int 1, []), (1276, .iadd, [], .null, []), (1277, .iaload, [], .null, []), (1278, .invokevirtual 161, [2, 10, 116], .null, []), (1281, .aload 2, [], .null, []), (1282, .aload 0, [], .null, []), (1283, .iload 3, [], .null, []), (1284, .aconst_null, [], .int 1, []), (1285, .iadd, [], .null, []), (1286, .iaload, [], .null, []), (1287, .invokevirtual 164, [2, 11, 229], .null, []), (1290, .if_icmp .eq 28, [1318], .null, []), (1293, .aconst_null, [], .int 0, []), (1294, .ireturn, [1], .null, [])]
  | 1295 => [(1295, .aload 1, [], .null, []), (1296, .aload 0, [], .null, []), (1297, .iload 3, [], .null, []), (1298, .aconst_null, [], .int 1, []), (1299, .iadd, [], .null, []), (1300, .iaload, [], .null, []), (1301, .invokevirtual 165, [2, 10, 117], .null, []), (1304, .aload 2, [], .null, []), (1305, .aload 0, [], .null, []), (1306, .iload 3, [], .null, []), (1307, .aconst_null, [], .int 1, []), (1308, .iadd, [], .null, []), (1309, .iaload, [], .null, []), (1310, .invokevirtual 168, [2, 11, 230], .null, []), (1313, .if_icmp .eq 5, [1318], .null, []), (1316, .aconst_null, [], .int 0, []), (1317, .ireturn, [1], .null, [])]
  | 1318 => [(1318, .iinc 3 6, [], .int 6, []), (1321, .goto (-1303), [18], .null, [])]
  | 1324 => [(1324, .aconst_null, [], .int 1, []), (1325, .ireturn, [1], .null, [])]
  | _ => []
/-- a method: its code, its locals, the cells and slots that it makes -/
def am_pr : Nat → (Nat → List En) × Nat × Nat × Nat := fun y => match y with
  | 0 => (am_b0, 1, 0, 0)
  | 1 => (am_b1, 1, 0, 0)
  | 2 => (am_b2, 3, 0, 0)
  | 3 => (am_b3, 1, 0, 0)
  | 4 => (am_b4, 1, 0, 0)
  | 5 => (am_b5, 1, 0, 0)
  | 6 => (am_b6, 1, 0, 0)
  | 7 => (am_b7, 2, 0, 0)
  | 8 => (am_b8, 1, 0, 0)
  | 9 => (am_b9, 1, 1, 7)
  | 10 => (am_b10, 3, 0, 0)
  | 11 => (am_b11, 3, 0, 0)
  | 12 => (am_b12, 1, 0, 0)
  | 13 => (am_b13, 1, 0, 0)
  | 14 => (am_b14, 3, 0, 0)
  | 15 => (am_b15, 1, 0, 0)
  | 16 => (am_b16, 1, 0, 0)
  | 17 => (am_b17, 1, 0, 0)
  | 18 => (am_b18, 3, 0, 0)
  | 19 => (am_b19, 2, 0, 0)
  | 20 => (am_b20, 1, 0, 0)
  | 21 => (am_b21, 1, 0, 0)
  | 22 => (am_b22, 1, 0, 0)
  | 23 => (am_b23, 3, 0, 0)
  | 24 => (am_b24, 1, 0, 0)
  | 25 => (am_b25, 2, 0, 0)
  | 26 => (am_b26, 1, 0, 0)
  | 27 => (am_b27, 1, 0, 0)
  | 28 => (am_b28, 1, 0, 0)
  | 29 => (am_b29, 1, 0, 0)
  | 30 => (am_b30, 3, 0, 0)
  | 31 => (am_b31, 1, 0, 0)
  | 32 => (am_b32, 2, 0, 0)
  | 33 => (am_b33, 1, 0, 0)
  | 34 => (am_b34, 1, 0, 0)
  | 35 => (am_b35, 1, 1, 40)
  | 36 => (am_b36, 1, 0, 0)
  | 37 => (am_b37, 3, 0, 0)
  | 38 => (am_b38, 3, 0, 0)
  | 39 => (am_b39, 4, 0, 0)
  | 40 => (am_b40, 2, 9, 78)
  | 41 => (am_b41, 2, 0, 0)
  | 42 => (am_b42, 1, 0, 0)
  | 43 => (am_b43, 5, 0, 0)
  | 44 => (am_b44, 4, 0, 0)
  | 45 => (am_b45, 2, 0, 0)
  | 46 => (am_b46, 4, 0, 0)
  | 47 => (am_b47, 2, 0, 0)
  | 48 => (am_b48, 2, 0, 0)
  | 49 => (am_b49, 4, 0, 0)
  | 50 => (am_b50, 4, 0, 0)
  | 51 => (am_b51, 3, 0, 0)
  | 52 => (am_b52, 3, 0, 0)
  | 53 => (am_b53, 4, 0, 0)
  | 54 => (am_b54, 4, 0, 0)
  | 55 => (am_b55, 5, 0, 0)
  | 56 => (am_b56, 4, 0, 0)
  | 57 => (am_b57, 5, 0, 0)
  | 58 => (am_b58, 2, 0, 0)
  | 59 => (am_b59, 3, 0, 0)
  | 60 => (am_b60, 3, 0, 0)
  | 61 => (am_b61, 2, 0, 0)
  | 62 => (am_b62, 3, 0, 0)
  | 63 => (am_b63, 2, 0, 0)
  | 64 => (am_b64, 4, 0, 0)
  | 65 => (am_b65, 9, 0, 0)
  | 66 => (am_b66, 1, 1, 120)
  | 67 => (am_b67, 4, 0, 0)
  | 68 => (am_b68, 3, 0, 0)
  | 69 => (am_b69, 3, 0, 0)
  | 70 => (am_b70, 2, 0, 0)
  | 71 => (am_b71, 3, 0, 0)
  | 72 => (am_b72, 4, 0, 0)
  | 73 => (am_b73, 2, 0, 0)
  | 74 => (am_b74, 3, 0, 0)
  | 75 => (am_b75, 1, 0, 0)
  | 76 => (am_b76, 1, 0, 0)
  | 77 => (am_b77, 1, 0, 0)
  | 78 => (am_b78, 1, 0, 0)
  | 79 => (am_b79, 1, 0, 0)
  | 80 => (am_b80, 2, 50, 589)
  | 81 => (am_b81, 5, 0, 0)
  | 82 => (am_b82, 3, 0, 0)
  | 83 => (am_b83, 4, 0, 0)
  | 84 => (am_b84, 2, 0, 0)
  | 85 => (am_b85, 2, 0, 0)
  | 86 => (am_b86, 4, 0, 0)
  | 87 => (am_b87, 3, 0, 0)
  | 88 => (am_b88, 4, 0, 0)
  | 89 => (am_b89, 5, 0, 0)
  | 90 => (am_b90, 4, 0, 0)
  | 91 => (am_b91, 3, 0, 0)
  | 92 => (am_b92, 2, 0, 0)
  | 93 => (am_b93, 4, 0, 0)
  | 94 => (am_b94, 3, 0, 0)
  | 95 => (am_b95, 2, 0, 0)
  | 96 => (am_b96, 2, 0, 0)
  | 97 => (am_b97, 3, 0, 0)
  | 98 => (am_b98, 7, 0, 0)
  | 99 => (am_b99, 7, 0, 0)
  | 100 => (am_b100, 6, 0, 0)
  | 101 => (am_b101, 6, 0, 0)
  | 102 => (am_b102, 6, 0, 0)
  | 103 => (am_b103, 5, 0, 0)
  | 104 => (am_b104, 3, 0, 0)
  | 105 => (am_b105, 2, 0, 0)
  | 106 => (am_b106, 2, 0, 0)
  | 107 => (am_b107, 4, 0, 0)
  | 108 => (am_b108, 8, 0, 0)
  | 109 => (am_b109, 8, 0, 0)
  | 110 => (am_b110, 8, 0, 0)
  | 111 => (am_b111, 6, 0, 0)
  | 112 => (am_b112, 7, 0, 0)
  | 113 => (am_b113, 1, 0, 0)
  | 114 => (am_b114, 1, 0, 0)
  | 115 => (am_b115, 2, 0, 0)
  | 116 => (am_b116, 2, 0, 0)
  | 117 => (am_b117, 2, 0, 0)
  | 118 => (am_b118, 3, 0, 0)
  | 119 => (am_b119, 1, 0, 0)
  | 120 => (am_b120, 1, 0, 0)
  | 121 => (am_b121, 1, 0, 0)
  | 122 => (am_b122, 1, 0, 0)
  | 123 => (am_b123, 2, 0, 0)
  | 124 => (am_b124, 2, 0, 0)
  | 125 => (am_b125, 1, 0, 0)
  | 126 => (am_b126, 2, 0, 0)
  | 127 => (am_b127, 3, 0, 0)
  | 128 => (am_b128, 3, 0, 0)
  | 129 => (am_b129, 2, 0, 0)
  | 130 => (am_b130, 4, 0, 0)
  | 131 => (am_b131, 2, 10, 775)
  | 132 => (am_b132, 6, 0, 0)
  | 133 => (am_b133, 2, 0, 0)
  | 134 => (am_b134, 2, 0, 0)
  | 135 => (am_b135, 2, 0, 0)
  | 136 => (am_b136, 2, 0, 0)
  | 137 => (am_b137, 3, 0, 0)
  | 138 => (am_b138, 4, 0, 0)
  | 139 => (am_b139, 2, 0, 0)
  | 140 => (am_b140, 2, 0, 0)
  | 141 => (am_b141, 3, 0, 0)
  | 142 => (am_b142, 2, 0, 0)
  | 143 => (am_b143, 1, 0, 0)
  | 144 => (am_b144, 1, 0, 0)
  | 145 => (am_b145, 2, 0, 0)
  | 146 => (am_b146, 1, 0, 0)
  | 147 => (am_b147, 2, 0, 0)
  | 148 => (am_b148, 3, 0, 0)
  | 149 => (am_b149, 3, 0, 0)
  | 150 => (am_b150, 4, 0, 0)
  | 151 => (am_b151, 3, 0, 0)
  | 152 => (am_b152, 5, 0, 0)
  | 153 => (am_b153, 4, 0, 0)
  | 154 => (am_b154, 3, 0, 0)
  | 155 => (am_b155, 4, 0, 0)
  | 156 => (am_b156, 3, 0, 0)
  | 157 => (am_b157, 2, 0, 0)
  | 158 => (am_b158, 2, 0, 0)
  | 159 => (am_b159, 3, 0, 0)
  | 160 => (am_b160, 3, 0, 0)
  | 161 => (am_b161, 3, 0, 0)
  | 162 => (am_b162, 3, 0, 0)
  | 163 => (am_b163, 2, 0, 0)
  | 164 => (am_b164, 5, 0, 0)
  | 165 => (am_b165, 4, 0, 0)
  | 166 => (am_b166, 3, 0, 0)
  | 167 => (am_b167, 3, 0, 0)
  | 168 => (am_b168, 5, 0, 0)
  | 169 => (am_b169, 3, 0, 0)
  | 170 => (am_b170, 2, 0, 0)
  | 171 => (am_b171, 3, 0, 0)
  | 172 => (am_b172, 2, 0, 0)
  | 173 => (am_b173, 3, 0, 0)
  | 174 => (am_b174, 7, 0, 0)
  | 175 => (am_b175, 5, 0, 0)
  | 176 => (am_b176, 3, 0, 0)
  | 177 => (am_b177, 3, 0, 0)
  | 178 => (am_b178, 3, 0, 0)
  | 179 => (am_b179, 4, 0, 0)
  | 180 => (am_b180, 3, 0, 0)
  | 181 => (am_b181, 2, 0, 0)
  | 182 => (am_b182, 1, 0, 0)
  | 183 => (am_b183, 3, 0, 0)
  | 184 => (am_b184, 2, 0, 0)
  | 185 => (am_b185, 5, 0, 0)
  | 186 => (am_b186, 4, 0, 0)
  | 187 => (am_b187, 3, 0, 0)
  | 188 => (am_b188, 5, 0, 0)
  | 189 => (am_b189, 4, 0, 0)
  | 190 => (am_b190, 2, 0, 0)
  | 191 => (am_b191, 2, 0, 0)
  | 192 => (am_b192, 3, 0, 0)
  | 193 => (am_b193, 1, 0, 0)
  | 194 => (am_b194, 9, 0, 0)
  | 195 => (am_b195, 9, 0, 0)
  | 196 => (am_b196, 6, 0, 0)
  | 197 => (am_b197, 6, 0, 0)
  | 198 => (am_b198, 6, 0, 0)
  | 199 => (am_b199, 4, 0, 0)
  | 200 => (am_b200, 4, 0, 0)
  | 201 => (am_b201, 2, 0, 0)
  | 202 => (am_b202, 2, 0, 0)
  | 203 => (am_b203, 1, 0, 0)
  | 204 => (am_b204, 1, 0, 0)
  | 205 => (am_b205, 3, 0, 0)
  | 206 => (am_b206, 2, 0, 0)
  | 207 => (am_b207, 4, 0, 0)
  | 208 => (am_b208, 6, 0, 0)
  | 209 => (am_b209, 3, 0, 0)
  | 210 => (am_b210, 3, 0, 0)
  | 211 => (am_b211, 1, 0, 0)
  | 212 => (am_b212, 2, 0, 0)
  | 213 => (am_b213, 4, 0, 0)
  | 214 => (am_b214, 2, 0, 0)
  | 215 => (am_b215, 1, 0, 0)
  | 216 => (am_b216, 5, 0, 0)
  | 217 => (am_b217, 3, 0, 0)
  | 218 => (am_b218, 2, 0, 0)
  | 219 => (am_b219, 8, 0, 0)
  | 220 => (am_b220, 7, 0, 0)
  | 221 => (am_b221, 6, 0, 0)
  | 222 => (am_b222, 5, 0, 0)
  | 223 => (am_b223, 4, 0, 0)
  | 224 => (am_b224, 6, 0, 0)
  | 225 => (am_b225, 2, 0, 0)
  | 226 => (am_b226, 2, 0, 0)
  | 227 => (am_b227, 2, 0, 0)
  | 228 => (am_b228, 3, 0, 0)
  | 229 => (am_b229, 2, 0, 0)
  | 230 => (am_b230, 4, 0, 0)
  | 231 => (am_b231, 1, 0, 0)
  | 232 => (am_b232, 5, 0, 0)
  | 233 => (am_b233, 4, 0, 0)
  | _ => (fun _ => [], 0, 0, 0)
def am_acc : Nat → Nat × Nat := fun y => match y with
  | 9 => (1, 7)
  | 35 => (1, 40)
  | 40 => (9, 78)
  | 66 => (1, 120)
  | 80 => (50, 589)
  | 131 => (10, 775)
  | _ => (0, 0)
theorem b0_0 : am_b0 0 = [(0, .aload 0, [], .null, []), (1, .invokespecial 1, [21, 1], .null, []), (4, .return_, [], .null, [])] := rfl
theorem pr_0 : am_pr 0 = (am_b0, 1, 0, 0) := rfl
theorem b1_0 : am_b1 0 = [(0, .aconst_null, [], .ref 1002, []), (2, .areturn, [], .null, [])] := rfl
theorem pr_1 : am_pr 1 = (am_b1, 1, 0, 0) := rfl
theorem b2_0 : am_b2 0 = [(0, .aload 0, [], .null, []), (1, .iload 1, [], .null, []), (2, .iload 2, [], .null, []), (3, .invokespecial 9, [23, 3], .null, []), (6, .iload 2, [], .null, []), (7, .ifCond .eq 7, [14], .null, []), (10, .aconst_null, [], .int 1, []), (11, .goto 4, [15], .null, [])] := rfl
theorem b2_14 : am_b2 14 = [(14, .aconst_null, [], .int 0, []), (15, .nop, [15], .null, [])] := rfl
theorem b2_15 : am_b2 15 = [(15, .iadd, [], .null, []), (16, .ireturn, [0], .null, [])] := rfl
theorem pr_2 : am_pr 2 = (am_b2, 3, 0, 0) := rfl
theorem b3_0 : am_b3 0 = [(0, .aconst_null, [], .int 15, []), (2, .ireturn, [0], .null, [])] := rfl
theorem pr_3 : am_pr 3 = (am_b3, 1, 0, 0) := rfl
theorem b4_0 : am_b4 0 = [(0, .aload 0, [], .null, []), (1, .invokespecial 1, [21, 1], .null, []), (4, .return_, [], .null, [])] := rfl
theorem pr_4 : am_pr 4 = (am_b4, 1, 0, 0) := rfl
theorem b5_0 : am_b5 0 = [(0, .aconst_null, [], .ref 1001, []), (2, .areturn, [], .null, [])] := rfl
theorem pr_5 : am_pr 5 = (am_b5, 1, 0, 0) := rfl
theorem b6_0 : am_b6 0 = [(0, .aconst_null, [], .int 1, []), (1, .ireturn, [0], .null, [])] := rfl
theorem pr_6 : am_pr 6 = (am_b6, 1, 0, 0) := rfl
theorem b7_0 : am_b7 0 = [(0, .aconst_null, [], .int 1, []), (1, .ireturn, [1], .null, [])] := rfl
theorem pr_7 : am_pr 7 = (am_b7, 2, 0, 0) := rfl
theorem b8_0 : am_b8 0 = [(0, .aconst_null, [], .int 1, []), (1, .ireturn, [0], .null, [])] := rfl
theorem pr_8 : am_pr 8 = (am_b8, 1, 0, 0) := rfl
theorem b9_0 : am_b9 0 = [(0, .aload 0, [], .null, []), (1, .monitorexit, [3], .null, []), (4, .aload 0, [], .null, []), (5, .aconst_null, [], .int 7, []), (7, .newarray .int, [], .null, []), (9, .putfield 9, [2, 0, 2], .null, []), (12, .return_, [], .null, [])] := rfl
theorem pr_9 : am_pr 9 = (am_b9, 1, 1, 7) := rfl
theorem b10_0 : am_b10 0 = [(0, .aconst_null, [], .int (-1000000001), []), (2, .iload 1, [], .null, []), (3, .isub, [], .null, []), (4, .istore 2, [], .null, []), (5, .iload 2, [], .null, []), (6, .ifCond .lt 19, [25], .null, []), (9, .iload 2, [], .null, []), (10, .aconst_null, [], .int 7, []), (12, .if_icmp .ge 13, [25], .null, []), (15, .aload 0, [], .null, []), (16, .getfield 9, [2, 0], .null, []), (19, .iload 2, [], .null, []), (20, .dup2, [], .null, []), (21, .iaload, [], .null, []), (22, .aconst_null, [], .int 1, []), (23, .iadd, [], .null, []), (24, .iastore, [], .null, []), (25, .nop, [25], .null, [])] := rfl
theorem b10_25 : am_b10 25 = [(25, .iload 1, [], .null, []), (26, .ireturn, [0], .null, [])] := rfl
theorem pr_10 : am_pr 10 = (am_b10, 3, 0, 0) := rfl
theorem b11_0 : am_b11 0 = [(0, .aconst_null, [], .int 0, []), (1, .istore 1, [], .null, []), (2, .aconst_null, [], .int 0, []), (3, .istore 2, [], .null, []), (4, .nop, [4], .null, [])] := rfl
theorem b11_4 : am_b11 4 = [(4, .iload 2, [], .null, []), (5, .aconst_null, [], .int 7, []), (7, .if_icmp .ge 18, [25], .null, []), (10, .iload 1, [], .null, []), (11, .aload 0, [], .null, []), (12, .getfield 9, [2, 0], .null, []), (15, .iload 2, [], .null, []), (16, .iaload, [], .null, []), (17, .iadd, [], .null, []), (18, .istore 1, [], .null, []), (19, .iinc 2 1, [], .int 1, []), (22, .goto (-18), [4], .null, [])] := rfl
theorem b11_25 : am_b11 25 = [(25, .iload 1, [], .null, []), (26, .ireturn, [0], .null, [])] := rfl
theorem pr_11 : am_pr 11 = (am_b11, 3, 0, 0) := rfl
theorem b12_0 : am_b12 0 = [(0, .aload 0, [], .null, []), (1, .invokespecial 1, [0, 1], .null, []), (4, .return_, [], .null, [])] := rfl
theorem pr_12 : am_pr 12 = (am_b12, 1, 0, 0) := rfl
theorem b13_0 : am_b13 0 = [(0, .aconst_null, [], .ref 1005, []), (2, .areturn, [], .null, [])] := rfl
theorem pr_13 : am_pr 13 = (am_b13, 1, 0, 0) := rfl
theorem b14_0 : am_b14 0 = [(0, .aload 0, [], .null, []), (1, .iload 1, [], .null, []), (2, .iload 2, [], .null, []), (3, .invokespecial 9, [2, 3], .null, []), (6, .aconst_null, [], .int 1, []), (7, .iadd, [], .null, []), (8, .ireturn, [0], .null, [])] := rfl
theorem pr_14 : am_pr 14 = (am_b14, 3, 0, 0) := rfl
theorem b15_0 : am_b15 0 = [(0, .aconst_null, [], .int 2, []), (1, .aload 0, [], .null, []), (2, .invokespecial 13, [3, 1], .null, []), (5, .imul, [], .null, []), (6, .ireturn, [0], .null, [])] := rfl
theorem pr_15 : am_pr 15 = (am_b15, 1, 0, 0) := rfl
theorem b16_0 : am_b16 0 = [(0, .aload 0, [], .null, []), (1, .invokespecial 1, [4, 1], .null, []), (4, .return_, [], .null, [])] := rfl
theorem pr_16 : am_pr 16 = (am_b16, 1, 0, 0) := rfl
theorem b17_0 : am_b17 0 = [(0, .aconst_null, [], .ref 1004, []), (2, .areturn, [], .null, [])] := rfl
theorem pr_17 : am_pr 17 = (am_b17, 1, 0, 0) := rfl
theorem b18_0 : am_b18 0 = [(0, .aload 0, [], .null, []), (1, .iload 1, [], .null, []), (2, .iload 2, [], .null, []), (3, .invokespecial 9, [23, 3], .null, []), (6, .aconst_null, [], .int 1, []), (7, .iadd, [], .null, []), (8, .ireturn, [0], .null, [])] := rfl
theorem pr_18 : am_pr 18 = (am_b18, 3, 0, 0) := rfl
theorem b19_0 : am_b19 0 = [(0, .iload 1, [], .null, []), (1, .aconst_null, [], .int 2, []), (2, .irem, [], .null, []), (3, .ifCond .ne 15, [18], .null, []), (6, .aload 0, [], .null, []), (7, .iload 1, [], .null, []), (8, .invokespecial 13, [7, 2], .null, []), (11, .ifCond .eq 7, [18], .null, []), (14, .aconst_null, [], .int 1, []), (15, .goto 4, [19], .null, [])] := rfl
theorem b19_18 : am_b19 18 = [(18, .aconst_null, [], .int 0, []), (19, .nop, [19], .null, [])] := rfl
theorem b19_19 : am_b19 19 = [(19, .ireturn, [1], .null, [])] := rfl
theorem pr_19 : am_pr 19 = (am_b19, 2, 0, 0) := rfl
theorem b20_0 : am_b20 0 = [(0, .aload 0, [], .null, []), (1, .invokespecial 17, [27, 1], .null, []), (4, .aconst_null, [], .int 4, []), (5, .iadd, [], .null, []), (6, .ireturn, [0], .null, [])] := rfl
theorem pr_20 : am_pr 20 = (am_b20, 1, 0, 0) := rfl
theorem b21_0 : am_b21 0 = [(0, .aload 0, [], .null, []), (1, .monitorexit, [1], .null, []), (4, .return_, [], .null, [])] := rfl
theorem pr_21 : am_pr 21 = (am_b21, 1, 0, 0) := rfl
theorem b22_0 : am_b22 0 = [(0, .aconst_null, [], .ref 1000, []), (2, .areturn, [], .null, [])] := rfl
theorem pr_22 : am_pr 22 = (am_b22, 1, 0, 0) := rfl
theorem b23_0 : am_b23 0 = [(0, .aconst_null, [], .int 1, []), (1, .ireturn, [0], .null, [])] := rfl
theorem pr_23 : am_pr 23 = (am_b23, 3, 0, 0) := rfl
theorem b24_0 : am_b24 0 = [(0, .aconst_null, [], .int 0, []), (1, .ireturn, [0], .null, [])] := rfl
theorem pr_24 : am_pr 24 = (am_b24, 1, 0, 0) := rfl
theorem b25_0 : am_b25 0 = [(0, .aconst_null, [], .int 0, []), (1, .ireturn, [1], .null, [])] := rfl
theorem pr_25 : am_pr 25 = (am_b25, 2, 0, 0) := rfl
theorem b26_0 : am_b26 0 = [(0, .aconst_null, [], .int 2, []), (1, .ireturn, [0], .null, [])] := rfl
theorem pr_26 : am_pr 26 = (am_b26, 1, 0, 0) := rfl
theorem b27_0 : am_b27 0 = [(0, .aconst_null, [], .int 10, []), (2, .ireturn, [0], .null, [])] := rfl
theorem pr_27 : am_pr 27 = (am_b27, 1, 0, 0) := rfl
theorem b28_0 : am_b28 0 = [(0, .aload 0, [], .null, []), (1, .invokespecial 1, [21, 1], .null, []), (4, .return_, [], .null, [])] := rfl
theorem pr_28 : am_pr 28 = (am_b28, 1, 0, 0) := rfl
theorem b29_0 : am_b29 0 = [(0, .aconst_null, [], .ref 1003, []), (2, .areturn, [], .null, [])] := rfl
theorem pr_29 : am_pr 29 = (am_b29, 1, 0, 0) := rfl
theorem b30_0 : am_b30 0 = [(0, .iload 1, [], .null, []), (1, .aconst_null, [], .int 3, []), (2, .irem, [], .null, []), (3, .ifCond .ne 7, [10], .null, []), (6, .aconst_null, [], .int 1, []), (7, .goto 4, [11], .null, [])] := rfl
theorem b30_10 : am_b30 10 = [(10, .aconst_null, [], .int 0, []), (11, .nop, [11], .null, [])] := rfl
theorem b30_11 : am_b30 11 = [(11, .ireturn, [0], .null, [])] := rfl
theorem pr_30 : am_pr 30 = (am_b30, 3, 0, 0) := rfl
theorem b31_0 : am_b31 0 = [(0, .aconst_null, [], .int (-1), []), (1, .ireturn, [0], .null, [])] := rfl
theorem pr_31 : am_pr 31 = (am_b31, 1, 0, 0) := rfl
theorem b32_0 : am_b32 0 = [(0, .aconst_null, [], .int 1, []), (1, .ireturn, [1], .null, [])] := rfl
theorem pr_32 : am_pr 32 = (am_b32, 2, 0, 0) := rfl
theorem b33_0 : am_b33 0 = [(0, .aconst_null, [], .int 0, []), (1, .ireturn, [0], .null, [])] := rfl
theorem pr_33 : am_pr 33 = (am_b33, 1, 0, 0) := rfl
theorem b34_0 : am_b34 0 = [(0, .aconst_null, [], .int 0, []), (1, .ireturn, [0], .null, [])] := rfl
theorem pr_34 : am_pr 34 = (am_b34, 1, 0, 0) := rfl
theorem b35_0 : am_b35 0 = [(0, .aload 0, [], .null, []), (1, .monitorexit, [3], .null, []), (4, .aload 0, [], .null, []), (5, .aconst_null, [], .int 40, []), (7, .newarray .long, [], .null, []), (9, .putfield 9, [7, 2, 2], .null, []), (12, .return_, [], .null, [])] := rfl
theorem pr_35 : am_pr 35 = (am_b35, 1, 1, 40) := rfl
theorem b36_0 : am_b36 0 = [(0, .aload 0, [], .null, []), (1, .getfield 15, [7, 0], .null, []), (4, .ifCond .ne 7, [11], .null, []), (7, .aconst_null, [], .int 1, []), (8, .goto 4, [12], .null, [])] := rfl
theorem b36_11 : am_b36 11 = [(11, .aconst_null, [], .int 0, []), (12, .nop, [12], .null, [])] := rfl
theorem b36_12 : am_b36 12 = [(12, .ireturn, [1], .null, [])] := rfl
theorem pr_36 : am_pr 36 = (am_b36, 1, 0, 0) := rfl
theorem b37_0 : am_b37 0 = [(0, .aload 0, [], .null, []), (1, .iload 1, [], .null, []), (2, .putfield 15, [7, 0, 0], .null, []), (5, .aload 0, [], .null, []), (6, .iload 2, [], .null, []), (7, .putfield 19, [7, 1, 0], .null, []), (10, .aload 0, [], .null, []), (11, .getfield 9, [7, 2], .null, []), (14, .aconst_null, [], .long 0, []), (15, .invokestatic 22, [232, 2], .null, []), (18, .aload 0, [], .null, []), (19, .getfield 19, [7, 1], .null, []), (22, .ireturn, [0], .null, [])] := rfl
theorem pr_37 : am_pr 37 = (am_b37, 3, 0, 0) := rfl
theorem b38_0 : am_b38 0 = [(0, .iload 1, [], .null, []), (1, .ifCond .lt 29, [30], .null, []), (4, .iload 2, [], .null, []), (5, .ifCond .lt 25, [30], .null, []), (8, .iload 2, [], .null, []), (9, .aload 0, [], .null, []), (10, .getfield 19, [7, 1], .null, []), (13, .if_icmp .gt 17, [30], .null, []), (16, .iload 1, [], .null, []), (17, .aload 0, [], .null, []), (18, .getfield 19, [7, 1], .null, []), (21, .iload 2, [], .null, []), (22, .isub, [], .null, []), (23, .if_icmp .gt 7, [30], .null, []), (26, .aconst_null, [], .int 1, []), (27, .goto 4, [31], .null, [])] := rfl
theorem b38_30 : am_b38 30 = [(30, .aconst_null, [], .int 0, []), (31, .nop, [31], .null, [])] := rfl
theorem b38_31 : am_b38 31 = [(31, .ireturn, [1], .null, [])] := rfl
theorem pr_38 : am_pr 38 = (am_b38, 3, 0, 0) := rfl
theorem b39_0 : am_b39 0 = [(0, .aload 0, [], .null, []), (1, .getfield 15, [7, 0], .null, []), (4, .lookupswitch 54 #[(8, 28), (16, 41)], [58], .null, [(8, 32), (16, 45)])] := rfl
theorem b39_32 : am_b39 32 = [(32, .aload 0, [], .null, []), (33, .getfield 9, [7, 2], .null, []), (36, .iload 1, [], .null, []), (37, .lload 2, [], .null, []), (38, .l2i, [], .null, []), (39, .i2b, [], .null, []), (40, .i2l, [], .null, []), (41, .lastore, [], .null, []), (42, .goto 23, [65], .null, [])] := rfl
theorem b39_45 : am_b39 45 = [(45, .aload 0, [], .null, []), (46, .getfield 9, [7, 2], .null, []), (49, .iload 1, [], .null, []), (50, .lload 2, [], .null, []), (51, .l2i, [], .null, []), (52, .i2s, [], .null, []), (53, .i2l, [], .null, []), (54, .lastore, [], .null, []), (55, .goto 10, [65], .null, [])] := rfl
theorem b39_58 : am_b39 58 = [(58, .aload 0, [], .null, []), (59, .getfield 9, [7, 2], .null, []), (62, .iload 1, [], .null, []), (63, .lload 2, [], .null, []), (64, .lastore, [], .null, []), (65, .nop, [65], .null, [])] := rfl
theorem b39_65 : am_b39 65 = [(65, .return_, [], .null, [])] := rfl
theorem pr_39 : am_pr 39 = (am_b39, 4, 0, 0) := rfl
theorem b40_0 : am_b40 0 = [(0, .aload 0, [], .null, []), (1, .monitorexit, [3], .null, []), (4, .aload 0, [], .null, []), (5, .aload 1, [], .null, []), (6, .putfield 9, [8, 0, 2], .null, []), (9, .aload 0, [], .null, []), (10, .aconst_null, [], .int 30, []), (12, .newarray .int, [], .null, []), (14, .putfield 15, [8, 4, 2], .null, []), (17, .aload 0, [], .null, []), (18, .aconst_null, [], .int 6, []), (20, .newarray .int, [], .null, []), (22, .putfield 19, [8, 5, 2], .null, []), (25, .aload 0, [], .null, []), (26, .getfield 19, [8, 5], .null, []), (29, .aconst_null, [], .int (-1), []), (30, .invokestatic 22, [233, 2], .null, []), (33, .aload 0, [], .null, []), (34, .aconst_null, [], .int 6, []), (36, .newarray .int, [], .null, []), (38, .putfield 28, [8, 6, 2], .null, []), (41, .aload 0, [], .null, []), (42, .aconst_null, [], .int 6, []), (44, .newarray .int, [], .null, []), (46, .putfield 31, [8, 7, 2], .null, []), (49, .aload 0, [], .null, []), (50, .aconst_null, [], .int 6, []), (52, .newarray .int, [], .null, []), (54, .putfield 34, [8, 8, 2], .null, []), (57, .aload 0, [], .null, []), (58, .aconst_null, [], .int 6, []), (60, .newarray .int, [], .null, []), (62, .putfield 37, [8, 9, 2], .null, []), (65, .aload 0, [], .null, []), (66, .aconst_null, [], .int 6, []), (68, .newarray .int, [], .null, []), (70, .putfield 40, [8, 10, 2], .null, []), (73, .aload 0, [], .null, []), (74, .aconst_null, [], .int 6, []), (76, .newarray .int, [], .null, []), (78, .putfield 43, [8, 11, 2], .null, []), (81, .aload 0, [], .null, []), (82, .aconst_null, [], .int 6, []), (84, .newarray .int, [], .null, []), (86, .putfield 46, [8, 12, 2], .null, []), (89, .return_, [], .null, [])] := rfl
theorem pr_40 : am_pr 40 = (am_b40, 2, 9, 78) := rfl
theorem b41_0 : am_b41 0 = [(0, .aload 0, [], .null, []), (1, .aload 1, [], .null, []), (2, .getfield 49, [8, 1], .null, []), (5, .putfield 49, [8, 1, 0], .null, []), (8, .aload 0, [], .null, []), (9, .aload 1, [], .null, []), (10, .getfield 53, [8, 2], .null, []), (13, .putfield 53, [8, 2, 0], .null, []), (16, .aload 0, [], .null, []), (17, .aload 1, [], .null, []), (18, .getfield 56, [8, 3], .null, []), (21, .putfield 56, [8, 3, 0], .null, []), (24, .aload 1, [], .null, []), (25, .getfield 15, [8, 4], .null, []), (28, .aconst_null, [], .int 0, []), (29, .aload 0, [], .null, []), (30, .getfield 15, [8, 4], .null, []), (33, .aconst_null, [], .int 0, []), (34, .aconst_null, [], .int 30, []), (36, .invokedynamic 59, [], .null, []), (39, .aload 1, [], .null, []), (40, .getfield 19, [8, 5], .null, []), (43, .aconst_null, [], .int 0, []), (44, .aload 0, [], .null, []), (45, .getfield 19, [8, 5], .null, []), (48, .aconst_null, [], .int 0, []), (49, .aconst_null, [], .int 6, []), (51, .invokedynamic 59, [], .null, []), (54, .aload 1, [], .null, []), (55, .getfield 28, [8, 6], .null, []), (58, .aconst_null, [], .int 0, []), (59, .aload 0, [], .null, []), (60, .getfield 28, [8, 6], .null, []), (63, .aconst_null, [], .int 0, []), (64, .aconst_null, [], .int 6, []), (66, .invokedynamic 59, [], .null, []), (69, .aload 1, [], .null, []), (70, .getfield 31, [8, 7], .null, []), (73, .aconst_null, [], .int 0, []), (74, .aload 0, [], .null, []), (75, .getfield 31, [8, 7], .null, []), (78, .aconst_null, [], .int 0, []), (79, .aconst_null, [], .int 6, []), (81, .invokedynamic 59, [], .null, []), (84, .aload 1, [], .null, []), (85, .getfield 34, [8, 8], .null, []), (88, .aconst_null, [], .int 0, []), (89, .aload 0, [], .null, []), (90, .getfield 34, [8, 8], .null, []), (93, .aconst_null, [], .int 0, []), (94, .aconst_null, [], .int 6, []), (96, .invokedynamic 59, [], .null, []), (99, .aload 1, [], .null, []), (100, .getfield 37, [8, 9], .null, []), (103, .aconst_null, [], .int 0, []), (104, .aload 0, [], .null, []), (105, .getfield 37, [8, 9], .null, []), (108, .aconst_null, [], .int 0, []), (109, .aconst_null, [], .int 6, []), (111, .invokedynamic 59, [], .null, []), (114, .aload 1, [], .null, []), (115, .getfield 40, [8, 10], .null, []), (118, .aconst_null, [], .int 0, []), (119, .aload 0, [], .null, []), (120, .getfield 40, [8, 10], .null, []), (123, .aconst_null, [], .int 0, []), (124, .aconst_null, [], .int 6, []), (126, .invokedynamic 59, [], .null, []), (129, .aload 1, [], .null, []), (130, .getfield 43, [8, 11], .null, []), (133, .aconst_null, [], .int 0, []), (134, .aload 0, [], .null, []), (135, .getfield 43, [8, 11], .null, []), (138, .aconst_null, [], .int 0, []), (139, .aconst_null, [], .int 6, []), (141, .invokedynamic 59, [], .null, []), (144, .aload 1, [], .null, []), (145, .getfield 46, [8, 12], .null, []), (148, .aconst_null, [], .int 0, []), (149, .aload 0, [], .null, []), (150, .getfield 46, [8, 12], .null, []), (153, .aconst_null, [], .int 0, []), (154, .aconst_null, [], .int 6, []), (156, .invokedynamic 59, [], .null, []), (159, .return_, [], .null, [])] := rfl
theorem pr_41 : am_pr 41 = (am_b41, 2, 0, 0) := rfl
theorem b42_0 : am_b42 0 = [(0, .aload 0, [], .null, []), (1, .getfield 56, [8, 3], .null, []), (4, .aconst_null, [], .int 6, []), (6, .if_icmp .lt 7, [13], .null, []), (9, .aconst_null, [], .int 1, []), (10, .goto 4, [14], .null, [])] := rfl
theorem b42_13 : am_b42 13 = [(13, .aconst_null, [], .int 0, []), (14, .nop, [14], .null, [])] := rfl
theorem b42_14 : am_b42 14 = [(14, .ireturn, [1], .null, [])] := rfl
theorem pr_42 : am_pr 42 = (am_b42, 1, 0, 0) := rfl
theorem b43_0 : am_b43 0 = [(0, .aload 0, [], .null, []), (1, .getfield 56, [8, 3], .null, []), (4, .istore 4, [], .null, []), (6, .aload 0, [], .null, []), (7, .getfield 28, [8, 6], .null, []), (10, .iload 4, [], .null, []), (12, .iload 1, [], .null, []), (13, .iastore, [], .null, []), (14, .aload 0, [], .null, []), (15, .getfield 31, [8, 7], .null, []), (18, .iload 4, [], .null, []), (20, .iload 2, [], .null, []), (21, .iastore, [], .null, []), (22, .aload 0, [], .null, []), (23, .getfield 34, [8, 8], .null, []), (26, .iload 4, [], .null, []), (28, .iload 2, [], .null, []), (29, .iastore, [], .null, []), (30, .aload 0, [], .null, []), (31, .getfield 37, [8, 9], .null, []), (34, .iload 4, [], .null, []), (36, .iload 3, [], .null, []), (37, .iastore, [], .null, []), (38, .aload 0, [], .null, []), (39, .getfield 40, [8, 10], .null, []), (42, .iload 4, [], .null, []), (44, .aconst_null, [], .int 1, []), (45, .iastore, [], .null, []), (46, .aload 0, [], .null, []), (47, .getfield 43, [8, 11], .null, []), (50, .iload 4, [], .null, []), (52, .aconst_null, [], .int 0, []), (53, .iastore, [], .null, []), (54, .aload 0, [], .null, []), (55, .getfield 46, [8, 12], .null, []), (58, .iload 4, [], .null, []), (60, .aconst_null, [], .int (-1), []), (61, .iastore, [], .null, []), (62, .aload 0, [], .null, []), (63, .dup, [], .null, []), (64, .getfield 56, [8, 3], .null, []), (67, .aconst_null, [], .int 1, []), (68, .iadd, [], .null, []), (69, .putfield 56, [8, 3, 0], .null, []), (72, .iload 4, [], .null, []), (74, .ireturn, [0], .null, [])] := rfl
theorem pr_43 : am_pr 43 = (am_b43, 5, 0, 0) := rfl
theorem b44_0 : am_b44 0 = [(0, .aconst_null, [], .int 1, []), (1, .iload 1, [], .null, []), (2, .ishl, [], .null, []), (3, .istore 3, [], .null, []), (4, .aload 0, [], .null, []), (5, .iload 2, [], .null, []), (6, .aconst_null, [], .int 1, []), (7, .if_icmp .ne 12, [19], .null, []), (10, .aload 0, [], .null, []), (11, .getfield 53, [8, 2], .null, []), (14, .iload 3, [], .null, []), (15, .ior, [], .null, []), (16, .goto 11, [27], .null, [])] := rfl
theorem b44_19 : am_b44 19 = [(19, .aload 0, [], .null, []), (20, .getfield 53, [8, 2], .null, []), (23, .iload 3, [], .null, []), (24, .aconst_null, [], .int (-1), []), (25, .ixor, [], .null, []), (26, .iand, [], .null, []), (27, .nop, [27], .null, [])] := rfl
theorem b44_27 : am_b44 27 = [(27, .putfield 53, [8, 2, 0], .null, []), (30, .return_, [], .null, [])] := rfl
theorem pr_44 : am_pr 44 = (am_b44, 4, 0, 0) := rfl
theorem b45_0 : am_b45 0 = [(0, .aload 0, [], .null, []), (1, .getfield 53, [8, 2], .null, []), (4, .iload 1, [], .null, []), (5, .ishr, [], .null, []), (6, .aconst_null, [], .int 1, []), (7, .iand, [], .null, []), (8, .aconst_null, [], .int 1, []), (9, .if_icmp .ne 7, [16], .null, []), (12, .aconst_null, [], .int 1, []), (13, .goto 4, [17], .null, [])] := rfl
theorem b45_16 : am_b45 16 = [(16, .aconst_null, [], .int 0, []), (17, .nop, [17], .null, [])] := rfl
theorem b45_17 : am_b45 17 = [(17, .ireturn, [1], .null, [])] := rfl
theorem pr_45 : am_pr 45 = (am_b45, 2, 0, 0) := rfl
theorem b46_0 : am_b46 0 = [(0, .aconst_null, [], .int 0, []), (1, .istore 3, [], .null, []), (2, .nop, [2], .null, [])] := rfl
theorem b46_2 : am_b46 2 = [(2, .iload 3, [], .null, []), (3, .aload 0, [], .null, []), (4, .getfield 56, [8, 3], .null, []), (7, .if_icmp .ge 26, [33], .null, []), (10, .aload 0, [], .null, []), (11, .getfield 46, [8, 12], .null, []), (14, .iload 3, [], .null, []), (15, .iaload, [], .null, []), (16, .iload 1, [], .null, []), (17, .if_icmp .ne 10, [27], .null, []), (20, .aload 0, [], .null, []), (21, .getfield 46, [8, 12], .null, []), (24, .iload 3, [], .null, []), (25, .aconst_null, [], .int (-1), []), (26, .iastore, [], .null, []), (27, .nop, [27], .null, [])] := rfl
theorem b46_27 : am_b46 27 = [(27, .iinc 3 1, [], .int 1, []), (30, .goto (-28), [2], .null, [])] := rfl
theorem b46_33 : am_b46 33 = [(33, .aload 0, [], .null, []), (34, .getfield 19, [8, 5], .null, []), (37, .iload 1, [], .null, []), (38, .iload 2, [], .null, []), (39, .iastore, [], .null, []), (40, .return_, [], .null, [])] := rfl
theorem pr_46 : am_pr 46 = (am_b46, 4, 0, 0) := rfl
theorem b47_0 : am_b47 0 = [(0, .aload 0, [], .null, []), (1, .getfield 9, [8, 0], .null, []), (4, .aload 0, [], .null, []), (5, .getfield 28, [8, 6], .null, []), (8, .iload 1, [], .null, []), (9, .iaload, [], .null, []), (10, .aaload, [], .null, []), (11, .areturn, [], .null, [])] := rfl
theorem pr_47 : am_pr 47 = (am_b47, 2, 0, 0) := rfl
theorem b48_0 : am_b48 0 = [(0, .aload 0, [], .null, []), (1, .iload 1, [], .null, []), (2, .invokevirtual 65, [2, 8, 47], .null, []), (5, .aload 0, [], .null, []), (6, .getfield 49, [8, 1], .null, []), (9, .aload 0, [], .null, []), (10, .getfield 46, [8, 12], .null, []), (13, .iload 1, [], .null, []), (14, .iaload, [], .null, []), (15, .aconst_null, [], .int (-1), []), (16, .if_icmp .eq 7, [23], .null, []), (19, .aconst_null, [], .int 1, []), (20, .goto 4, [24], .null, [])] := rfl
theorem b48_23 : am_b48 23 = [(23, .aconst_null, [], .int 0, []), (24, .nop, [24], .null, [])] := rfl
theorem b48_24 : am_b48 24 = [(24, .invokevirtual 69, [3, 5, 23, 0, 2, 1, 23, 3, 14, 4, 18, 6, 30], .null, []), (27, .ireturn, [0], .null, [])] := rfl
theorem pr_48 : am_pr 48 = (am_b48, 2, 0, 0) := rfl
theorem b49_0 : am_b49 0 = [(0, .aconst_null, [], .int 0, []), (1, .istore 2, [], .null, []), (2, .aconst_null, [], .int 0, []), (3, .istore 3, [], .null, []), (4, .nop, [4], .null, [])] := rfl
theorem b49_4 : am_b49 4 = [(4, .iload 3, [], .null, []), (5, .aload 0, [], .null, []), (6, .getfield 56, [8, 3], .null, []), (9, .if_icmp .ge 25, [34], .null, []), (12, .aload 0, [], .null, []), (13, .getfield 31, [8, 7], .null, []), (16, .iload 3, [], .null, []), (17, .iaload, [], .null, []), (18, .iload 1, [], .null, []), (19, .if_icmp .ne 9, [28], .null, []), (22, .iload 2, [], .null, []), (23, .aconst_null, [], .int 1, []), (24, .iload 3, [], .null, []), (25, .ishl, [], .null, []), (26, .ior, [], .null, []), (27, .istore 2, [], .null, []), (28, .nop, [28], .null, [])] := rfl
theorem b49_28 : am_b49 28 = [(28, .iinc 3 1, [], .int 1, []), (31, .goto (-27), [4], .null, [])] := rfl
theorem b49_34 : am_b49 34 = [(34, .iload 2, [], .null, []), (35, .ireturn, [0], .null, [])] := rfl
theorem pr_49 : am_pr 49 = (am_b49, 4, 0, 0) := rfl
theorem b50_0 : am_b50 0 = [(0, .aconst_null, [], .int 0, []), (1, .istore 2, [], .null, []), (2, .aconst_null, [], .int 0, []), (3, .istore 3, [], .null, []), (4, .nop, [4], .null, [])] := rfl
theorem b50_4 : am_b50 4 = [(4, .iload 3, [], .null, []), (5, .aconst_null, [], .int 6, []), (7, .if_icmp .ge 25, [32], .null, []), (10, .aload 0, [], .null, []), (11, .getfield 19, [8, 5], .null, []), (14, .iload 3, [], .null, []), (15, .iaload, [], .null, []), (16, .iload 1, [], .null, []), (17, .if_icmp .ne 9, [26], .null, []), (20, .iload 2, [], .null, []), (21, .aconst_null, [], .int 1, []), (22, .iload 3, [], .null, []), (23, .ishl, [], .null, []), (24, .ior, [], .null, []), (25, .istore 2, [], .null, []), (26, .nop, [26], .null, [])] := rfl
theorem b50_26 : am_b50 26 = [(26, .iinc 3 1, [], .int 1, []), (29, .goto (-25), [4], .null, [])] := rfl
theorem b50_32 : am_b50 32 = [(32, .iload 2, [], .null, []), (33, .ireturn, [0], .null, [])] := rfl
theorem pr_50 : am_pr 50 = (am_b50, 4, 0, 0) := rfl
theorem b51_0 : am_b51 0 = [(0, .aconst_null, [], .int 0, []), (1, .istore 1, [], .null, []), (2, .aconst_null, [], .int 0, []), (3, .istore 2, [], .null, []), (4, .nop, [4], .null, [])] := rfl
theorem b51_4 : am_b51 4 = [(4, .iload 2, [], .null, []), (5, .aconst_null, [], .int 30, []), (7, .if_icmp .ge 18, [25], .null, []), (10, .iload 1, [], .null, []), (11, .aload 0, [], .null, []), (12, .getfield 15, [8, 4], .null, []), (15, .iload 2, [], .null, []), (16, .iaload, [], .null, []), (17, .iadd, [], .null, []), (18, .istore 1, [], .null, []), (19, .iinc 2 1, [], .int 1, []), (22, .goto (-18), [4], .null, [])] := rfl
theorem b51_25 : am_b51 25 = [(25, .iload 1, [], .null, []), (26, .ireturn, [0], .null, [])] := rfl
theorem pr_51 : am_pr 51 = (am_b51, 3, 0, 0) := rfl
theorem b52_0 : am_b52 0 = [(0, .aconst_null, [], .int 0, []), (1, .istore 1, [], .null, []), (2, .aconst_null, [], .int 0, []), (3, .istore 2, [], .null, []), (4, .nop, [4], .null, [])] := rfl
theorem b52_4 : am_b52 4 = [(4, .iload 2, [], .null, []), (5, .aload 0, [], .null, []), (6, .getfield 56, [8, 3], .null, []), (9, .if_icmp .ge 18, [27], .null, []), (12, .iload 1, [], .null, []), (13, .aload 0, [], .null, []), (14, .getfield 43, [8, 11], .null, []), (17, .iload 2, [], .null, []), (18, .iaload, [], .null, []), (19, .iadd, [], .null, []), (20, .istore 1, [], .null, []), (21, .iinc 2 1, [], .int 1, []), (24, .goto (-20), [4], .null, [])] := rfl
theorem b52_27 : am_b52 27 = [(27, .iload 1, [], .null, []), (28, .ireturn, [0], .null, [])] := rfl
theorem pr_52 : am_pr 52 = (am_b52, 3, 0, 0) := rfl
theorem b53_0 : am_b53 0 = [(0, .aconst_null, [], .int 0, []), (1, .istore 3, [], .null, []), (2, .nop, [2], .null, [])] := rfl
theorem b53_2 : am_b53 2 = [(2, .iload 3, [], .null, []), (3, .iload 2, [], .null, []), (4, .if_icmp .gt 27, [31], .null, []), (7, .aload 0, [], .null, []), (8, .getfield 19, [8, 5], .null, []), (11, .iload 1, [], .null, []), (12, .iaload, [], .null, []), (13, .aconst_null, [], .int (-3), []), (15, .if_icmp .ne 5, [20], .null, []), (18, .iload 3, [], .null, []), (19, .ireturn, [0], .null, [])] := rfl
theorem b53_20 : am_b53 20 = [(20, .aload 0, [], .null, []), (21, .aconst_null, [], .int (-1), []), (22, .invokevirtual 75, [2, 8, 57], .null, []), (25, .iinc 3 1, [], .int 1, []), (28, .goto (-26), [2], .null, [])] := rfl
theorem b53_31 : am_b53 31 = [(31, .iload 2, [], .null, []), (32, .aconst_null, [], .int 1, []), (33, .iadd, [], .null, []), (34, .ireturn, [0], .null, [])] := rfl
theorem pr_53 : am_pr 53 = (am_b53, 4, 0, 0) := rfl
theorem b54_0 : am_b54 0 = [(0, .aconst_null, [], .int 0, []), (1, .istore 3, [], .null, []), (2, .nop, [2], .null, [])] := rfl
theorem b54_2 : am_b54 2 = [(2, .iload 3, [], .null, []), (3, .iload 2, [], .null, []), (4, .if_icmp .gt 24, [28], .null, []), (7, .aload 0, [], .null, []), (8, .iload 1, [], .null, []), (9, .invokevirtual 79, [2, 8, 45], .null, []), (12, .ifCond .eq 5, [17], .null, []), (15, .iload 3, [], .null, []), (16, .ireturn, [0], .null, [])] := rfl
theorem b54_17 : am_b54 17 = [(17, .aload 0, [], .null, []), (18, .aconst_null, [], .int (-1), []), (19, .invokevirtual 75, [2, 8, 57], .null, []), (22, .iinc 3 1, [], .int 1, []), (25, .goto (-23), [2], .null, [])] := rfl
theorem b54_28 : am_b54 28 = [(28, .iload 2, [], .null, []), (29, .aconst_null, [], .int 1, []), (30, .iadd, [], .null, []), (31, .ireturn, [0], .null, [])] := rfl
theorem pr_54 : am_pr 54 = (am_b54, 4, 0, 0) := rfl
theorem b55_0 : am_b55 0 = [(0, .aconst_null, [], .int 0, []), (1, .istore 4, [], .null, []), (3, .nop, [3], .null, [])] := rfl
theorem b55_3 : am_b55 3 = [(3, .iload 4, [], .null, []), (5, .iload 3, [], .null, []), (6, .if_icmp .gt 27, [33], .null, []), (9, .aload 0, [], .null, []), (10, .getfield 31, [8, 7], .null, []), (13, .iload 1, [], .null, []), (14, .iaload, [], .null, []), (15, .iload 2, [], .null, []), (16, .if_icmp .ne 6, [22], .null, []), (19, .iload 4, [], .null, []), (21, .ireturn, [0], .null, [])] := rfl
theorem b55_22 : am_b55 22 = [(22, .aload 0, [], .null, []), (23, .aconst_null, [], .int (-1), []), (24, .invokevirtual 75, [2, 8, 57], .null, []), (27, .iinc 4 1, [], .int 1, []), (30, .goto (-27), [3], .null, [])] := rfl
theorem b55_33 : am_b55 33 = [(33, .iload 3, [], .null, []), (34, .aconst_null, [], .int 1, []), (35, .iadd, [], .null, []), (36, .ireturn, [0], .null, [])] := rfl
theorem pr_55 : am_pr 55 = (am_b55, 5, 0, 0) := rfl
theorem b56_0 : am_b56 0 = [(0, .aconst_null, [], .int 0, []), (1, .istore 3, [], .null, []), (2, .nop, [2], .null, [])] := rfl
theorem b56_2 : am_b56 2 = [(2, .iload 3, [], .null, []), (3, .iload 1, [], .null, []), (4, .if_icmp .ge 14, [18], .null, []), (7, .aload 0, [], .null, []), (8, .iload 2, [], .null, []), (9, .invokevirtual 75, [2, 8, 57], .null, []), (12, .iinc 3 1, [], .int 1, []), (15, .goto (-13), [2], .null, [])] := rfl
theorem b56_18 : am_b56 18 = [(18, .return_, [], .null, [])] := rfl
theorem pr_56 : am_pr 56 = (am_b56, 4, 0, 0) := rfl
theorem b57_0 : am_b57 0 = [(0, .aconst_null, [], .int 0, []), (1, .istore 2, [], .null, []), (2, .nop, [2], .null, [])] := rfl
theorem b57_2 : am_b57 2 = [(2, .iload 2, [], .null, []), (3, .aload 0, [], .null, []), (4, .getfield 56, [8, 3], .null, []), (7, .if_icmp .ge 53, [60], .null, []), (10, .iload 2, [], .null, []), (11, .iload 1, [], .null, []), (12, .if_icmp .ne 6, [18], .null, []), (15, .goto 39, [54], .null, [])] := rfl
theorem b57_18 : am_b57 18 = [(18, .aload 0, [], .null, []), (19, .iload 2, [], .null, []), (20, .invokevirtual 83, [2, 8, 48], .null, []), (23, .istore 3, [], .null, []), (24, .aload 0, [], .null, []), (25, .iload 2, [], .null, []), (26, .invokevirtual 87, [2, 8, 58], .null, []), (29, .aconst_null, [], .int 0, []), (30, .istore 4, [], .null, []), (32, .nop, [32], .null, [])] := rfl
theorem b57_32 : am_b57 32 = [(32, .iload 4, [], .null, []), (34, .iload 3, [], .null, []), (35, .if_icmp .ge 19, [54], .null, []), (38, .aload 0, [], .null, []), (39, .iload 2, [], .null, []), (40, .invokevirtual 90, [2, 8, 64], .null, []), (43, .aload 0, [], .null, []), (44, .iload 2, [], .null, []), (45, .invokevirtual 87, [2, 8, 58], .null, []), (48, .iinc 4 1, [], .int 1, []), (51, .goto (-19), [32], .null, [])] := rfl
theorem b57_54 : am_b57 54 = [(54, .iinc 2 1, [], .int 1, []), (57, .goto (-55), [2], .null, [])] := rfl
theorem b57_60 : am_b57 60 = [(60, .aload 0, [], .null, []), (61, .dup, [], .null, []), (62, .getfield 49, [8, 1], .null, []), (65, .aconst_null, [], .int 1, []), (66, .iadd, [], .null, []), (67, .putfield 49, [8, 1, 0], .null, []), (70, .return_, [], .null, [])] := rfl
theorem pr_57 : am_pr 57 = (am_b57, 5, 0, 0) := rfl
theorem b58_0 : am_b58 0 = [(0, .aload 0, [], .null, []), (1, .getfield 31, [8, 7], .null, []), (4, .iload 1, [], .null, []), (5, .iaload, [], .null, []), (6, .aload 0, [], .null, []), (7, .getfield 37, [8, 9], .null, []), (10, .iload 1, [], .null, []), (11, .iaload, [], .null, []), (12, .if_icmp .ne 11, [23], .null, []), (15, .aload 0, [], .null, []), (16, .iload 1, [], .null, []), (17, .invokevirtual 93, [2, 8, 59], .null, []), (20, .goto 18, [38], .null, [])] := rfl
theorem b58_23 : am_b58 23 = [(23, .aload 0, [], .null, []), (24, .getfield 46, [8, 12], .null, []), (27, .iload 1, [], .null, []), (28, .iaload, [], .null, []), (29, .aconst_null, [], .int (-1), []), (30, .if_icmp .ne 8, [38], .null, []), (33, .aload 0, [], .null, []), (34, .iload 1, [], .null, []), (35, .invokevirtual 96, [2, 8, 60], .null, []), (38, .nop, [38], .null, [])] := rfl
theorem b58_38 : am_b58 38 = [(38, .aload 0, [], .null, []), (39, .getfield 31, [8, 7], .null, []), (42, .iload 1, [], .null, []), (43, .iaload, [], .null, []), (44, .aload 0, [], .null, []), (45, .iload 1, [], .null, []), (46, .invokevirtual 99, [2, 8, 63], .null, []), (49, .if_icmp .ne 8, [57], .null, []), (52, .aload 0, [], .null, []), (53, .iload 1, [], .null, []), (54, .invokevirtual 102, [2, 8, 61], .null, []), (57, .nop, [57], .null, [])] := rfl
theorem b58_57 : am_b58 57 = [(57, .return_, [], .null, [])] := rfl
theorem pr_58 : am_pr 58 = (am_b58, 2, 0, 0) := rfl
theorem b59_0 : am_b59 0 = [(0, .aload 0, [], .null, []), (1, .getfield 46, [8, 12], .null, []), (4, .iload 1, [], .null, []), (5, .iaload, [], .null, []), (6, .aconst_null, [], .int (-1), []), (7, .if_icmp .ne 4, [11], .null, []), (10, .return_, [], .null, [])] := rfl
theorem b59_11 : am_b59 11 = [(11, .aload 0, [], .null, []), (12, .getfield 19, [8, 5], .null, []), (15, .aload 0, [], .null, []), (16, .getfield 46, [8, 12], .null, []), (19, .iload 1, [], .null, []), (20, .iaload, [], .null, []), (21, .aconst_null, [], .int (-3), []), (23, .iastore, [], .null, []), (24, .aload 0, [], .null, []), (25, .getfield 46, [8, 12], .null, []), (28, .iload 1, [], .null, []), (29, .aconst_null, [], .int (-1), []), (30, .iastore, [], .null, []), (31, .aload 0, [], .null, []), (32, .getfield 31, [8, 7], .null, []), (35, .iload 1, [], .null, []), (36, .iaload, [], .null, []), (37, .istore 2, [], .null, []), (38, .aload 0, [], .null, []), (39, .getfield 15, [8, 4], .null, []), (42, .iload 2, [], .null, []), (43, .aload 0, [], .null, []), (44, .getfield 15, [8, 4], .null, []), (47, .iload 2, [], .null, []), (48, .iaload, [], .null, []), (49, .aconst_null, [], .int 1, []), (50, .iadd, [], .null, []), (51, .aconst_null, [], .int 99, []), (53, .multianewarray 105 0, [], .null, []), (56, .iastore, [], .null, []), (57, .aload 0, [], .null, []), (58, .iload 1, [], .null, []), (59, .aload 0, [], .null, []), (60, .iload 1, [], .null, []), (61, .invokevirtual 65, [2, 8, 47], .null, []), (64, .invokevirtual 111, [1, 5, 27, 0, 3, 1, 27, 3, 15, 4, 20, 6, 34], .null, []), (67, .invokevirtual 115, [3, 8, 62], .null, []), (70, .return_, [], .null, [])] := rfl
theorem pr_59 : am_pr 59 = (am_b59, 3, 0, 0) := rfl
theorem b60_0 : am_b60 0 = [(0, .aconst_null, [], .int 0, []), (1, .istore 2, [], .null, []), (2, .nop, [2], .null, [])] := rfl
theorem b60_2 : am_b60 2 = [(2, .iload 2, [], .null, []), (3, .aconst_null, [], .int 6, []), (5, .if_icmp .ge 40, [45], .null, []), (8, .aload 0, [], .null, []), (9, .getfield 19, [8, 5], .null, []), (12, .iload 2, [], .null, []), (13, .iaload, [], .null, []), (14, .aload 0, [], .null, []), (15, .getfield 31, [8, 7], .null, []), (18, .iload 1, [], .null, []), (19, .iaload, [], .null, []), (20, .if_icmp .ne 19, [39], .null, []), (23, .aload 0, [], .null, []), (24, .getfield 19, [8, 5], .null, []), (27, .iload 2, [], .null, []), (28, .aconst_null, [], .int (-2), []), (30, .iastore, [], .null, []), (31, .aload 0, [], .null, []), (32, .getfield 46, [8, 12], .null, []), (35, .iload 1, [], .null, []), (36, .iload 2, [], .null, []), (37, .iastore, [], .null, []), (38, .return_, [], .null, [])] := rfl
theorem b60_39 : am_b60 39 = [(39, .iinc 2 1, [], .int 1, []), (42, .goto (-40), [2], .null, [])] := rfl
theorem b60_45 : am_b60 45 = [(45, .return_, [], .null, [])] := rfl
theorem pr_60 : am_pr 60 = (am_b60, 3, 0, 0) := rfl
theorem b61_0 : am_b61 0 = [(0, .aload 0, [], .null, []), (1, .getfield 40, [8, 10], .null, []), (4, .iload 1, [], .null, []), (5, .aload 0, [], .null, []), (6, .getfield 40, [8, 10], .null, []), (9, .iload 1, [], .null, []), (10, .iaload, [], .null, []), (11, .aconst_null, [], .int 1, []), (12, .if_icmp .ne 7, [19], .null, []), (15, .aconst_null, [], .int 0, []), (16, .goto 4, [20], .null, [])] := rfl
theorem b61_19 : am_b61 19 = [(19, .aconst_null, [], .int 1, []), (20, .nop, [20], .null, [])] := rfl
theorem b61_20 : am_b61 20 = [(20, .iastore, [], .null, []), (21, .return_, [], .null, [])] := rfl
theorem pr_61 : am_pr 61 = (am_b61, 2, 0, 0) := rfl
theorem b62_0 : am_b62 0 = [(0, .aload 0, [], .null, []), (1, .getfield 43, [8, 11], .null, []), (4, .iload 1, [], .null, []), (5, .aload 0, [], .null, []), (6, .getfield 43, [8, 11], .null, []), (9, .iload 1, [], .null, []), (10, .iaload, [], .null, []), (11, .iload 2, [], .null, []), (12, .iadd, [], .null, []), (13, .aconst_null, [], .int 9999, []), (16, .multianewarray 105 0, [], .null, []), (19, .iastore, [], .null, []), (20, .return_, [], .null, [])] := rfl
theorem pr_62 : am_pr 62 = (am_b62, 3, 0, 0) := rfl
theorem b63_0 : am_b63 0 = [(0, .aload 0, [], .null, []), (1, .getfield 40, [8, 10], .null, []), (4, .iload 1, [], .null, []), (5, .iaload, [], .null, []), (6, .aconst_null, [], .int 1, []), (7, .if_icmp .ne 12, [19], .null, []), (10, .aload 0, [], .null, []), (11, .getfield 37, [8, 9], .null, []), (14, .iload 1, [], .null, []), (15, .iaload, [], .null, []), (16, .goto 9, [25], .null, [])] := rfl
theorem b63_19 : am_b63 19 = [(19, .aload 0, [], .null, []), (20, .getfield 34, [8, 8], .null, []), (23, .iload 1, [], .null, []), (24, .iaload, [], .null, []), (25, .nop, [25], .null, [])] := rfl
theorem b63_25 : am_b63 25 = [(25, .ireturn, [0], .null, [])] := rfl
theorem pr_63 : am_pr 63 = (am_b63, 2, 0, 0) := rfl
theorem b64_0 : am_b64 0 = [(0, .aload 0, [], .null, []), (1, .getfield 31, [8, 7], .null, []), (4, .iload 1, [], .null, []), (5, .iaload, [], .null, []), (6, .aload 0, [], .null, []), (7, .iload 1, [], .null, []), (8, .invokevirtual 99, [2, 8, 63], .null, []), (11, .if_icmp .ne 4, [15], .null, []), (14, .return_, [], .null, [])] := rfl
theorem b64_15 : am_b64 15 = [(15, .aload 0, [], .null, []), (16, .iload 1, [], .null, []), (17, .invokevirtual 119, [2, 8, 65], .null, []), (20, .istore 2, [], .null, []), (21, .aload 0, [], .null, []), (22, .iload 2, [], .null, []), (23, .invokevirtual 79, [2, 8, 45], .null, []), (26, .ifCond .eq 11, [37], .null, []), (29, .aload 0, [], .null, []), (30, .getfield 31, [8, 7], .null, []), (33, .iload 1, [], .null, []), (34, .iload 2, [], .null, []), (35, .iastore, [], .null, []), (36, .return_, [], .null, [])] := rfl
theorem b64_37 : am_b64 37 = [(37, .aload 0, [], .null, []), (38, .iload 1, [], .null, []), (39, .invokevirtual 65, [2, 8, 47], .null, []), (42, .invokevirtual 122, [1, 5, 24, 0, 24, 1, 6, 3, 24, 4, 6, 6, 31], .null, []), (45, .istore 3, [], .null, []), (46, .iload 3, [], .null, []), (47, .ifCond .ge 9, [56], .null, []), (50, .aload 0, [], .null, []), (51, .iload 1, [], .null, []), (52, .invokevirtual 102, [2, 8, 61], .null, []), (55, .return_, [], .null, [])] := rfl
theorem b64_56 : am_b64 56 = [(56, .aload 0, [], .null, []), (57, .iload 2, [], .null, []), (58, .aconst_null, [], .int 1, []), (59, .invokevirtual 125, [3, 8, 44], .null, []), (62, .aload 0, [], .null, []), (63, .iload 1, [], .null, []), (64, .aload 0, [], .null, []), (65, .iload 1, [], .null, []), (66, .invokevirtual 65, [2, 8, 47], .null, []), (69, .invokevirtual 128, [1, 5, 26, 0, 26, 1, 8, 3, 26, 4, 8, 6, 33], .null, []), (72, .invokevirtual 115, [3, 8, 62], .null, []), (75, .iload 3, [], .null, []), (76, .ifCond .le 10, [86], .null, []), (79, .aload 0, [], .null, []), (80, .getfield 31, [8, 7], .null, []), (83, .iload 1, [], .null, []), (84, .iload 2, [], .null, []), (85, .iastore, [], .null, []), (86, .nop, [86], .null, [])] := rfl
theorem b64_86 : am_b64 86 = [(86, .return_, [], .null, [])] := rfl
theorem pr_64 : am_pr 64 = (am_b64, 4, 0, 0) := rfl
theorem b65_0 : am_b65 0 = [(0, .aload 0, [], .null, []), (1, .getfield 31, [8, 7], .null, []), (4, .iload 1, [], .null, []), (5, .iaload, [], .null, []), (6, .istore 2, [], .null, []), (7, .aload 0, [], .null, []), (8, .iload 1, [], .null, []), (9, .invokevirtual 99, [2, 8, 63], .null, []), (12, .istore 3, [], .null, []), (13, .iload 2, [], .null, []), (14, .aconst_null, [], .int 6, []), (16, .idiv, [], .null, []), (17, .istore 4, [], .null, []), (19, .iload 3, [], .null, []), (20, .aconst_null, [], .int 6, []), (22, .idiv, [], .null, []), (23, .istore 5, [], .null, []), (25, .iload 2, [], .null, []), (26, .aconst_null, [], .int 6, []), (28, .irem, [], .null, []), (29, .istore 6, [], .null, []), (31, .iload 3, [], .null, []), (32, .aconst_null, [], .int 6, []), (34, .irem, [], .null, []), (35, .istore 7, [], .null, []), (37, .iload 4, [], .null, []), (39, .iload 5, [], .null, []), (41, .if_icmp .eq 27, [68], .null, []), (44, .iload 6, [], .null, []), (46, .iload 7, [], .null, []), (48, .if_icmp .eq 16, [64], .null, []), (51, .aload 0, [], .null, []), (52, .iload 1, [], .null, []), (53, .invokevirtual 65, [2, 8, 47], .null, []), (56, .iload 4, [], .null, []), (58, .invokevirtual 131, [2, 5, 25, 0, 25, 1, 7, 3, 25, 4, 19, 6, 32], .null, []), (61, .ifCond .eq 7, [68], .null, []), (64, .nop, [64], .null, [])] := rfl
theorem b65_64 : am_b65 64 = [(64, .aconst_null, [], .int 1, []), (65, .goto 4, [69], .null, [])] := rfl
theorem b65_68 : am_b65 68 = [(68, .aconst_null, [], .int 0, []), (69, .nop, [69], .null, [])] := rfl
theorem b65_69 : am_b65 69 = [(69, .istore 8, [], .null, []), (71, .iload 8, [], .null, []), (73, .ifCond .eq 22, [95], .null, []), (76, .iload 4, [], .null, []), (78, .iload 5, [], .null, []), (80, .if_icmp .ge 10, [90], .null, []), (83, .iload 2, [], .null, []), (84, .aconst_null, [], .int 6, []), (86, .iadd, [], .null, []), (87, .goto 7, [94], .null, [])] := rfl
theorem b65_90 : am_b65 90 = [(90, .iload 2, [], .null, []), (91, .aconst_null, [], .int 6, []), (93, .isub, [], .null, []), (94, .nop, [94], .null, [])] := rfl
theorem b65_94 : am_b65 94 = [(94, .ireturn, [0], .null, [])] := rfl
theorem b65_95 : am_b65 95 = [(95, .iload 6, [], .null, []), (97, .iload 7, [], .null, []), (99, .if_icmp .ge 9, [108], .null, []), (102, .iload 2, [], .null, []), (103, .aconst_null, [], .int 1, []), (104, .iadd, [], .null, []), (105, .goto 6, [111], .null, [])] := rfl
theorem b65_108 : am_b65 108 = [(108, .iload 2, [], .null, []), (109, .aconst_null, [], .int 1, []), (110, .isub, [], .null, []), (111, .nop, [111], .null, [])] := rfl
theorem b65_111 : am_b65 111 = [(111, .ireturn, [0], .null, [])] := rfl
theorem pr_65 : am_pr 65 = (am_b65, 9, 0, 0) := rfl
theorem b66_0 : am_b66 0 = [(0, .aload 0, [], .null, []), (1, .monitorexit, [3], .null, []), (4, .aload 0, [], .null, []), (5, .aconst_null, [], .int 120, []), (7, .newarray .int, [], .null, []), (9, .putfield 9, [9, 0, 2], .null, []), (12, .return_, [], .null, [])] := rfl
theorem pr_66 : am_pr 66 = (am_b66, 1, 1, 120) := rfl
theorem b67_0 : am_b67 0 = [(0, .iload 2, [], .null, []), (1, .aconst_null, [], .int 1, []), (2, .isub, [], .null, []), (3, .istore 3, [], .null, []), (4, .nop, [4], .null, [])] := rfl
theorem b67_4 : am_b67 4 = [(4, .iload 3, [], .null, []), (5, .ifCond .lt 38, [43], .null, []), (8, .aload 0, [], .null, []), (9, .getfield 9, [9, 0], .null, []), (12, .aload 0, [], .null, []), (13, .getfield 15, [9, 1], .null, []), (16, .iload 1, [], .null, []), (17, .aconst_null, [], .int 8, []), (19, .iload 3, [], .null, []), (20, .imul, [], .null, []), (21, .ishr, [], .null, []), (22, .aconst_null, [], .int 255, []), (25, .iand, [], .null, []), (26, .iastore, [], .null, []), (27, .aload 0, [], .null, []), (28, .dup, [], .null, []), (29, .getfield 15, [9, 1], .null, []), (32, .aconst_null, [], .int 1, []), (33, .iadd, [], .null, []), (34, .putfield 15, [9, 1, 0], .null, []), (37, .iinc 3 (-1), [], .int (-1), []), (40, .goto (-36), [4], .null, [])] := rfl
theorem b67_43 : am_b67 43 = [(43, .return_, [], .null, [])] := rfl
theorem pr_67 : am_pr 67 = (am_b67, 4, 0, 0) := rfl
theorem b68_0 : am_b68 0 = [(0, .aload 0, [], .null, []), (1, .aconst_null, [], .int 0, []), (2, .putfield 19, [9, 4, 0], .null, []), (5, .aconst_null, [], .int 1, []), (6, .istore 2, [], .null, []), (7, .nop, [7], .null, [])] := rfl
theorem b68_7 : am_b68 7 = [(7, .iload 2, [], .null, []), (8, .aconst_null, [], .int 120, []), (10, .if_icmp .gt 52, [62], .null, []), (13, .aload 0, [], .null, []), (14, .aload 1, [], .null, []), (15, .invokevirtual 22, [2, 9, 69], .null, []), (18, .ifCond .ne 10, [28], .null, []), (21, .aconst_null, [], .int (-1), []), (22, .aload 0, [], .null, []), (23, .getfield 26, [9, 3], .null, []), (26, .isub, [], .null, []), (27, .ireturn, [0], .null, [])] := rfl
theorem b68_28 : am_b68 28 = [(28, .aload 0, [], .null, []), (29, .invokevirtual 29, [1, 9, 75], .null, []), (32, .aload 0, [], .null, []), (33, .getfield 32, [9, 2], .null, []), (36, .ifCond .ne 5, [41], .null, []), (39, .iload 2, [], .null, []), (40, .ireturn, [0], .null, [])] := rfl
theorem b68_41 : am_b68 41 = [(41, .aload 0, [], .null, []), (42, .getfield 32, [9, 2], .null, []), (45, .aconst_null, [], .int 3, []), (46, .if_icmp .eq 10, [56], .null, []), (49, .aconst_null, [], .int (-1), []), (50, .aload 0, [], .null, []), (51, .getfield 26, [9, 3], .null, []), (54, .isub, [], .null, []), (55, .ireturn, [0], .null, [])] := rfl
theorem b68_56 : am_b68 56 = [(56, .iinc 2 1, [], .int 1, []), (59, .goto (-52), [7], .null, [])] := rfl
theorem b68_62 : am_b68 62 = [(62, .aconst_null, [], .int (-1), []), (63, .aload 0, [], .null, []), (64, .getfield 26, [9, 3], .null, []), (67, .isub, [], .null, []), (68, .ireturn, [0], .null, [])] := rfl
theorem pr_68 : am_pr 68 = (am_b68, 3, 0, 0) := rfl
theorem b69_0 : am_b69 0 = [(0, .aload 0, [], .null, []), (1, .invokevirtual 29, [1, 9, 75], .null, []), (4, .aload 0, [], .null, []), (5, .getfield 32, [9, 2], .null, []), (8, .aconst_null, [], .int 1, []), (9, .if_icmp .eq 5, [14], .null, []), (12, .aconst_null, [], .int 0, []), (13, .ireturn, [1], .null, [])] := rfl
theorem b69_14 : am_b69 14 = [(14, .aload 0, [], .null, []), (15, .aconst_null, [], .ref 1006, []), (17, .invokevirtual 37, [2, 9, 74], .null, []), (20, .ifCond .eq 9, [29], .null, []), (23, .aload 0, [], .null, []), (24, .aload 1, [], .null, []), (25, .invokevirtual 41, [2, 9, 70], .null, []), (28, .ireturn, [1], .null, [])] := rfl
theorem b69_29 : am_b69 29 = [(29, .aload 0, [], .null, []), (30, .aconst_null, [], .ref 1007, []), (32, .invokevirtual 37, [2, 9, 74], .null, []), (35, .ifCond .eq 9, [44], .null, []), (38, .aload 0, [], .null, []), (39, .aload 1, [], .null, []), (40, .invokevirtual 46, [2, 9, 71], .null, []), (43, .ireturn, [1], .null, [])] := rfl
theorem b69_44 : am_b69 44 = [(44, .aconst_null, [], .int 0, []), (45, .istore 2, [], .null, []), (46, .nop, [46], .null, [])] := rfl
theorem b69_46 : am_b69 46 = [(46, .iload 2, [], .null, []), (47, .aconst_null, [], .int 6, []), (49, .if_icmp .ge 32, [81], .null, []), (52, .aload 0, [], .null, []), (53, .aload 1, [], .null, []), (54, .getfield 49, [8, 0], .null, []), (57, .iload 2, [], .null, []), (58, .aaload, [], .null, []), (59, .invokevirtual 55, [1, 5, 22, 0, 1, 1, 5, 3, 13, 4, 17, 6, 29], .null, []), (62, .invokevirtual 37, [2, 9, 74], .null, []), (65, .ifCond .eq 10, [75], .null, []), (68, .aload 0, [], .null, []), (69, .aload 1, [], .null, []), (70, .iload 2, [], .null, []), (71, .invokevirtual 61, [3, 9, 72], .null, []), (74, .ireturn, [1], .null, [])] := rfl
theorem b69_75 : am_b69 75 = [(75, .iinc 2 1, [], .int 1, []), (78, .goto (-32), [46], .null, [])] := rfl
theorem b69_81 : am_b69 81 = [(81, .aconst_null, [], .int 0, []), (82, .ireturn, [1], .null, [])] := rfl
theorem pr_69 : am_pr 69 = (am_b69, 3, 0, 0) := rfl
theorem b70_0 : am_b70 0 = [(0, .aload 0, [], .null, []), (1, .aconst_null, [], .int 29, []), (3, .invokevirtual 65, [2, 9, 73], .null, []), (6, .ifCond .ne 5, [11], .null, []), (9, .aconst_null, [], .int 0, []), (10, .ireturn, [1], .null, [])] := rfl
theorem b70_11 : am_b70 11 = [(11, .aload 1, [], .null, []), (12, .aload 0, [], .null, []), (13, .getfield 69, [9, 5], .null, []), (16, .aconst_null, [], .int 1, []), (17, .invokevirtual 72, [3, 8, 44], .null, []), (20, .aconst_null, [], .int 1, []), (21, .ireturn, [1], .null, [])] := rfl
theorem pr_70 : am_pr 70 = (am_b70, 2, 0, 0) := rfl
theorem b71_0 : am_b71 0 = [(0, .aload 0, [], .null, []), (1, .aconst_null, [], .int 5, []), (2, .invokevirtual 65, [2, 9, 73], .null, []), (5, .ifCond .ne 5, [10], .null, []), (8, .aconst_null, [], .int 0, []), (9, .ireturn, [1], .null, [])] := rfl
theorem b71_10 : am_b71 10 = [(10, .aload 0, [], .null, []), (11, .getfield 69, [9, 5], .null, []), (14, .istore 2, [], .null, []), (15, .aload 0, [], .null, []), (16, .aconst_null, [], .int 29, []), (18, .invokevirtual 65, [2, 9, 73], .null, []), (21, .ifCond .ne 5, [26], .null, []), (24, .aconst_null, [], .int 0, []), (25, .ireturn, [1], .null, [])] := rfl
theorem b71_26 : am_b71 26 = [(26, .aload 1, [], .null, []), (27, .iload 2, [], .null, []), (28, .aload 0, [], .null, []), (29, .getfield 69, [9, 5], .null, []), (32, .invokevirtual 76, [3, 8, 46], .null, []), (35, .aconst_null, [], .int 1, []), (36, .ireturn, [1], .null, [])] := rfl
theorem pr_71 : am_pr 71 = (am_b71, 3, 0, 0) := rfl
theorem b72_0 : am_b72 0 = [(0, .aload 1, [], .null, []), (1, .invokevirtual 79, [1, 8, 42], .null, []), (4, .ifCond .ne 12, [16], .null, []), (7, .aload 0, [], .null, []), (8, .aconst_null, [], .int 29, []), (10, .invokevirtual 65, [2, 9, 73], .null, []), (13, .ifCond .ne 5, [18], .null, []), (16, .nop, [16], .null, [])] := rfl
theorem b72_16 : am_b72 16 = [(16, .aconst_null, [], .int 0, []), (17, .ireturn, [1], .null, [])] := rfl
theorem b72_18 : am_b72 18 = [(18, .aload 0, [], .null, []), (19, .getfield 69, [9, 5], .null, []), (22, .istore 3, [], .null, []), (23, .aload 0, [], .null, []), (24, .aconst_null, [], .int 29, []), (26, .invokevirtual 65, [2, 9, 73], .null, []), (29, .ifCond .ne 5, [34], .null, []), (32, .aconst_null, [], .int 0, []), (33, .ireturn, [1], .null, [])] := rfl
theorem b72_34 : am_b72 34 = [(34, .aload 1, [], .null, []), (35, .iload 2, [], .null, []), (36, .iload 3, [], .null, []), (37, .aload 0, [], .null, []), (38, .getfield 69, [9, 5], .null, []), (41, .invokevirtual 83, [4, 8, 43], .null, []), (44, .pop, [], .null, []), (45, .aconst_null, [], .int 1, []), (46, .ireturn, [1], .null, [])] := rfl
theorem pr_72 : am_pr 72 = (am_b72, 4, 0, 0) := rfl
theorem b73_0 : am_b73 0 = [(0, .aload 0, [], .null, []), (1, .invokevirtual 29, [1, 9, 75], .null, []), (4, .aload 0, [], .null, []), (5, .getfield 32, [9, 2], .null, []), (8, .aconst_null, [], .int 2, []), (9, .if_icmp .ne 15, [24], .null, []), (12, .aload 0, [], .null, []), (13, .getfield 69, [9, 5], .null, []), (16, .iload 1, [], .null, []), (17, .if_icmp .gt 7, [24], .null, []), (20, .aconst_null, [], .int 1, []), (21, .goto 4, [25], .null, [])] := rfl
theorem b73_24 : am_b73 24 = [(24, .aconst_null, [], .int 0, []), (25, .nop, [25], .null, [])] := rfl
theorem b73_25 : am_b73 25 = [(25, .ireturn, [1], .null, [])] := rfl
theorem pr_73 : am_pr 73 = (am_b73, 2, 0, 0) := rfl
theorem b74_0 : am_b74 0 = [(0, .aload 0, [], .null, []), (1, .getfield 19, [9, 4], .null, []), (4, .aload 0, [], .null, []), (5, .getfield 26, [9, 3], .null, []), (8, .isub, [], .null, []), (9, .aload 1, [], .null, []), (10, .invokeinterface 87 0, [500, 1], .null, []), (13, .if_icmp .eq 5, [18], .null, []), (16, .aconst_null, [], .int 0, []), (17, .ireturn, [1], .null, [])] := rfl
theorem b74_18 : am_b74 18 = [(18, .aconst_null, [], .int 0, []), (19, .istore 2, [], .null, []), (20, .nop, [20], .null, [])] := rfl
theorem b74_20 : am_b74 20 = [(20, .iload 2, [], .null, []), (21, .aload 1, [], .null, []), (22, .invokeinterface 87 0, [500, 1], .null, []), (25, .if_icmp .ge 30, [55], .null, []), (28, .aload 0, [], .null, []), (29, .getfield 9, [9, 0], .null, []), (32, .aload 0, [], .null, []), (33, .getfield 26, [9, 3], .null, []), (36, .iload 2, [], .null, []), (37, .iadd, [], .null, []), (38, .iaload, [], .null, []), (39, .aload 1, [], .null, []), (40, .iload 2, [], .null, []), (41, .invokeinterface 92 0, [501, 2], .null, []), (44, .if_icmp .eq 5, [49], .null, []), (47, .aconst_null, [], .int 0, []), (48, .ireturn, [1], .null, [])] := rfl
theorem b74_49 : am_b74 49 = [(49, .iinc 2 1, [], .int 1, []), (52, .goto (-32), [20], .null, [])] := rfl
theorem b74_55 : am_b74 55 = [(55, .aconst_null, [], .int 1, []), (56, .ireturn, [1], .null, [])] := rfl
theorem pr_74 : am_pr 74 = (am_b74, 3, 0, 0) := rfl
theorem b75_0 : am_b75 0 = [(0, .aload 0, [], .null, []), (1, .aload 0, [], .null, []), (2, .getfield 19, [9, 4], .null, []), (5, .putfield 26, [9, 3, 0], .null, []), (8, .nop, [8], .null, [])] := rfl
theorem b75_8 : am_b75 8 = [(8, .aload 0, [], .null, []), (9, .getfield 26, [9, 3], .null, []), (12, .aload 0, [], .null, []), (13, .getfield 15, [9, 1], .null, []), (16, .if_icmp .ge 30, [46], .null, []), (19, .aload 0, [], .null, []), (20, .getfield 9, [9, 0], .null, []), (23, .aload 0, [], .null, []), (24, .getfield 26, [9, 3], .null, []), (27, .iaload, [], .null, []), (28, .aconst_null, [], .int 32, []), (30, .if_icmp .ne 16, [46], .null, []), (33, .aload 0, [], .null, []), (34, .dup, [], .null, []), (35, .getfield 26, [9, 3], .null, []), (38, .aconst_null, [], .int 1, []), (39, .iadd, [], .null, []), (40, .putfield 26, [9, 3, 0], .null, []), (43, .goto (-35), [8], .null, [])] := rfl
theorem b75_46 : am_b75 46 = [(46, .aload 0, [], .null, []), (47, .aload 0, [], .null, []), (48, .getfield 26, [9, 3], .null, []), (51, .putfield 19, [9, 4, 0], .null, []), (54, .aload 0, [], .null, []), (55, .getfield 26, [9, 3], .null, []), (58, .aload 0, [], .null, []), (59, .getfield 15, [9, 1], .null, []), (62, .if_icmp .lt 11, [73], .null, []), (65, .aload 0, [], .null, []), (66, .aconst_null, [], .int 0, []), (67, .putfield 32, [9, 2, 0], .null, []), (70, .goto 90, [160], .null, [])] := rfl
theorem b75_73 : am_b75 73 = [(73, .aload 0, [], .null, []), (74, .getfield 9, [9, 0], .null, []), (77, .aload 0, [], .null, []), (78, .getfield 26, [9, 3], .null, []), (81, .iaload, [], .null, []), (82, .invokestatic 96, [78, 1], .null, []), (85, .ifCond .eq 15, [100], .null, []), (88, .aload 0, [], .null, []), (89, .aconst_null, [], .int 1, []), (90, .putfield 32, [9, 2, 0], .null, []), (93, .aload 0, [], .null, []), (94, .invokevirtual 99, [1, 9, 76], .null, []), (97, .goto 63, [160], .null, [])] := rfl
theorem b75_100 : am_b75 100 = [(100, .aload 0, [], .null, []), (101, .getfield 9, [9, 0], .null, []), (104, .aload 0, [], .null, []), (105, .getfield 26, [9, 3], .null, []), (108, .iaload, [], .null, []), (109, .invokestatic 102, [79, 1], .null, []), (112, .ifCond .eq 15, [127], .null, []), (115, .aload 0, [], .null, []), (116, .aconst_null, [], .int 2, []), (117, .putfield 32, [9, 2, 0], .null, []), (120, .aload 0, [], .null, []), (121, .invokevirtual 105, [1, 9, 77], .null, []), (124, .goto 36, [160], .null, [])] := rfl
theorem b75_127 : am_b75 127 = [(127, .aload 0, [], .null, []), (128, .aload 0, [], .null, []), (129, .getfield 9, [9, 0], .null, []), (132, .aload 0, [], .null, []), (133, .getfield 26, [9, 3], .null, []), (136, .iaload, [], .null, []), (137, .aconst_null, [], .int 59, []), (139, .if_icmp .ne 7, [146], .null, []), (142, .aconst_null, [], .int 3, []), (143, .goto 4, [147], .null, [])] := rfl
theorem b75_146 : am_b75 146 = [(146, .aconst_null, [], .int 4, []), (147, .nop, [147], .null, [])] := rfl
theorem b75_147 : am_b75 147 = [(147, .putfield 32, [9, 2, 0], .null, []), (150, .aload 0, [], .null, []), (151, .dup, [], .null, []), (152, .getfield 19, [9, 4], .null, []), (155, .aconst_null, [], .int 1, []), (156, .iadd, [], .null, []), (157, .putfield 19, [9, 4, 0], .null, []), (160, .nop, [160], .null, [])] := rfl
theorem b75_160 : am_b75 160 = [(160, .return_, [], .null, [])] := rfl
theorem pr_75 : am_pr 75 = (am_b75, 1, 0, 0) := rfl
theorem b76_0 : am_b76 0 = [(0, .aload 0, [], .null, []), (1, .getfield 19, [9, 4], .null, []), (4, .aload 0, [], .null, []), (5, .getfield 15, [9, 1], .null, []), (8, .if_icmp .ge 31, [39], .null, []), (11, .aload 0, [], .null, []), (12, .getfield 9, [9, 0], .null, []), (15, .aload 0, [], .null, []), (16, .getfield 19, [9, 4], .null, []), (19, .iaload, [], .null, []), (20, .invokestatic 96, [78, 1], .null, []), (23, .ifCond .eq 16, [39], .null, []), (26, .aload 0, [], .null, []), (27, .dup, [], .null, []), (28, .getfield 19, [9, 4], .null, []), (31, .aconst_null, [], .int 1, []), (32, .iadd, [], .null, []), (33, .putfield 19, [9, 4, 0], .null, []), (36, .goto (-36), [0], .null, [])] := rfl
theorem b76_39 : am_b76 39 = [(39, .return_, [], .null, [])] := rfl
theorem pr_76 : am_pr 76 = (am_b76, 1, 0, 0) := rfl
theorem b77_0 : am_b77 0 = [(0, .aload 0, [], .null, []), (1, .aconst_null, [], .int 0, []), (2, .putfield 69, [9, 5, 0], .null, []), (5, .nop, [5], .null, [])] := rfl
theorem b77_5 : am_b77 5 = [(5, .aload 0, [], .null, []), (6, .getfield 19, [9, 4], .null, []), (9, .aload 0, [], .null, []), (10, .getfield 15, [9, 1], .null, []), (13, .if_icmp .ge 61, [74], .null, []), (16, .aload 0, [], .null, []), (17, .getfield 9, [9, 0], .null, []), (20, .aload 0, [], .null, []), (21, .getfield 19, [9, 4], .null, []), (24, .iaload, [], .null, []), (25, .invokestatic 102, [79, 1], .null, []), (28, .ifCond .eq 46, [74], .null, []), (31, .aload 0, [], .null, []), (32, .aconst_null, [], .int 10, []), (34, .aload 0, [], .null, []), (35, .getfield 69, [9, 5], .null, []), (38, .imul, [], .null, []), (39, .aload 0, [], .null, []), (40, .getfield 9, [9, 0], .null, []), (43, .aload 0, [], .null, []), (44, .getfield 19, [9, 4], .null, []), (47, .iaload, [], .null, []), (48, .iadd, [], .null, []), (49, .aconst_null, [], .int 48, []), (51, .isub, [], .null, []), (52, .aconst_null, [], .int 1000, []), (55, .multianewarray 108 0, [], .null, []), (58, .putfield 69, [9, 5, 0], .null, []), (61, .aload 0, [], .null, []), (62, .dup, [], .null, []), (63, .getfield 19, [9, 4], .null, []), (66, .aconst_null, [], .int 1, []), (67, .iadd, [], .null, []), (68, .putfield 19, [9, 4, 0], .null, []), (71, .goto (-66), [5], .null, [])] := rfl
theorem b77_74 : am_b77 74 = [(74, .return_, [], .null, [])] := rfl
theorem pr_77 : am_pr 77 = (am_b77, 1, 0, 0) := rfl
theorem b78_0 : am_b78 0 = [(0, .iload 0, [], .null, []), (1, .aconst_null, [], .int 97, []), (3, .if_icmp .lt 13, [16], .null, []), (6, .iload 0, [], .null, []), (7, .aconst_null, [], .int 122, []), (9, .if_icmp .gt 7, [16], .null, []), (12, .aconst_null, [], .int 1, []), (13, .goto 4, [17], .null, [])] := rfl
theorem b78_16 : am_b78 16 = [(16, .aconst_null, [], .int 0, []), (17, .nop, [17], .null, [])] := rfl
theorem b78_17 : am_b78 17 = [(17, .ireturn, [1], .null, [])] := rfl
theorem pr_78 : am_pr 78 = (am_b78, 1, 0, 0) := rfl
theorem b79_0 : am_b79 0 = [(0, .iload 0, [], .null, []), (1, .aconst_null, [], .int 48, []), (3, .if_icmp .lt 13, [16], .null, []), (6, .iload 0, [], .null, []), (7, .aconst_null, [], .int 57, []), (9, .if_icmp .gt 7, [16], .null, []), (12, .aconst_null, [], .int 1, []), (13, .goto 4, [17], .null, [])] := rfl
theorem b79_16 : am_b79 16 = [(16, .aconst_null, [], .int 0, []), (17, .nop, [17], .null, [])] := rfl
theorem b79_17 : am_b79 17 = [(17, .ireturn, [1], .null, [])] := rfl
theorem pr_79 : am_pr 79 = (am_b79, 1, 0, 0) := rfl
theorem b80_0 : am_b80 0 = [(0, .aload 0, [], .null, []), (1, .monitorexit, [3], .null, []), (4, .aconst_null, [], .int 6, []), (6, .anewarray 9, [2], .null, []), (9, .dup, [], .null, []), (10, .aconst_null, [], .int 0, []), (11, .new 9, [5, 0], .null, []), (14, .dup, [], .null, []), (15, .invokespecial 11, [21, 1], .null, []), (18, .aastore, [], .null, []), (19, .dup, [], .null, []), (20, .aconst_null, [], .int 1, []), (21, .new 12, [1, 0], .null, []), (24, .dup, [], .null, []), (25, .invokespecial 14, [4, 1], .null, []), (28, .aastore, [], .null, []), (29, .dup, [], .null, []), (30, .aconst_null, [], .int 2, []), (31, .new 15, [0, 0], .null, []), (34, .dup, [], .null, []), (35, .invokespecial 17, [0, 1], .null, []), (38, .aastore, [], .null, []), (39, .dup, [], .null, []), (40, .aconst_null, [], .int 3, []), (41, .new 18, [6, 0], .null, []), (44, .dup, [], .null, []), (45, .invokespecial 20, [28, 1], .null, []), (48, .aastore, [], .null, []), (49, .dup, [], .null, []), (50, .aconst_null, [], .int 4, []), (51, .new 21, [4, 0], .null, []), (54, .dup, [], .null, []), (55, .invokespecial 23, [16, 1], .null, []), (58, .aastore, [], .null, []), (59, .dup, [], .null, []), (60, .aconst_null, [], .int 5, []), (61, .new 24, [3, 0], .null, []), (64, .dup, [], .null, []), (65, .invokespecial 26, [12, 1], .null, []), (68, .aastore, [], .null, []), (69, .astore 1, [], .null, []), (70, .aload 0, [], .null, []), (71, .new 27, [8, 13], .null, []), (74, .dup, [], .null, []), (75, .aload 1, [], .null, []), (76, .invokespecial 29, [40, 2], .null, []), (79, .putfield 32, [10, 0, 2], .null, []), (82, .aload 0, [], .null, []), (83, .new 27, [8, 13], .null, []), (86, .dup, [], .null, []), (87, .aload 1, [], .null, []), (88, .invokespecial 29, [40, 2], .null, []), (91, .putfield 36, [10, 1, 2], .null, []), (94, .aload 0, [], .null, []), (95, .new 27, [8, 13], .null, []), (98, .dup, [], .null, []), (99, .aload 1, [], .null, []), (100, .invokespecial 29, [40, 2], .null, []), (103, .putfield 39, [10, 2, 2], .null, []), (106, .aload 0, [], .null, []), (107, .aconst_null, [], .int 0, []), (108, .putfield 42, [10, 3, 1], .null, []), (111, .aload 0, [], .null, []), (112, .new 46, [9, 6], .null, []), (115, .dup, [], .null, []), (116, .invokespecial 48, [66, 1], .null, []), (119, .putfield 49, [10, 4, 2], .null, []), (122, .aload 0, [], .null, []), (123, .aconst_null, [], .int 4, []), (124, .anewarray 53, [3], .null, []), (127, .dup, [], .null, []), (128, .aconst_null, [], .int 0, []), (129, .new 53, [7, 3], .null, []), (132, .dup, [], .null, []), (133, .invokespecial 55, [35, 1], .null, []), (136, .aastore, [], .null, []), (137, .dup, [], .null, []), (138, .aconst_null, [], .int 1, []), (139, .new 53, [7, 3], .null, []), (142, .dup, [], .null, []), (143, .invokespecial 55, [35, 1], .null, []), (146, .aastore, [], .null, []), (147, .dup, [], .null, []), (148, .aconst_null, [], .int 2, []), (149, .new 53, [7, 3], .null, []), (152, .dup, [], .null, []), (153, .invokespecial 55, [35, 1], .null, []), (156, .aastore, [], .null, []), (157, .dup, [], .null, []), (158, .aconst_null, [], .int 3, []), (159, .new 53, [7, 3], .null, []), (162, .dup, [], .null, []), (163, .invokespecial 55, [35, 1], .null, []), (166, .aastore, [], .null, []), (167, .putfield 56, [10, 5, 2], .null, []), (170, .aload 0, [], .null, []), (171, .new 60, [2, 1], .null, []), (174, .dup, [], .null, []), (175, .invokespecial 62, [9, 1], .null, []), (178, .putfield 63, [10, 6, 2], .null, []), (181, .return_, [], .null, [])] := rfl
theorem pr_80 : am_pr 80 = (am_b80, 2, 50, 589) := rfl
theorem b81_0 : am_b81 0 = [(0, .iload 1, [], .null, []), (1, .invokestatic 67, [119, 1], .null, []), (4, .ifCond .eq 30, [34], .null, []), (7, .iload 2, [], .null, []), (8, .aconst_null, [], .int 0, []), (9, .aconst_null, [], .int 1, []), (10, .invokestatic 71, [118, 3], .null, []), (13, .ifCond .eq 21, [34], .null, []), (16, .iload 3, [], .null, []), (17, .aconst_null, [], .int 0, []), (18, .iload 2, [], .null, []), (19, .ifCond .ne 7, [26], .null, []), (22, .aconst_null, [], .int 1, []), (23, .goto 5, [28], .null, [])] := rfl
theorem b81_26 : am_b81 26 = [(26, .aconst_null, [], .int 99, []), (28, .nop, [28], .null, [])] := rfl
theorem b81_28 : am_b81 28 = [(28, .invokestatic 71, [118, 3], .null, []), (31, .ifCond .ne 13, [44], .null, []), (34, .nop, [34], .null, [])] := rfl
theorem b81_34 : am_b81 34 = [(34, .aload 0, [], .null, []), (35, .getfield 63, [10, 6], .null, []), (38, .aconst_null, [], .int (-1000000001), []), (40, .invokevirtual 76, [2, 2, 10], .null, []), (43, .ireturn, [0], .null, [])] := rfl
theorem b81_44 : am_b81 44 = [(44, .aload 0, [], .null, []), (45, .iload 1, [], .null, []), (46, .iload 2, [], .null, []), (47, .invokevirtual 80, [3, 10, 127], .null, []), (50, .istore 4, [], .null, []), (52, .iload 2, [], .null, []), (53, .ifCond .ne 15, [68], .null, []), (56, .aload 0, [], .null, []), (57, .getfield 32, [10, 0], .null, []), (60, .iload 1, [], .null, []), (61, .iload 3, [], .null, []), (62, .invokevirtual 84, [3, 8, 44], .null, []), (65, .goto 13, [78], .null, [])] := rfl
theorem b81_68 : am_b81 68 = [(68, .aload 0, [], .null, []), (69, .getfield 32, [10, 0], .null, []), (72, .getfield 88, [8, 4], .null, []), (75, .iload 1, [], .null, []), (76, .iload 3, [], .null, []), (77, .iastore, [], .null, []), (78, .nop, [78], .null, [])] := rfl
theorem b81_78 : am_b81 78 = [(78, .iload 4, [], .null, []), (80, .ireturn, [0], .null, [])] := rfl
theorem pr_81 : am_pr 81 = (am_b81, 5, 0, 0) := rfl
theorem b82_0 : am_b82 0 = [(0, .iload 1, [], .null, []), (1, .invokestatic 67, [119, 1], .null, []), (4, .ifCond .eq 12, [16], .null, []), (7, .iload 2, [], .null, []), (8, .aconst_null, [], .int 0, []), (9, .aconst_null, [], .int 3, []), (10, .invokestatic 71, [118, 3], .null, []), (13, .ifCond .ne 13, [26], .null, []), (16, .nop, [16], .null, [])] := rfl
theorem b82_16 : am_b82 16 = [(16, .aload 0, [], .null, []), (17, .getfield 63, [10, 6], .null, []), (20, .aconst_null, [], .int (-1000000001), []), (22, .invokevirtual 76, [2, 2, 10], .null, []), (25, .ireturn, [0], .null, [])] := rfl
theorem b82_26 : am_b82 26 = [(26, .aload 0, [], .null, []), (27, .iload 1, [], .null, []), (28, .iload 2, [], .null, []), (29, .invokevirtual 80, [3, 10, 127], .null, []), (32, .ireturn, [0], .null, [])] := rfl
theorem pr_82 : am_pr 82 = (am_b82, 3, 0, 0) := rfl
theorem b83_0 : am_b83 0 = [(0, .iload 1, [], .null, []), (1, .invokestatic 92, [120, 1], .null, []), (4, .ifCond .eq 13, [17], .null, []), (7, .iload 2, [], .null, []), (8, .aconst_null, [], .int (-1), []), (9, .aconst_null, [], .int 29, []), (11, .invokestatic 71, [118, 3], .null, []), (14, .ifCond .ne 13, [27], .null, []), (17, .nop, [17], .null, [])] := rfl
theorem b83_17 : am_b83 17 = [(17, .aload 0, [], .null, []), (18, .getfield 63, [10, 6], .null, []), (21, .aconst_null, [], .int (-1000000001), []), (23, .invokevirtual 76, [2, 2, 10], .null, []), (26, .ireturn, [0], .null, [])] := rfl
theorem b83_27 : am_b83 27 = [(27, .aload 0, [], .null, []), (28, .getfield 32, [10, 0], .null, []), (31, .getfield 95, [8, 5], .null, []), (34, .iload 1, [], .null, []), (35, .iaload, [], .null, []), (36, .istore 3, [], .null, []), (37, .aload 0, [], .null, []), (38, .getfield 32, [10, 0], .null, []), (41, .iload 1, [], .null, []), (42, .iload 2, [], .null, []), (43, .invokevirtual 98, [3, 8, 46], .null, []), (46, .iload 3, [], .null, []), (47, .ireturn, [0], .null, [])] := rfl
theorem pr_83 : am_pr 83 = (am_b83, 4, 0, 0) := rfl
theorem b84_0 : am_b84 0 = [(0, .iload 1, [], .null, []), (1, .invokestatic 92, [120, 1], .null, []), (4, .ifCond .eq 15, [19], .null, []), (7, .aload 0, [], .null, []), (8, .getfield 32, [10, 0], .null, []), (11, .getfield 95, [8, 5], .null, []), (14, .iload 1, [], .null, []), (15, .iaload, [], .null, []), (16, .goto 12, [28], .null, [])] := rfl
theorem b84_19 : am_b84 19 = [(19, .aload 0, [], .null, []), (20, .getfield 63, [10, 6], .null, []), (23, .aconst_null, [], .int (-1000000001), []), (25, .invokevirtual 76, [2, 2, 10], .null, []), (28, .nop, [28], .null, [])] := rfl
theorem b84_28 : am_b84 28 = [(28, .ireturn, [0], .null, [])] := rfl
theorem pr_84 : am_pr 84 = (am_b84, 2, 0, 0) := rfl
theorem b85_0 : am_b85 0 = [(0, .iload 1, [], .null, []), (1, .tableswitch 91 0 5 #[39, 47, 55, 63, 73, 83], [92], .null, [(0, 40), (1, 48), (2, 56), (3, 64), (4, 74), (5, 84)])] := rfl
theorem b85_40 : am_b85 40 = [(40, .aload 0, [], .null, []), (41, .getfield 32, [10, 0], .null, []), (44, .getfield 101, [8, 1], .null, []), (47, .ireturn, [0], .null, [])] := rfl
theorem b85_48 : am_b85 48 = [(48, .aload 0, [], .null, []), (49, .getfield 32, [10, 0], .null, []), (52, .getfield 105, [8, 2], .null, []), (55, .ireturn, [0], .null, [])] := rfl
theorem b85_56 : am_b85 56 = [(56, .aload 0, [], .null, []), (57, .getfield 32, [10, 0], .null, []), (60, .invokevirtual 108, [1, 8, 51], .null, []), (63, .ireturn, [0], .null, [])] := rfl
theorem b85_64 : am_b85 64 = [(64, .aload 0, [], .null, []), (65, .getfield 32, [10, 0], .null, []), (68, .aconst_null, [], .int (-3), []), (70, .invokevirtual 112, [2, 8, 50], .null, []), (73, .ireturn, [0], .null, [])] := rfl
theorem b85_74 : am_b85 74 = [(74, .aload 0, [], .null, []), (75, .getfield 32, [10, 0], .null, []), (78, .aconst_null, [], .int (-2), []), (80, .invokevirtual 112, [2, 8, 50], .null, []), (83, .ireturn, [0], .null, [])] := rfl
theorem b85_84 : am_b85 84 = [(84, .aload 0, [], .null, []), (85, .getfield 32, [10, 0], .null, []), (88, .invokevirtual 115, [1, 8, 52], .null, []), (91, .ireturn, [0], .null, [])] := rfl
theorem b85_92 : am_b85 92 = [(92, .aload 0, [], .null, []), (93, .getfield 63, [10, 6], .null, []), (96, .aconst_null, [], .int (-1000000001), []), (98, .invokevirtual 76, [2, 2, 10], .null, []), (101, .ireturn, [0], .null, [])] := rfl
theorem pr_85 : am_pr 85 = (am_b85, 2, 0, 0) := rfl
theorem b86_0 : am_b86 0 = [(0, .iload 1, [], .null, []), (1, .invokestatic 118, [121, 1], .null, []), (4, .ifCond .eq 17, [21], .null, []), (7, .iload 2, [], .null, []), (8, .invokestatic 67, [119, 1], .null, []), (11, .ifCond .eq 10, [21], .null, []), (14, .iload 3, [], .null, []), (15, .invokestatic 67, [119, 1], .null, []), (18, .ifCond .ne 13, [31], .null, []), (21, .nop, [21], .null, [])] := rfl
theorem b86_21 : am_b86 21 = [(21, .aload 0, [], .null, []), (22, .getfield 63, [10, 6], .null, []), (25, .aconst_null, [], .int (-1000000001), []), (27, .invokevirtual 76, [2, 2, 10], .null, []), (30, .ireturn, [0], .null, [])] := rfl
theorem b86_31 : am_b86 31 = [(31, .aload 0, [], .null, []), (32, .getfield 32, [10, 0], .null, []), (35, .invokevirtual 121, [1, 8, 42], .null, []), (38, .ifCond .eq 13, [51], .null, []), (41, .aload 0, [], .null, []), (42, .getfield 63, [10, 6], .null, []), (45, .aconst_null, [], .int (-1000000002), []), (47, .invokevirtual 76, [2, 2, 10], .null, []), (50, .ireturn, [0], .null, [])] := rfl
theorem b86_51 : am_b86 51 = [(51, .aload 0, [], .null, []), (52, .getfield 32, [10, 0], .null, []), (55, .iload 1, [], .null, []), (56, .iload 2, [], .null, []), (57, .iload 3, [], .null, []), (58, .invokevirtual 126, [4, 8, 43], .null, []), (61, .ireturn, [0], .null, [])] := rfl
theorem pr_86 : am_pr 86 = (am_b86, 4, 0, 0) := rfl
theorem b87_0 : am_b87 0 = [(0, .aload 0, [], .null, []), (1, .iload 1, [], .null, []), (2, .invokevirtual 130, [2, 10, 123], .null, []), (5, .ifCond .eq 13, [18], .null, []), (8, .iload 2, [], .null, []), (9, .aconst_null, [], .int 0, []), (10, .aconst_null, [], .int 9, []), (12, .invokestatic 71, [118, 3], .null, []), (15, .ifCond .ne 13, [28], .null, []), (18, .nop, [18], .null, [])] := rfl
theorem b87_18 : am_b87 18 = [(18, .aload 0, [], .null, []), (19, .getfield 63, [10, 6], .null, []), (22, .aconst_null, [], .int (-1000000001), []), (24, .invokevirtual 76, [2, 2, 10], .null, []), (27, .ireturn, [0], .null, [])] := rfl
theorem b87_28 : am_b87 28 = [(28, .aload 0, [], .null, []), (29, .iload 1, [], .null, []), (30, .iload 2, [], .null, []), (31, .invokevirtual 133, [3, 10, 128], .null, []), (34, .ireturn, [0], .null, [])] := rfl
theorem pr_87 : am_pr 87 = (am_b87, 3, 0, 0) := rfl
theorem b88_0 : am_b88 0 = [(0, .aload 0, [], .null, []), (1, .iload 1, [], .null, []), (2, .invokevirtual 130, [2, 10, 123], .null, []), (5, .ifCond .eq 12, [17], .null, []), (8, .iload 2, [], .null, []), (9, .aconst_null, [], .int 0, []), (10, .aconst_null, [], .int 1, []), (11, .invokestatic 71, [118, 3], .null, []), (14, .ifCond .ne 13, [27], .null, []), (17, .nop, [17], .null, [])] := rfl
theorem b88_17 : am_b88 17 = [(17, .aload 0, [], .null, []), (18, .getfield 63, [10, 6], .null, []), (21, .aconst_null, [], .int (-1000000001), []), (23, .invokevirtual 76, [2, 2, 10], .null, []), (26, .ireturn, [0], .null, [])] := rfl
theorem b88_27 : am_b88 27 = [(27, .aload 0, [], .null, []), (28, .getfield 32, [10, 0], .null, []), (31, .iload 1, [], .null, []), (32, .invokevirtual 136, [2, 8, 47], .null, []), (35, .astore 3, [], .null, []), (36, .iload 2, [], .null, []), (37, .ifCond .ne 10, [47], .null, []), (40, .aload 3, [], .null, []), (41, .invokevirtual 140, [1, 5, 26, 0, 26, 1, 8, 3, 26, 4, 8, 6, 33], .null, []), (44, .goto 7, [51], .null, [])] := rfl
theorem b88_47 : am_b88 47 = [(47, .aload 3, [], .null, []), (48, .invokevirtual 143, [1, 5, 27, 0, 3, 1, 27, 3, 15, 4, 20, 6, 34], .null, []), (51, .nop, [51], .null, [])] := rfl
theorem b88_51 : am_b88 51 = [(51, .ireturn, [0], .null, [])] := rfl
theorem pr_88 : am_pr 88 = (am_b88, 4, 0, 0) := rfl
theorem b89_0 : am_b89 0 = [(0, .aload 0, [], .null, []), (1, .iload 1, [], .null, []), (2, .invokevirtual 130, [2, 10, 123], .null, []), (5, .ifCond .eq 24, [29], .null, []), (8, .iload 2, [], .null, []), (9, .aconst_null, [], .int 1, []), (10, .aconst_null, [], .int 5, []), (11, .invokestatic 71, [118, 3], .null, []), (14, .ifCond .eq 15, [29], .null, []), (17, .iload 3, [], .null, []), (18, .aconst_null, [], .int 0, []), (19, .iload 2, [], .null, []), (20, .invokestatic 146, [125, 1], .null, []), (23, .invokestatic 71, [118, 3], .null, []), (26, .ifCond .ne 13, [39], .null, []), (29, .nop, [29], .null, [])] := rfl
theorem b89_29 : am_b89 29 = [(29, .aload 0, [], .null, []), (30, .getfield 63, [10, 6], .null, []), (33, .aconst_null, [], .int (-1000000001), []), (35, .invokevirtual 76, [2, 2, 10], .null, []), (38, .ireturn, [0], .null, [])] := rfl
theorem b89_39 : am_b89 39 = [(39, .aload 0, [], .null, []), (40, .iload 1, [], .null, []), (41, .iload 2, [], .null, []), (42, .invokevirtual 133, [3, 10, 128], .null, []), (45, .istore 4, [], .null, []), (47, .iload 2, [], .null, []), (48, .tableswitch 84 1 4 #[32, 45, 58, 71], [132], .null, [(1, 80), (2, 93), (3, 106), (4, 119)])] := rfl
theorem b89_80 : am_b89 80 = [(80, .aload 0, [], .null, []), (81, .getfield 32, [10, 0], .null, []), (84, .getfield 149, [8, 7], .null, []), (87, .iload 1, [], .null, []), (88, .iload 3, [], .null, []), (89, .iastore, [], .null, []), (90, .goto 52, [142], .null, [])] := rfl
theorem b89_93 : am_b89 93 = [(93, .aload 0, [], .null, []), (94, .getfield 32, [10, 0], .null, []), (97, .getfield 152, [8, 8], .null, []), (100, .iload 1, [], .null, []), (101, .iload 3, [], .null, []), (102, .iastore, [], .null, []), (103, .goto 39, [142], .null, [])] := rfl
theorem b89_106 : am_b89 106 = [(106, .aload 0, [], .null, []), (107, .getfield 32, [10, 0], .null, []), (110, .getfield 155, [8, 9], .null, []), (113, .iload 1, [], .null, []), (114, .iload 3, [], .null, []), (115, .iastore, [], .null, []), (116, .goto 26, [142], .null, [])] := rfl
theorem b89_119 : am_b89 119 = [(119, .aload 0, [], .null, []), (120, .getfield 32, [10, 0], .null, []), (123, .getfield 158, [8, 10], .null, []), (126, .iload 1, [], .null, []), (127, .iload 3, [], .null, []), (128, .iastore, [], .null, []), (129, .goto 13, [142], .null, [])] := rfl
theorem b89_132 : am_b89 132 = [(132, .aload 0, [], .null, []), (133, .getfield 32, [10, 0], .null, []), (136, .getfield 161, [8, 11], .null, []), (139, .iload 1, [], .null, []), (140, .iload 3, [], .null, []), (141, .iastore, [], .null, []), (142, .nop, [142], .null, [])] := rfl
theorem b89_142 : am_b89 142 = [(142, .iload 4, [], .null, []), (144, .ireturn, [0], .null, [])] := rfl
theorem pr_89 : am_pr 89 = (am_b89, 5, 0, 0) := rfl
theorem b90_0 : am_b90 0 = [(0, .aload 0, [], .null, []), (1, .iload 1, [], .null, []), (2, .invokevirtual 130, [2, 10, 123], .null, []), (5, .ifCond .eq 10, [15], .null, []), (8, .iload 2, [], .null, []), (9, .invokestatic 118, [121, 1], .null, []), (12, .ifCond .ne 13, [25], .null, []), (15, .nop, [15], .null, [])] := rfl
theorem b90_15 : am_b90 15 = [(15, .aload 0, [], .null, []), (16, .getfield 63, [10, 6], .null, []), (19, .aconst_null, [], .int (-1000000001), []), (21, .invokevirtual 76, [2, 2, 10], .null, []), (24, .ireturn, [0], .null, [])] := rfl
theorem b90_25 : am_b90 25 = [(25, .aload 0, [], .null, []), (26, .getfield 32, [10, 0], .null, []), (29, .getfield 164, [8, 6], .null, []), (32, .iload 1, [], .null, []), (33, .iaload, [], .null, []), (34, .istore 3, [], .null, []), (35, .aload 0, [], .null, []), (36, .getfield 32, [10, 0], .null, []), (39, .getfield 164, [8, 6], .null, []), (42, .iload 1, [], .null, []), (43, .iload 2, [], .null, []), (44, .iastore, [], .null, []), (45, .iload 3, [], .null, []), (46, .ireturn, [0], .null, [])] := rfl
theorem pr_90 : am_pr 90 = (am_b90, 4, 0, 0) := rfl
theorem b91_0 : am_b91 0 = [(0, .aload 0, [], .null, []), (1, .iload 1, [], .null, []), (2, .invokevirtual 130, [2, 10, 123], .null, []), (5, .ifCond .eq 10, [15], .null, []), (8, .iload 2, [], .null, []), (9, .invokestatic 118, [121, 1], .null, []), (12, .ifCond .ne 13, [25], .null, []), (15, .nop, [15], .null, [])] := rfl
theorem b91_15 : am_b91 15 = [(15, .aload 0, [], .null, []), (16, .getfield 63, [10, 6], .null, []), (19, .aconst_null, [], .int (-1000000001), []), (21, .invokevirtual 76, [2, 2, 10], .null, []), (24, .ireturn, [0], .null, [])] := rfl
theorem b91_25 : am_b91 25 = [(25, .aload 0, [], .null, []), (26, .getfield 32, [10, 0], .null, []), (29, .iload 1, [], .null, []), (30, .invokevirtual 136, [2, 8, 47], .null, []), (33, .iload 2, [], .null, []), (34, .invokestatic 167, [126, 2], .null, []), (37, .ifCond .ne 13, [50], .null, []), (40, .aload 0, [], .null, []), (41, .getfield 63, [10, 6], .null, []), (44, .aconst_null, [], .int (-1000000003), []), (46, .invokevirtual 76, [2, 2, 10], .null, []), (49, .ireturn, [0], .null, [])] := rfl
theorem b91_50 : am_b91 50 = [(50, .aload 0, [], .null, []), (51, .getfield 32, [10, 0], .null, []), (54, .getfield 161, [8, 11], .null, []), (57, .iload 1, [], .null, []), (58, .iaload, [], .null, []), (59, .ireturn, [0], .null, [])] := rfl
theorem pr_91 : am_pr 91 = (am_b91, 3, 0, 0) := rfl
theorem b92_0 : am_b92 0 = [(0, .iload 1, [], .null, []), (1, .aconst_null, [], .int 1, []), (2, .aconst_null, [], .int 100, []), (4, .invokestatic 71, [118, 3], .null, []), (7, .ifCond .ne 13, [20], .null, []), (10, .aload 0, [], .null, []), (11, .getfield 63, [10, 6], .null, []), (14, .aconst_null, [], .int (-1000000001), []), (16, .invokevirtual 76, [2, 2, 10], .null, []), (19, .ireturn, [0], .null, [])] := rfl
theorem b92_20 : am_b92 20 = [(20, .aload 0, [], .null, []), (21, .getfield 32, [10, 0], .null, []), (24, .getfield 101, [8, 1], .null, []), (27, .iload 1, [], .null, []), (28, .iadd, [], .null, []), (29, .aconst_null, [], .int 99999, []), (31, .if_icmp .le 13, [44], .null, []), (34, .aload 0, [], .null, []), (35, .getfield 63, [10, 6], .null, []), (38, .aconst_null, [], .int (-1000000005), []), (40, .invokevirtual 76, [2, 2, 10], .null, []), (43, .ireturn, [0], .null, [])] := rfl
theorem b92_44 : am_b92 44 = [(44, .aload 0, [], .null, []), (45, .getfield 32, [10, 0], .null, []), (48, .iload 1, [], .null, []), (49, .aconst_null, [], .int (-1), []), (50, .invokevirtual 174, [3, 8, 56], .null, []), (53, .aload 0, [], .null, []), (54, .getfield 32, [10, 0], .null, []), (57, .aconst_null, [], .int (-3), []), (59, .invokevirtual 112, [2, 8, 50], .null, []), (62, .ireturn, [0], .null, [])] := rfl
theorem pr_92 : am_pr 92 = (am_b92, 2, 0, 0) := rfl
theorem b93_0 : am_b93 0 = [(0, .aload 0, [], .null, []), (1, .iload 1, [], .null, []), (2, .invokevirtual 130, [2, 10, 123], .null, []), (5, .ifCond .eq 23, [28], .null, []), (8, .iload 2, [], .null, []), (9, .aconst_null, [], .int 0, []), (10, .aconst_null, [], .int 200, []), (13, .invokestatic 71, [118, 3], .null, []), (16, .ifCond .eq 12, [28], .null, []), (19, .iload 3, [], .null, []), (20, .aconst_null, [], .int 0, []), (21, .aconst_null, [], .int 2, []), (22, .invokestatic 71, [118, 3], .null, []), (25, .ifCond .ne 13, [38], .null, []), (28, .nop, [28], .null, [])] := rfl
theorem b93_28 : am_b93 28 = [(28, .aload 0, [], .null, []), (29, .getfield 63, [10, 6], .null, []), (32, .aconst_null, [], .int (-1000000001), []), (34, .invokevirtual 76, [2, 2, 10], .null, []), (37, .ireturn, [0], .null, [])] := rfl
theorem b93_38 : am_b93 38 = [(38, .aload 0, [], .null, []), (39, .getfield 36, [10, 1], .null, []), (42, .aload 0, [], .null, []), (43, .getfield 32, [10, 0], .null, []), (46, .invokevirtual 177, [2, 8, 41], .null, []), (49, .aload 0, [], .null, []), (50, .getfield 36, [10, 1], .null, []), (53, .iload 2, [], .null, []), (54, .aconst_null, [], .int (-1), []), (55, .invokevirtual 174, [3, 8, 56], .null, []), (58, .iload 3, [], .null, []), (59, .lookupswitch 45 #[(0, 25), (1, 35)], [104], .null, [(0, 84), (1, 94)])] := rfl
theorem b93_84 : am_b93 84 = [(84, .aload 0, [], .null, []), (85, .getfield 36, [10, 1], .null, []), (88, .getfield 149, [8, 7], .null, []), (91, .iload 1, [], .null, []), (92, .iaload, [], .null, []), (93, .ireturn, [0], .null, [])] := rfl
theorem b93_94 : am_b93 94 = [(94, .aload 0, [], .null, []), (95, .getfield 36, [10, 1], .null, []), (98, .getfield 161, [8, 11], .null, []), (101, .iload 1, [], .null, []), (102, .iaload, [], .null, []), (103, .ireturn, [0], .null, [])] := rfl
theorem b93_104 : am_b93 104 = [(104, .aload 0, [], .null, []), (105, .getfield 36, [10, 1], .null, []), (108, .getfield 181, [8, 12], .null, []), (111, .iload 1, [], .null, []), (112, .iaload, [], .null, []), (113, .ireturn, [0], .null, [])] := rfl
theorem pr_93 : am_pr 93 = (am_b93, 4, 0, 0) := rfl
theorem b94_0 : am_b94 0 = [(0, .iload 1, [], .null, []), (1, .invokestatic 92, [120, 1], .null, []), (4, .ifCond .eq 14, [18], .null, []), (7, .iload 2, [], .null, []), (8, .aconst_null, [], .int 0, []), (9, .aconst_null, [], .int 200, []), (12, .invokestatic 71, [118, 3], .null, []), (15, .ifCond .ne 13, [28], .null, []), (18, .nop, [18], .null, [])] := rfl
theorem b94_18 : am_b94 18 = [(18, .aload 0, [], .null, []), (19, .getfield 63, [10, 6], .null, []), (22, .aconst_null, [], .int (-1000000001), []), (24, .invokevirtual 76, [2, 2, 10], .null, []), (27, .ireturn, [0], .null, [])] := rfl
theorem b94_28 : am_b94 28 = [(28, .aload 0, [], .null, []), (29, .getfield 36, [10, 1], .null, []), (32, .aload 0, [], .null, []), (33, .getfield 32, [10, 0], .null, []), (36, .invokevirtual 177, [2, 8, 41], .null, []), (39, .aload 0, [], .null, []), (40, .getfield 36, [10, 1], .null, []), (43, .iload 2, [], .null, []), (44, .aconst_null, [], .int (-1), []), (45, .invokevirtual 174, [3, 8, 56], .null, []), (48, .aload 0, [], .null, []), (49, .getfield 36, [10, 1], .null, []), (52, .getfield 95, [8, 5], .null, []), (55, .iload 1, [], .null, []), (56, .iaload, [], .null, []), (57, .ireturn, [0], .null, [])] := rfl
theorem pr_94 : am_pr 94 = (am_b94, 3, 0, 0) := rfl
theorem b95_0 : am_b95 0 = [(0, .iload 1, [], .null, []), (1, .invokestatic 92, [120, 1], .null, []), (4, .ifCond .ne 13, [17], .null, []), (7, .aload 0, [], .null, []), (8, .getfield 63, [10, 6], .null, []), (11, .aconst_null, [], .int (-1000000001), []), (13, .invokevirtual 76, [2, 2, 10], .null, []), (16, .ireturn, [0], .null, [])] := rfl
theorem b95_17 : am_b95 17 = [(17, .aload 0, [], .null, []), (18, .getfield 36, [10, 1], .null, []), (21, .aload 0, [], .null, []), (22, .getfield 32, [10, 0], .null, []), (25, .invokevirtual 177, [2, 8, 41], .null, []), (28, .aload 0, [], .null, []), (29, .aload 0, [], .null, []), (30, .getfield 36, [10, 1], .null, []), (33, .iload 1, [], .null, []), (34, .aconst_null, [], .int 200, []), (37, .invokevirtual 184, [3, 8, 53], .null, []), (40, .invokevirtual 187, [2, 10, 129], .null, []), (43, .ireturn, [0], .null, [])] := rfl
theorem pr_95 : am_pr 95 = (am_b95, 2, 0, 0) := rfl
theorem b96_0 : am_b96 0 = [(0, .iload 1, [], .null, []), (1, .invokestatic 67, [119, 1], .null, []), (4, .ifCond .ne 13, [17], .null, []), (7, .aload 0, [], .null, []), (8, .getfield 63, [10, 6], .null, []), (11, .aconst_null, [], .int (-1000000001), []), (13, .invokevirtual 76, [2, 2, 10], .null, []), (16, .ireturn, [0], .null, [])] := rfl
theorem b96_17 : am_b96 17 = [(17, .aload 0, [], .null, []), (18, .getfield 36, [10, 1], .null, []), (21, .aload 0, [], .null, []), (22, .getfield 32, [10, 0], .null, []), (25, .invokevirtual 177, [2, 8, 41], .null, []), (28, .aload 0, [], .null, []), (29, .aload 0, [], .null, []), (30, .getfield 36, [10, 1], .null, []), (33, .iload 1, [], .null, []), (34, .aconst_null, [], .int 200, []), (37, .invokevirtual 190, [3, 8, 54], .null, []), (40, .invokevirtual 187, [2, 10, 129], .null, []), (43, .ireturn, [0], .null, [])] := rfl
theorem pr_96 : am_pr 96 = (am_b96, 2, 0, 0) := rfl
theorem b97_0 : am_b97 0 = [(0, .aload 0, [], .null, []), (1, .iload 1, [], .null, []), (2, .invokevirtual 130, [2, 10, 123], .null, []), (5, .ifCond .eq 10, [15], .null, []), (8, .iload 2, [], .null, []), (9, .invokestatic 67, [119, 1], .null, []), (12, .ifCond .ne 13, [25], .null, []), (15, .nop, [15], .null, [])] := rfl
theorem b97_15 : am_b97 15 = [(15, .aload 0, [], .null, []), (16, .getfield 63, [10, 6], .null, []), (19, .aconst_null, [], .int (-1000000001), []), (21, .invokevirtual 76, [2, 2, 10], .null, []), (24, .ireturn, [0], .null, [])] := rfl
theorem b97_25 : am_b97 25 = [(25, .aload 0, [], .null, []), (26, .getfield 36, [10, 1], .null, []), (29, .aload 0, [], .null, []), (30, .getfield 32, [10, 0], .null, []), (33, .invokevirtual 177, [2, 8, 41], .null, []), (36, .aload 0, [], .null, []), (37, .aload 0, [], .null, []), (38, .getfield 36, [10, 1], .null, []), (41, .iload 1, [], .null, []), (42, .iload 2, [], .null, []), (43, .aconst_null, [], .int 200, []), (46, .invokevirtual 193, [4, 8, 55], .null, []), (49, .invokevirtual 187, [2, 10, 129], .null, []), (52, .ireturn, [0], .null, [])] := rfl
theorem pr_97 : am_pr 97 = (am_b97, 3, 0, 0) := rfl
theorem b98_0 : am_b98 0 = [(0, .aload 0, [], .null, []), (1, .iload 1, [], .null, []), (2, .invokevirtual 130, [2, 10, 123], .null, []), (5, .ifCond .eq 10, [15], .null, []), (8, .iload 2, [], .null, []), (9, .invokestatic 92, [120, 1], .null, []), (12, .ifCond .ne 13, [25], .null, []), (15, .nop, [15], .null, [])] := rfl
theorem b98_15 : am_b98 15 = [(15, .aload 0, [], .null, []), (16, .getfield 63, [10, 6], .null, []), (19, .aconst_null, [], .int (-1000000001), []), (21, .invokevirtual 76, [2, 2, 10], .null, []), (24, .ireturn, [0], .null, [])] := rfl
theorem b98_25 : am_b98 25 = [(25, .aconst_null, [], .int 0, []), (26, .istore 3, [], .null, []), (27, .aconst_null, [], .int 201, []), (30, .istore 4, [], .null, []), (32, .aconst_null, [], .int 0, []), (33, .istore 5, [], .null, []), (35, .nop, [35], .null, [])] := rfl
theorem b98_35 : am_b98 35 = [(35, .iload 5, [], .null, []), (37, .aconst_null, [], .int 6, []), (39, .if_icmp .ge 59, [98], .null, []), (42, .aload 0, [], .null, []), (43, .getfield 36, [10, 1], .null, []), (46, .aload 0, [], .null, []), (47, .getfield 32, [10, 0], .null, []), (50, .invokevirtual 177, [2, 8, 41], .null, []), (53, .aload 0, [], .null, []), (54, .getfield 36, [10, 1], .null, []), (57, .getfield 164, [8, 6], .null, []), (60, .iload 1, [], .null, []), (61, .iload 5, [], .null, []), (63, .iastore, [], .null, []), (64, .aload 0, [], .null, []), (65, .getfield 36, [10, 1], .null, []), (68, .iload 2, [], .null, []), (69, .iload 4, [], .null, []), (71, .aconst_null, [], .int 1, []), (72, .isub, [], .null, []), (73, .invokevirtual 184, [3, 8, 53], .null, []), (76, .istore 6, [], .null, []), (78, .iload 6, [], .null, []), (80, .iload 4, [], .null, []), (82, .if_icmp .ge 10, [92], .null, []), (85, .iload 6, [], .null, []), (87, .istore 4, [], .null, []), (89, .iload 5, [], .null, []), (91, .istore 3, [], .null, []), (92, .nop, [92], .null, [])] := rfl
theorem b98_92 : am_b98 92 = [(92, .iinc 5 1, [], .int 1, []), (95, .goto (-60), [35], .null, [])] := rfl
theorem b98_98 : am_b98 98 = [(98, .iload 3, [], .null, []), (99, .ireturn, [0], .null, [])] := rfl
theorem pr_98 : am_pr 98 = (am_b98, 7, 0, 0) := rfl
theorem b99_0 : am_b99 0 = [(0, .aload 0, [], .null, []), (1, .iload 1, [], .null, []), (2, .invokevirtual 130, [2, 10, 123], .null, []), (5, .ifCond .eq 13, [18], .null, []), (8, .iload 2, [], .null, []), (9, .aconst_null, [], .int 1, []), (10, .aconst_null, [], .int 60, []), (12, .invokestatic 71, [118, 3], .null, []), (15, .ifCond .ne 13, [28], .null, []), (18, .nop, [18], .null, [])] := rfl
theorem b99_18 : am_b99 18 = [(18, .aload 0, [], .null, []), (19, .getfield 63, [10, 6], .null, []), (22, .aconst_null, [], .int (-1000000001), []), (24, .invokevirtual 76, [2, 2, 10], .null, []), (27, .ireturn, [0], .null, [])] := rfl
theorem b99_28 : am_b99 28 = [(28, .aconst_null, [], .int 0, []), (29, .istore 3, [], .null, []), (30, .aconst_null, [], .int (-1), []), (31, .istore 4, [], .null, []), (33, .aconst_null, [], .int 0, []), (34, .istore 5, [], .null, []), (36, .nop, [36], .null, [])] := rfl
theorem b99_36 : am_b99 36 = [(36, .iload 5, [], .null, []), (38, .aconst_null, [], .int 30, []), (40, .if_icmp .ge 68, [108], .null, []), (43, .aload 0, [], .null, []), (44, .getfield 36, [10, 1], .null, []), (47, .aload 0, [], .null, []), (48, .getfield 32, [10, 0], .null, []), (51, .invokevirtual 177, [2, 8, 41], .null, []), (54, .aload 0, [], .null, []), (55, .getfield 36, [10, 1], .null, []), (58, .getfield 155, [8, 9], .null, []), (61, .iload 1, [], .null, []), (62, .iload 5, [], .null, []), (64, .iastore, [], .null, []), (65, .aload 0, [], .null, []), (66, .getfield 36, [10, 1], .null, []), (69, .iload 2, [], .null, []), (70, .aconst_null, [], .int (-1), []), (71, .invokevirtual 174, [3, 8, 56], .null, []), (74, .aload 0, [], .null, []), (75, .getfield 36, [10, 1], .null, []), (78, .aconst_null, [], .int (-3), []), (80, .invokevirtual 112, [2, 8, 50], .null, []), (83, .invokestatic 196, [231, 1], .null, []), (86, .istore 6, [], .null, []), (88, .iload 6, [], .null, []), (90, .iload 4, [], .null, []), (92, .if_icmp .le 10, [102], .null, []), (95, .iload 6, [], .null, []), (97, .istore 4, [], .null, []), (99, .iload 5, [], .null, []), (101, .istore 3, [], .null, []), (102, .nop, [102], .null, [])] := rfl
theorem b99_102 : am_b99 102 = [(102, .iinc 5 1, [], .int 1, []), (105, .goto (-69), [36], .null, [])] := rfl
theorem b99_108 : am_b99 108 = [(108, .iload 3, [], .null, []), (109, .ireturn, [0], .null, [])] := rfl
theorem pr_99 : am_pr 99 = (am_b99, 7, 0, 0) := rfl
theorem b100_0 : am_b100 0 = [(0, .iload 1, [], .null, []), (1, .aconst_null, [], .int 1, []), (2, .aconst_null, [], .int 60, []), (4, .invokestatic 71, [118, 3], .null, []), (7, .ifCond .ne 13, [20], .null, []), (10, .aload 0, [], .null, []), (11, .getfield 63, [10, 6], .null, []), (14, .aconst_null, [], .int (-1000000001), []), (16, .invokevirtual 76, [2, 2, 10], .null, []), (19, .ireturn, [0], .null, [])] := rfl
theorem b100_20 : am_b100 20 = [(20, .aconst_null, [], .int (-1), []), (21, .istore 2, [], .null, []), (22, .aconst_null, [], .int 59995, []), (24, .istore 3, [], .null, []), (25, .aconst_null, [], .int 0, []), (26, .istore 4, [], .null, []), (28, .nop, [28], .null, [])] := rfl
theorem b100_28 : am_b100 28 = [(28, .iload 4, [], .null, []), (30, .aconst_null, [], .int 30, []), (32, .if_icmp .ge 75, [107], .null, []), (35, .aload 0, [], .null, []), (36, .getfield 32, [10, 0], .null, []), (39, .iload 4, [], .null, []), (41, .invokevirtual 202, [2, 8, 45], .null, []), (44, .ifCond .eq 6, [50], .null, []), (47, .goto 54, [101], .null, [])] := rfl
theorem b100_50 : am_b100 50 = [(50, .aload 0, [], .null, []), (51, .getfield 36, [10, 1], .null, []), (54, .aload 0, [], .null, []), (55, .getfield 32, [10, 0], .null, []), (58, .invokevirtual 177, [2, 8, 41], .null, []), (61, .aload 0, [], .null, []), (62, .getfield 36, [10, 1], .null, []), (65, .iload 4, [], .null, []), (67, .aconst_null, [], .int 1, []), (68, .invokevirtual 84, [3, 8, 44], .null, []), (71, .aload 0, [], .null, []), (72, .getfield 36, [10, 1], .null, []), (75, .iload 1, [], .null, []), (76, .aconst_null, [], .int (-1), []), (77, .invokevirtual 174, [3, 8, 56], .null, []), (80, .aload 0, [], .null, []), (81, .getfield 36, [10, 1], .null, []), (84, .invokevirtual 115, [1, 8, 52], .null, []), (87, .istore 5, [], .null, []), (89, .iload 5, [], .null, []), (91, .iload 3, [], .null, []), (92, .if_icmp .ge 9, [101], .null, []), (95, .iload 5, [], .null, []), (97, .istore 3, [], .null, []), (98, .iload 4, [], .null, []), (100, .istore 2, [], .null, []), (101, .nop, [101], .null, [])] := rfl
theorem b100_101 : am_b100 101 = [(101, .iinc 4 1, [], .int 1, []), (104, .goto (-76), [28], .null, [])] := rfl
theorem b100_107 : am_b100 107 = [(107, .iload 2, [], .null, []), (108, .ifCond .ge 15, [123], .null, []), (111, .aload 0, [], .null, []), (112, .getfield 63, [10, 6], .null, []), (115, .aconst_null, [], .int (-1000000004), []), (117, .invokevirtual 76, [2, 2, 10], .null, []), (120, .goto 4, [124], .null, [])] := rfl
theorem b100_123 : am_b100 123 = [(123, .iload 2, [], .null, []), (124, .nop, [124], .null, [])] := rfl
theorem b100_124 : am_b100 124 = [(124, .ireturn, [0], .null, [])] := rfl
theorem pr_100 : am_pr 100 = (am_b100, 6, 0, 0) := rfl
theorem b101_0 : am_b101 0 = [(0, .iload 1, [], .null, []), (1, .invokestatic 92, [120, 1], .null, []), (4, .ifCond .ne 13, [17], .null, []), (7, .aload 0, [], .null, []), (8, .getfield 63, [10, 6], .null, []), (11, .aconst_null, [], .int (-1000000001), []), (13, .invokevirtual 76, [2, 2, 10], .null, []), (16, .ireturn, [0], .null, [])] := rfl
theorem b101_17 : am_b101 17 = [(17, .aconst_null, [], .int (-1), []), (18, .istore 2, [], .null, []), (19, .aconst_null, [], .int 61, []), (21, .istore 3, [], .null, []), (22, .aconst_null, [], .int 0, []), (23, .istore 4, [], .null, []), (25, .nop, [25], .null, [])] := rfl
theorem b101_25 : am_b101 25 = [(25, .iload 4, [], .null, []), (27, .aconst_null, [], .int 30, []), (29, .if_icmp .ge 55, [84], .null, []), (32, .aload 0, [], .null, []), (33, .getfield 36, [10, 1], .null, []), (36, .aload 0, [], .null, []), (37, .getfield 32, [10, 0], .null, []), (40, .invokevirtual 177, [2, 8, 41], .null, []), (43, .aload 0, [], .null, []), (44, .getfield 36, [10, 1], .null, []), (47, .iload 1, [], .null, []), (48, .iload 4, [], .null, []), (50, .invokevirtual 98, [3, 8, 46], .null, []), (53, .aload 0, [], .null, []), (54, .getfield 36, [10, 1], .null, []), (57, .iload 1, [], .null, []), (58, .iload 3, [], .null, []), (59, .aconst_null, [], .int 1, []), (60, .isub, [], .null, []), (61, .invokevirtual 184, [3, 8, 53], .null, []), (64, .istore 5, [], .null, []), (66, .iload 5, [], .null, []), (68, .iload 3, [], .null, []), (69, .if_icmp .ge 9, [78], .null, []), (72, .iload 5, [], .null, []), (74, .istore 3, [], .null, []), (75, .iload 4, [], .null, []), (77, .istore 2, [], .null, []), (78, .nop, [78], .null, [])] := rfl
theorem b101_78 : am_b101 78 = [(78, .iinc 4 1, [], .int 1, []), (81, .goto (-56), [25], .null, [])] := rfl
theorem b101_84 : am_b101 84 = [(84, .iload 2, [], .null, []), (85, .ifCond .ge 15, [100], .null, []), (88, .aload 0, [], .null, []), (89, .getfield 63, [10, 6], .null, []), (92, .aconst_null, [], .int (-1000000004), []), (94, .invokevirtual 76, [2, 2, 10], .null, []), (97, .goto 4, [101], .null, [])] := rfl
theorem b101_100 : am_b101 100 = [(100, .iload 2, [], .null, []), (101, .nop, [101], .null, [])] := rfl
theorem b101_101 : am_b101 101 = [(101, .ireturn, [0], .null, [])] := rfl
theorem pr_101 : am_pr 101 = (am_b101, 6, 0, 0) := rfl
theorem b102_0 : am_b102 0 = [(0, .iload 1, [], .null, []), (1, .aconst_null, [], .int 1, []), (2, .aconst_null, [], .int 60, []), (4, .invokestatic 71, [118, 3], .null, []), (7, .ifCond .ne 13, [20], .null, []), (10, .aload 0, [], .null, []), (11, .getfield 63, [10, 6], .null, []), (14, .aconst_null, [], .int (-1000000001), []), (16, .invokevirtual 76, [2, 2, 10], .null, []), (19, .ireturn, [0], .null, [])] := rfl
theorem b102_20 : am_b102 20 = [(20, .aconst_null, [], .int (-1), []), (21, .istore 2, [], .null, []), (22, .aconst_null, [], .int 59995, []), (24, .istore 3, [], .null, []), (25, .aconst_null, [], .int 0, []), (26, .istore 4, [], .null, []), (28, .nop, [28], .null, [])] := rfl
theorem b102_28 : am_b102 28 = [(28, .iload 4, [], .null, []), (30, .aload 0, [], .null, []), (31, .getfield 32, [10, 0], .null, []), (34, .getfield 206, [8, 3], .null, []), (37, .if_icmp .ge 51, [88], .null, []), (40, .aload 0, [], .null, []), (41, .getfield 36, [10, 1], .null, []), (44, .aload 0, [], .null, []), (45, .getfield 32, [10, 0], .null, []), (48, .invokevirtual 177, [2, 8, 41], .null, []), (51, .aload 0, [], .null, []), (52, .getfield 36, [10, 1], .null, []), (55, .iload 1, [], .null, []), (56, .iload 4, [], .null, []), (58, .invokevirtual 174, [3, 8, 56], .null, []), (61, .aload 0, [], .null, []), (62, .getfield 36, [10, 1], .null, []), (65, .invokevirtual 115, [1, 8, 52], .null, []), (68, .istore 5, [], .null, []), (70, .iload 5, [], .null, []), (72, .iload 3, [], .null, []), (73, .if_icmp .ge 9, [82], .null, []), (76, .iload 5, [], .null, []), (78, .istore 3, [], .null, []), (79, .iload 4, [], .null, []), (81, .istore 2, [], .null, []), (82, .nop, [82], .null, [])] := rfl
theorem b102_82 : am_b102 82 = [(82, .iinc 4 1, [], .int 1, []), (85, .goto (-57), [28], .null, [])] := rfl
theorem b102_88 : am_b102 88 = [(88, .iload 2, [], .null, []), (89, .ifCond .ge 15, [104], .null, []), (92, .aload 0, [], .null, []), (93, .getfield 63, [10, 6], .null, []), (96, .aconst_null, [], .int (-1000000004), []), (98, .invokevirtual 76, [2, 2, 10], .null, []), (101, .goto 4, [105], .null, [])] := rfl
theorem b102_104 : am_b102 104 = [(104, .iload 2, [], .null, []), (105, .nop, [105], .null, [])] := rfl
theorem b102_105 : am_b102 105 = [(105, .ireturn, [0], .null, [])] := rfl
theorem pr_102 : am_pr 102 = (am_b102, 6, 0, 0) := rfl
theorem b103_0 : am_b103 0 = [(0, .iload 1, [], .null, []), (1, .aconst_null, [], .int 0, []), (2, .aconst_null, [], .int 200, []), (5, .invokestatic 71, [118, 3], .null, []), (8, .ifCond .ne 13, [21], .null, []), (11, .aload 0, [], .null, []), (12, .getfield 63, [10, 6], .null, []), (15, .aconst_null, [], .int (-1000000001), []), (17, .invokevirtual 76, [2, 2, 10], .null, []), (20, .ireturn, [0], .null, [])] := rfl
theorem b103_21 : am_b103 21 = [(21, .aload 0, [], .null, []), (22, .getfield 36, [10, 1], .null, []), (25, .aload 0, [], .null, []), (26, .getfield 32, [10, 0], .null, []), (29, .invokevirtual 177, [2, 8, 41], .null, []), (32, .aload 0, [], .null, []), (33, .getfield 36, [10, 1], .null, []), (36, .iload 1, [], .null, []), (37, .aconst_null, [], .int (-1), []), (38, .invokevirtual 174, [3, 8, 56], .null, []), (41, .aconst_null, [], .int (-1), []), (42, .istore 2, [], .null, []), (43, .aconst_null, [], .int (-1), []), (44, .istore 3, [], .null, []), (45, .aconst_null, [], .int 0, []), (46, .istore 4, [], .null, []), (48, .nop, [48], .null, [])] := rfl
theorem b103_48 : am_b103 48 = [(48, .iload 4, [], .null, []), (50, .aload 0, [], .null, []), (51, .getfield 36, [10, 1], .null, []), (54, .getfield 206, [8, 3], .null, []), (57, .if_icmp .ge 37, [94], .null, []), (60, .aload 0, [], .null, []), (61, .getfield 36, [10, 1], .null, []), (64, .getfield 161, [8, 11], .null, []), (67, .iload 4, [], .null, []), (69, .iaload, [], .null, []), (70, .iload 3, [], .null, []), (71, .if_icmp .le 17, [88], .null, []), (74, .aload 0, [], .null, []), (75, .getfield 36, [10, 1], .null, []), (78, .getfield 161, [8, 11], .null, []), (81, .iload 4, [], .null, []), (83, .iaload, [], .null, []), (84, .istore 3, [], .null, []), (85, .iload 4, [], .null, []), (87, .istore 2, [], .null, []), (88, .nop, [88], .null, [])] := rfl
theorem b103_88 : am_b103 88 = [(88, .iinc 4 1, [], .int 1, []), (91, .goto (-43), [48], .null, [])] := rfl
theorem b103_94 : am_b103 94 = [(94, .iload 2, [], .null, []), (95, .ifCond .ge 15, [110], .null, []), (98, .aload 0, [], .null, []), (99, .getfield 63, [10, 6], .null, []), (102, .aconst_null, [], .int (-1000000004), []), (104, .invokevirtual 76, [2, 2, 10], .null, []), (107, .goto 4, [111], .null, [])] := rfl
theorem b103_110 : am_b103 110 = [(110, .iload 2, [], .null, []), (111, .nop, [111], .null, [])] := rfl
theorem b103_111 : am_b103 111 = [(111, .ireturn, [0], .null, [])] := rfl
theorem pr_103 : am_pr 103 = (am_b103, 5, 0, 0) := rfl
theorem b104_0 : am_b104 0 = [(0, .iload 2, [], .null, []), (1, .aconst_null, [], .int 1, []), (2, .aconst_null, [], .int 4, []), (3, .invokestatic 71, [118, 3], .null, []), (6, .ifCond .ne 13, [19], .null, []), (9, .aload 0, [], .null, []), (10, .getfield 63, [10, 6], .null, []), (13, .aconst_null, [], .int (-1000000001), []), (15, .invokevirtual 76, [2, 2, 10], .null, []), (18, .ireturn, [0], .null, [])] := rfl
theorem b104_19 : am_b104 19 = [(19, .aload 0, [], .null, []), (20, .getfield 49, [10, 4], .null, []), (23, .getfield 209, [9, 1], .null, []), (26, .iload 2, [], .null, []), (27, .iadd, [], .null, []), (28, .aconst_null, [], .int 120, []), (30, .if_icmp .le 13, [43], .null, []), (33, .aload 0, [], .null, []), (34, .getfield 63, [10, 6], .null, []), (37, .aconst_null, [], .int (-1000000002), []), (39, .invokevirtual 76, [2, 2, 10], .null, []), (42, .ireturn, [0], .null, [])] := rfl
theorem b104_43 : am_b104 43 = [(43, .aload 0, [], .null, []), (44, .getfield 49, [10, 4], .null, []), (47, .iload 1, [], .null, []), (48, .iload 2, [], .null, []), (49, .invokevirtual 212, [3, 9, 67], .null, []), (52, .aload 0, [], .null, []), (53, .getfield 49, [10, 4], .null, []), (56, .getfield 209, [9, 1], .null, []), (59, .ireturn, [0], .null, [])] := rfl
theorem pr_104 : am_pr 104 = (am_b104, 3, 0, 0) := rfl
theorem b105_0 : am_b105 0 = [(0, .aload 0, [], .null, []), (1, .getfield 49, [10, 4], .null, []), (4, .getfield 209, [9, 1], .null, []), (7, .istore 1, [], .null, []), (8, .aload 0, [], .null, []), (9, .getfield 49, [10, 4], .null, []), (12, .aconst_null, [], .int 0, []), (13, .putfield 209, [9, 1, 0], .null, []), (16, .iload 1, [], .null, []), (17, .ireturn, [0], .null, [])] := rfl
theorem pr_105 : am_pr 105 = (am_b105, 2, 0, 0) := rfl
theorem b106_0 : am_b106 0 = [(0, .aload 0, [], .null, []), (1, .getfield 36, [10, 1], .null, []), (4, .aload 0, [], .null, []), (5, .getfield 32, [10, 0], .null, []), (8, .invokevirtual 177, [2, 8, 41], .null, []), (11, .aload 0, [], .null, []), (12, .getfield 49, [10, 4], .null, []), (15, .aload 0, [], .null, []), (16, .getfield 36, [10, 1], .null, []), (19, .invokevirtual 215, [2, 9, 68], .null, []), (22, .istore 1, [], .null, []), (23, .aload 0, [], .null, []), (24, .getfield 49, [10, 4], .null, []), (27, .aconst_null, [], .int 0, []), (28, .putfield 209, [9, 1, 0], .null, []), (31, .iload 1, [], .null, []), (32, .ifCond .lt 14, [46], .null, []), (35, .aload 0, [], .null, []), (36, .getfield 32, [10, 0], .null, []), (39, .aload 0, [], .null, []), (40, .getfield 36, [10, 1], .null, []), (43, .invokevirtual 177, [2, 8, 41], .null, []), (46, .nop, [46], .null, [])] := rfl
theorem b106_46 : am_b106 46 = [(46, .iload 1, [], .null, []), (47, .ireturn, [0], .null, [])] := rfl
theorem pr_106 : am_pr 106 = (am_b106, 2, 0, 0) := rfl
theorem b107_0 : am_b107 0 = [(0, .iload 1, [], .null, []), (1, .invokestatic 219, [122, 1], .null, []), (4, .ifCond .eq 25, [29], .null, []), (7, .iload 2, [], .null, []), (8, .ifCond .eq 31, [39], .null, []), (11, .iload 2, [], .null, []), (12, .aconst_null, [], .int 8, []), (14, .if_icmp .eq 25, [39], .null, []), (17, .iload 2, [], .null, []), (18, .aconst_null, [], .int 16, []), (20, .if_icmp .eq 19, [39], .null, []), (23, .iload 2, [], .null, []), (24, .aconst_null, [], .int 64, []), (26, .if_icmp .eq 13, [39], .null, []), (29, .nop, [29], .null, [])] := rfl
theorem b107_29 : am_b107 29 = [(29, .aload 0, [], .null, []), (30, .getfield 63, [10, 6], .null, []), (33, .aconst_null, [], .int (-1000000001), []), (35, .invokevirtual 76, [2, 2, 10], .null, []), (38, .ireturn, [0], .null, [])] := rfl
theorem b107_39 : am_b107 39 = [(39, .iload 3, [], .null, []), (40, .ifCond .ge 13, [53], .null, []), (43, .aload 0, [], .null, []), (44, .getfield 63, [10, 6], .null, []), (47, .aconst_null, [], .int (-1000000007), []), (49, .invokevirtual 76, [2, 2, 10], .null, []), (52, .ireturn, [0], .null, [])] := rfl
theorem b107_53 : am_b107 53 = [(53, .iload 3, [], .null, []), (54, .aconst_null, [], .int 40, []), (56, .if_icmp .le 13, [69], .null, []), (59, .aload 0, [], .null, []), (60, .getfield 63, [10, 6], .null, []), (63, .aconst_null, [], .int (-1000000001), []), (65, .invokevirtual 76, [2, 2, 10], .null, []), (68, .ireturn, [0], .null, [])] := rfl
theorem b107_69 : am_b107 69 = [(69, .aload 0, [], .null, []), (70, .getfield 56, [10, 5], .null, []), (73, .iload 1, [], .null, []), (74, .aaload, [], .null, []), (75, .iload 2, [], .null, []), (76, .iload 2, [], .null, []), (77, .ifCond .ne 7, [84], .null, []), (80, .aconst_null, [], .int 0, []), (81, .goto 4, [85], .null, [])] := rfl
theorem b107_84 : am_b107 84 = [(84, .iload 3, [], .null, []), (85, .nop, [85], .null, [])] := rfl
theorem b107_85 : am_b107 85 = [(85, .invokevirtual 223, [3, 7, 37], .null, []), (88, .ireturn, [0], .null, [])] := rfl
theorem pr_107 : am_pr 107 = (am_b107, 4, 0, 0) := rfl
theorem b108_0 : am_b108 0 = [(0, .iload 1, [], .null, []), (1, .invokestatic 219, [122, 1], .null, []), (4, .ifCond .ne 14, [18], .null, []), (7, .aload 0, [], .null, []), (8, .getfield 63, [10, 6], .null, []), (11, .aconst_null, [], .int (-1000000001), []), (13, .invokevirtual 76, [2, 2, 10], .null, []), (16, .i2l, [], .null, []), (17, .lreturn, [], .null, [])] := rfl
theorem b108_18 : am_b108 18 = [(18, .aload 0, [], .null, []), (19, .getfield 56, [10, 5], .null, []), (22, .iload 1, [], .null, []), (23, .aaload, [], .null, []), (24, .astore 5, [], .null, []), (26, .aload 5, [], .null, []), (28, .invokevirtual 226, [1, 7, 36], .null, []), (31, .ifCond .eq 14, [45], .null, []), (34, .aload 0, [], .null, []), (35, .getfield 63, [10, 6], .null, []), (38, .aconst_null, [], .int (-1000000006), []), (40, .invokevirtual 76, [2, 2, 10], .null, []), (43, .i2l, [], .null, []), (44, .lreturn, [], .null, [])] := rfl
theorem b108_45 : am_b108 45 = [(45, .iload 2, [], .null, []), (46, .aconst_null, [], .int 0, []), (47, .aload 5, [], .null, []), (49, .getfield 230, [7, 1], .null, []), (52, .aconst_null, [], .int 1, []), (53, .isub, [], .null, []), (54, .invokestatic 71, [118, 3], .null, []), (57, .ifCond .ne 14, [71], .null, []), (60, .aload 0, [], .null, []), (61, .getfield 63, [10, 6], .null, []), (64, .aconst_null, [], .int (-1000000001), []), (66, .invokevirtual 76, [2, 2, 10], .null, []), (69, .i2l, [], .null, []), (70, .lreturn, [], .null, [])] := rfl
theorem b108_71 : am_b108 71 = [(71, .aload 5, [], .null, []), (73, .getfield 233, [7, 2], .null, []), (76, .iload 2, [], .null, []), (77, .laload, [], .null, []), (78, .lstore 6, [], .null, []), (80, .aload 5, [], .null, []), (82, .iload 2, [], .null, []), (83, .lload 3, [], .null, []), (84, .invokevirtual 237, [3, 7, 39], .null, []), (87, .lload 6, [], .null, []), (89, .lreturn, [], .null, [])] := rfl
theorem pr_108 : am_pr 108 = (am_b108, 8, 0, 0) := rfl
theorem b109_0 : am_b109 0 = [(0, .iload 1, [], .null, []), (1, .invokestatic 219, [122, 1], .null, []), (4, .ifCond .eq 10, [14], .null, []), (7, .iload 3, [], .null, []), (8, .invokestatic 219, [122, 1], .null, []), (11, .ifCond .ne 13, [24], .null, []), (14, .nop, [14], .null, [])] := rfl
theorem b109_14 : am_b109 14 = [(14, .aload 0, [], .null, []), (15, .getfield 63, [10, 6], .null, []), (18, .aconst_null, [], .int (-1000000001), []), (20, .invokevirtual 76, [2, 2, 10], .null, []), (23, .ireturn, [0], .null, [])] := rfl
theorem b109_24 : am_b109 24 = [(24, .aload 0, [], .null, []), (25, .getfield 56, [10, 5], .null, []), (28, .iload 1, [], .null, []), (29, .aaload, [], .null, []), (30, .astore 6, [], .null, []), (32, .aload 0, [], .null, []), (33, .getfield 56, [10, 5], .null, []), (36, .iload 3, [], .null, []), (37, .aaload, [], .null, []), (38, .astore 7, [], .null, []), (40, .aload 6, [], .null, []), (42, .invokevirtual 226, [1, 7, 36], .null, []), (45, .ifCond .ne 11, [56], .null, []), (48, .aload 7, [], .null, []), (50, .invokevirtual 226, [1, 7, 36], .null, []), (53, .ifCond .eq 13, [66], .null, []), (56, .nop, [56], .null, [])] := rfl
theorem b109_56 : am_b109 56 = [(56, .aload 0, [], .null, []), (57, .getfield 63, [10, 6], .null, []), (60, .aconst_null, [], .int (-1000000006), []), (62, .invokevirtual 76, [2, 2, 10], .null, []), (65, .ireturn, [0], .null, [])] := rfl
theorem b109_66 : am_b109 66 = [(66, .aload 6, [], .null, []), (68, .getfield 241, [7, 0], .null, []), (71, .aload 7, [], .null, []), (73, .getfield 241, [7, 0], .null, []), (76, .if_icmp .eq 13, [89], .null, []), (79, .aload 0, [], .null, []), (80, .getfield 63, [10, 6], .null, []), (83, .aconst_null, [], .int (-1000000003), []), (85, .invokevirtual 76, [2, 2, 10], .null, []), (88, .ireturn, [0], .null, [])] := rfl
theorem b109_89 : am_b109 89 = [(89, .aload 6, [], .null, []), (91, .iload 2, [], .null, []), (92, .iload 5, [], .null, []), (94, .invokevirtual 244, [3, 7, 38], .null, []), (97, .ifCond .eq 15, [112], .null, []), (100, .aload 7, [], .null, []), (102, .iload 4, [], .null, []), (104, .iload 5, [], .null, []), (106, .invokevirtual 244, [3, 7, 38], .null, []), (109, .ifCond .ne 13, [122], .null, []), (112, .nop, [112], .null, [])] := rfl
theorem b109_112 : am_b109 112 = [(112, .aload 0, [], .null, []), (113, .getfield 63, [10, 6], .null, []), (116, .aconst_null, [], .int (-1000000001), []), (118, .invokevirtual 76, [2, 2, 10], .null, []), (121, .ireturn, [0], .null, [])] := rfl
theorem b109_122 : am_b109 122 = [(122, .aload 6, [], .null, []), (124, .getfield 233, [7, 2], .null, []), (127, .iload 2, [], .null, []), (128, .aload 7, [], .null, []), (130, .getfield 233, [7, 2], .null, []), (133, .iload 4, [], .null, []), (135, .iload 5, [], .null, []), (137, .invokedynamic 248, [], .null, []), (140, .iload 5, [], .null, []), (142, .ireturn, [0], .null, [])] := rfl
theorem pr_109 : am_pr 109 = (am_b109, 8, 0, 0) := rfl
theorem b110_0 : am_b110 0 = [(0, .aload 0, [], .null, []), (1, .iload 1, [], .null, []), (2, .invokevirtual 254, [2, 10, 124], .null, []), (5, .istore 2, [], .null, []), (6, .iload 2, [], .null, []), (7, .ifCond .eq 12, [19], .null, []), (10, .aload 0, [], .null, []), (11, .getfield 63, [10, 6], .null, []), (14, .iload 2, [], .null, []), (15, .invokevirtual 76, [2, 2, 10], .null, []), (18, .ireturn, [0], .null, [])] := rfl
theorem b110_19 : am_b110 19 = [(19, .aload 0, [], .null, []), (20, .getfield 56, [10, 5], .null, []), (23, .iload 1, [], .null, []), (24, .aaload, [], .null, []), (25, .astore 3, [], .null, []), (26, .aconst_null, [], .int 0, []), (27, .istore 4, [], .null, []), (29, .aconst_null, [], .int 0, []), (30, .istore 5, [], .null, []), (32, .nop, [32], .null, [])] := rfl
theorem b110_32 : am_b110 32 = [(32, .iload 5, [], .null, []), (34, .aload 3, [], .null, []), (35, .getfield 230, [7, 1], .null, []), (38, .if_icmp .ge 54, [92], .null, []), (41, .iload 5, [], .null, []), (43, .aconst_null, [], .int 30, []), (45, .if_icmp .ge 47, [92], .null, []), (48, .aload 3, [], .null, []), (49, .getfield 233, [7, 2], .null, []), (52, .iload 5, [], .null, []), (54, .laload, [], .null, []), (55, .lstore 6, [], .null, []), (57, .lload 6, [], .null, []), (59, .aconst_null, [], .long 0, []), (60, .lcmp, [], .null, []), (61, .ifCond .eq 10, [71], .null, []), (64, .lload 6, [], .null, []), (66, .aconst_null, [], .long 1, []), (67, .lcmp, [], .null, []), (68, .ifCond .ne 18, [86], .null, []), (71, .nop, [71], .null, [])] := rfl
theorem b110_71 : am_b110 71 = [(71, .aload 0, [], .null, []), (72, .getfield 32, [10, 0], .null, []), (75, .iload 5, [], .null, []), (77, .lload 6, [], .null, []), (79, .l2i, [], .null, []), (80, .invokevirtual 84, [3, 8, 44], .null, []), (83, .iinc 4 1, [], .int 1, []), (86, .nop, [86], .null, [])] := rfl
theorem b110_86 : am_b110 86 = [(86, .iinc 5 1, [], .int 1, []), (89, .goto (-57), [32], .null, [])] := rfl
theorem b110_92 : am_b110 92 = [(92, .iload 4, [], .null, []), (94, .ireturn, [0], .null, [])] := rfl
theorem pr_110 : am_pr 110 = (am_b110, 8, 0, 0) := rfl
theorem b111_0 : am_b111 0 = [(0, .aload 0, [], .null, []), (1, .iload 1, [], .null, []), (2, .invokevirtual 254, [2, 10, 124], .null, []), (5, .istore 3, [], .null, []), (6, .iload 3, [], .null, []), (7, .ifCond .eq 12, [19], .null, []), (10, .aload 0, [], .null, []), (11, .getfield 63, [10, 6], .null, []), (14, .iload 3, [], .null, []), (15, .invokevirtual 76, [2, 2, 10], .null, []), (18, .ireturn, [0], .null, [])] := rfl
theorem b111_19 : am_b111 19 = [(19, .aload 0, [], .null, []), (20, .iload 2, [], .null, []), (21, .invokevirtual 130, [2, 10, 123], .null, []), (24, .ifCond .ne 13, [37], .null, []), (27, .aload 0, [], .null, []), (28, .getfield 63, [10, 6], .null, []), (31, .aconst_null, [], .int (-1000000001), []), (33, .invokevirtual 76, [2, 2, 10], .null, []), (36, .ireturn, [0], .null, [])] := rfl
theorem b111_37 : am_b111 37 = [(37, .aload 0, [], .null, []), (38, .getfield 56, [10, 5], .null, []), (41, .iload 1, [], .null, []), (42, .aaload, [], .null, []), (43, .astore 4, [], .null, []), (45, .aload 0, [], .null, []), (46, .getfield 36, [10, 1], .null, []), (49, .aload 0, [], .null, []), (50, .getfield 32, [10, 0], .null, []), (53, .invokevirtual 177, [2, 8, 41], .null, []), (56, .aconst_null, [], .int 0, []), (57, .istore 5, [], .null, []), (59, .nop, [59], .null, [])] := rfl
theorem b111_59 : am_b111 59 = [(59, .iload 5, [], .null, []), (61, .aload 4, [], .null, []), (63, .getfield 230, [7, 1], .null, []), (66, .if_icmp .ge 34, [100], .null, []), (69, .aload 4, [], .null, []), (71, .iload 5, [], .null, []), (73, .aload 0, [], .null, []), (74, .getfield 36, [10, 1], .null, []), (77, .getfield 149, [8, 7], .null, []), (80, .iload 2, [], .null, []), (81, .iaload, [], .null, []), (82, .i2l, [], .null, []), (83, .invokevirtual 237, [3, 7, 39], .null, []), (86, .aload 0, [], .null, []), (87, .getfield 36, [10, 1], .null, []), (90, .aconst_null, [], .int (-1), []), (91, .invokevirtual 257, [2, 8, 57], .null, []), (94, .iinc 5 1, [], .int 1, []), (97, .goto (-38), [59], .null, [])] := rfl
theorem b111_100 : am_b111 100 = [(100, .aload 4, [], .null, []), (102, .getfield 230, [7, 1], .null, []), (105, .ireturn, [0], .null, [])] := rfl
theorem pr_111 : am_pr 111 = (am_b111, 6, 0, 0) := rfl
theorem b112_0 : am_b112 0 = [(0, .aload 0, [], .null, []), (1, .iload 1, [], .null, []), (2, .invokevirtual 254, [2, 10, 124], .null, []), (5, .istore 3, [], .null, []), (6, .iload 3, [], .null, []), (7, .ifCond .eq 12, [19], .null, []), (10, .aload 0, [], .null, []), (11, .getfield 63, [10, 6], .null, []), (14, .iload 3, [], .null, []), (15, .invokevirtual 76, [2, 2, 10], .null, []), (18, .ireturn, [0], .null, [])] := rfl
theorem b112_19 : am_b112 19 = [(19, .aload 0, [], .null, []), (20, .iload 2, [], .null, []), (21, .invokevirtual 130, [2, 10, 123], .null, []), (24, .ifCond .ne 13, [37], .null, []), (27, .aload 0, [], .null, []), (28, .getfield 63, [10, 6], .null, []), (31, .aconst_null, [], .int (-1000000001), []), (33, .invokevirtual 76, [2, 2, 10], .null, []), (36, .ireturn, [0], .null, [])] := rfl
theorem b112_37 : am_b112 37 = [(37, .aconst_null, [], .int 0, []), (38, .istore 4, [], .null, []), (40, .aconst_null, [], .int 0, []), (41, .istore 5, [], .null, []), (43, .nop, [43], .null, [])] := rfl
theorem b112_43 : am_b112 43 = [(43, .iload 5, [], .null, []), (45, .aconst_null, [], .int 6, []), (47, .if_icmp .ge 75, [122], .null, []), (50, .aconst_null, [], .int 0, []), (51, .istore 6, [], .null, []), (53, .nop, [53], .null, [])] := rfl
theorem b112_53 : am_b112 53 = [(53, .iload 6, [], .null, []), (55, .aconst_null, [], .int 30, []), (57, .if_icmp .ge 59, [116], .null, []), (60, .aload 0, [], .null, []), (61, .getfield 36, [10, 1], .null, []), (64, .aload 0, [], .null, []), (65, .getfield 32, [10, 0], .null, []), (68, .invokevirtual 177, [2, 8, 41], .null, []), (71, .aload 0, [], .null, []), (72, .getfield 36, [10, 1], .null, []), (75, .getfield 164, [8, 6], .null, []), (78, .iload 2, [], .null, []), (79, .iload 5, [], .null, []), (81, .iastore, [], .null, []), (82, .aload 0, [], .null, []), (83, .getfield 36, [10, 1], .null, []), (86, .getfield 155, [8, 9], .null, []), (89, .iload 2, [], .null, []), (90, .iload 6, [], .null, []), (92, .iastore, [], .null, []), (93, .aload 0, [], .null, []), (94, .iload 2, [], .null, []), (95, .aload 0, [], .null, []), (96, .getfield 56, [10, 5], .null, []), (99, .iload 1, [], .null, []), (100, .aaload, [], .null, []), (101, .invokevirtual 261, [3, 10, 130], .null, []), (104, .ifCond .eq 6, [110], .null, []), (107, .iinc 4 1, [], .int 1, []), (110, .nop, [110], .null, [])] := rfl
theorem b112_110 : am_b112 110 = [(110, .iinc 6 1, [], .int 1, []), (113, .goto (-60), [53], .null, [])] := rfl
theorem b112_116 : am_b112 116 = [(116, .iinc 5 1, [], .int 1, []), (119, .goto (-76), [43], .null, [])] := rfl
theorem b112_122 : am_b112 122 = [(122, .iload 4, [], .null, []), (124, .ireturn, [0], .null, [])] := rfl
theorem pr_112 : am_pr 112 = (am_b112, 7, 0, 0) := rfl
theorem b113_0 : am_b113 0 = [(0, .aload 0, [], .null, []), (1, .getfield 39, [10, 2], .null, []), (4, .aload 0, [], .null, []), (5, .getfield 32, [10, 0], .null, []), (8, .invokevirtual 177, [2, 8, 41], .null, []), (11, .aload 0, [], .null, []), (12, .aconst_null, [], .int 1, []), (13, .putfield 42, [10, 3, 1], .null, []), (16, .aconst_null, [], .int 1, []), (17, .ireturn, [0], .null, [])] := rfl
theorem pr_113 : am_pr 113 = (am_b113, 1, 0, 0) := rfl
theorem b114_0 : am_b114 0 = [(0, .aload 0, [], .null, []), (1, .getfield 42, [10, 3], .null, []), (4, .ifCond .ne 13, [17], .null, []), (7, .aload 0, [], .null, []), (8, .getfield 63, [10, 6], .null, []), (11, .aconst_null, [], .int (-1000000004), []), (13, .invokevirtual 76, [2, 2, 10], .null, []), (16, .ireturn, [0], .null, [])] := rfl
theorem b114_17 : am_b114 17 = [(17, .aload 0, [], .null, []), (18, .getfield 32, [10, 0], .null, []), (21, .aload 0, [], .null, []), (22, .getfield 39, [10, 2], .null, []), (25, .invokevirtual 177, [2, 8, 41], .null, []), (28, .aload 0, [], .null, []), (29, .getfield 32, [10, 0], .null, []), (32, .getfield 206, [8, 3], .null, []), (35, .ireturn, [0], .null, [])] := rfl
theorem pr_114 : am_pr 114 = (am_b114, 1, 0, 0) := rfl
theorem b115_0 : am_b115 0 = [(0, .aload 0, [], .null, []), (1, .getfield 42, [10, 3], .null, []), (4, .ifCond .eq 7, [11], .null, []), (7, .aconst_null, [], .int 1, []), (8, .goto 4, [12], .null, [])] := rfl
theorem b115_11 : am_b115 11 = [(11, .aconst_null, [], .int 0, []), (12, .nop, [12], .null, [])] := rfl
theorem b115_12 : am_b115 12 = [(12, .istore 1, [], .null, []), (13, .aload 0, [], .null, []), (14, .aconst_null, [], .int 0, []), (15, .putfield 42, [10, 3, 1], .null, []), (18, .iload 1, [], .null, []), (19, .ireturn, [0], .null, [])] := rfl
theorem pr_115 : am_pr 115 = (am_b115, 2, 0, 0) := rfl
theorem b116_0 : am_b116 0 = [(0, .iload 1, [], .null, []), (1, .tableswitch 66 0 3 #[31, 39, 47, 58], [67], .null, [(0, 32), (1, 40), (2, 48), (3, 59)])] := rfl
theorem b116_32 : am_b116 32 = [(32, .aload 0, [], .null, []), (33, .getfield 32, [10, 0], .null, []), (36, .getfield 206, [8, 3], .null, []), (39, .ireturn, [0], .null, [])] := rfl
theorem b116_40 : am_b116 40 = [(40, .aload 0, [], .null, []), (41, .getfield 49, [10, 4], .null, []), (44, .getfield 209, [9, 1], .null, []), (47, .ireturn, [0], .null, [])] := rfl
theorem b116_48 : am_b116 48 = [(48, .aload 0, [], .null, []), (49, .getfield 32, [10, 0], .null, []), (52, .getfield 105, [8, 2], .null, []), (55, .invokestatic 196, [231, 1], .null, []), (58, .ireturn, [0], .null, [])] := rfl
theorem b116_59 : am_b116 59 = [(59, .aload 0, [], .null, []), (60, .getfield 32, [10, 0], .null, []), (63, .invokevirtual 108, [1, 8, 51], .null, []), (66, .ireturn, [0], .null, [])] := rfl
theorem b116_67 : am_b116 67 = [(67, .aload 0, [], .null, []), (68, .getfield 63, [10, 6], .null, []), (71, .aconst_null, [], .int (-1000000001), []), (73, .invokevirtual 76, [2, 2, 10], .null, []), (76, .ireturn, [0], .null, [])] := rfl
theorem pr_116 : am_pr 116 = (am_b116, 2, 0, 0) := rfl
theorem b117_0 : am_b117 0 = [(0, .iload 1, [], .null, []), (1, .aconst_null, [], .int (-1), []), (2, .aconst_null, [], .int 6, []), (4, .invokestatic 71, [118, 3], .null, []), (7, .ifCond .ne 13, [20], .null, []), (10, .aload 0, [], .null, []), (11, .getfield 63, [10, 6], .null, []), (14, .aconst_null, [], .int (-1000000001), []), (16, .invokevirtual 76, [2, 2, 10], .null, []), (19, .ireturn, [0], .null, [])] := rfl
theorem b117_20 : am_b117 20 = [(20, .iload 1, [], .null, []), (21, .ifCond .ge 13, [34], .null, []), (24, .aload 0, [], .null, []), (25, .getfield 63, [10, 6], .null, []), (28, .invokevirtual 265, [1, 2, 11], .null, []), (31, .goto 12, [43], .null, [])] := rfl
theorem b117_34 : am_b117 34 = [(34, .aload 0, [], .null, []), (35, .getfield 63, [10, 6], .null, []), (38, .getfield 268, [2, 0], .null, []), (41, .iload 1, [], .null, []), (42, .iaload, [], .null, []), (43, .nop, [43], .null, [])] := rfl
theorem b117_43 : am_b117 43 = [(43, .ireturn, [0], .null, [])] := rfl
theorem pr_117 : am_pr 117 = (am_b117, 2, 0, 0) := rfl
theorem b118_0 : am_b118 0 = [(0, .iload 0, [], .null, []), (1, .iload 1, [], .null, []), (2, .if_icmp .lt 12, [14], .null, []), (5, .iload 0, [], .null, []), (6, .iload 2, [], .null, []), (7, .if_icmp .gt 7, [14], .null, []), (10, .aconst_null, [], .int 1, []), (11, .goto 4, [15], .null, [])] := rfl
theorem b118_14 : am_b118 14 = [(14, .aconst_null, [], .int 0, []), (15, .nop, [15], .null, [])] := rfl
theorem b118_15 : am_b118 15 = [(15, .ireturn, [1], .null, [])] := rfl
theorem pr_118 : am_pr 118 = (am_b118, 3, 0, 0) := rfl
theorem b119_0 : am_b119 0 = [(0, .iload 0, [], .null, []), (1, .aconst_null, [], .int 0, []), (2, .aconst_null, [], .int 29, []), (4, .invokestatic 71, [118, 3], .null, []), (7, .ireturn, [1], .null, [])] := rfl
theorem pr_119 : am_pr 119 = (am_b119, 1, 0, 0) := rfl
theorem b120_0 : am_b120 0 = [(0, .iload 0, [], .null, []), (1, .aconst_null, [], .int 0, []), (2, .aconst_null, [], .int 5, []), (3, .invokestatic 71, [118, 3], .null, []), (6, .ireturn, [1], .null, [])] := rfl
theorem pr_120 : am_pr 120 = (am_b120, 1, 0, 0) := rfl
theorem b121_0 : am_b121 0 = [(0, .iload 0, [], .null, []), (1, .aconst_null, [], .int 0, []), (2, .aconst_null, [], .int 5, []), (3, .invokestatic 71, [118, 3], .null, []), (6, .ireturn, [1], .null, [])] := rfl
theorem pr_121 : am_pr 121 = (am_b121, 1, 0, 0) := rfl
theorem b122_0 : am_b122 0 = [(0, .iload 0, [], .null, []), (1, .aconst_null, [], .int 0, []), (2, .aconst_null, [], .int 3, []), (3, .invokestatic 71, [118, 3], .null, []), (6, .ireturn, [1], .null, [])] := rfl
theorem pr_122 : am_pr 122 = (am_b122, 1, 0, 0) := rfl
theorem b123_0 : am_b123 0 = [(0, .iload 1, [], .null, []), (1, .aconst_null, [], .int 0, []), (2, .aload 0, [], .null, []), (3, .getfield 32, [10, 0], .null, []), (6, .getfield 206, [8, 3], .null, []), (9, .aconst_null, [], .int 1, []), (10, .isub, [], .null, []), (11, .invokestatic 71, [118, 3], .null, []), (14, .ireturn, [1], .null, [])] := rfl
theorem pr_123 : am_pr 123 = (am_b123, 2, 0, 0) := rfl
theorem b124_0 : am_b124 0 = [(0, .iload 1, [], .null, []), (1, .invokestatic 219, [122, 1], .null, []), (4, .ifCond .ne 6, [10], .null, []), (7, .aconst_null, [], .int (-1000000001), []), (9, .ireturn, [0], .null, [])] := rfl
theorem b124_10 : am_b124 10 = [(10, .aload 0, [], .null, []), (11, .getfield 56, [10, 5], .null, []), (14, .iload 1, [], .null, []), (15, .aaload, [], .null, []), (16, .invokevirtual 226, [1, 7, 36], .null, []), (19, .ifCond .eq 8, [27], .null, []), (22, .aconst_null, [], .int (-1000000006), []), (24, .goto 4, [28], .null, [])] := rfl
theorem b124_27 : am_b124 27 = [(27, .aconst_null, [], .int 0, []), (28, .nop, [28], .null, [])] := rfl
theorem b124_28 : am_b124 28 = [(28, .ireturn, [0], .null, [])] := rfl
theorem pr_124 : am_pr 124 = (am_b124, 2, 0, 0) := rfl
theorem b125_0 : am_b125 0 = [(0, .iload 0, [], .null, []), (1, .lookupswitch 33 #[(4, 27), (5, 29)], [34], .null, [(4, 28), (5, 30)])] := rfl
theorem b125_28 : am_b125 28 = [(28, .aconst_null, [], .int 1, []), (29, .ireturn, [0], .null, [])] := rfl
theorem b125_30 : am_b125 30 = [(30, .aconst_null, [], .int 9999, []), (33, .ireturn, [0], .null, [])] := rfl
theorem b125_34 : am_b125 34 = [(34, .aconst_null, [], .int 29, []), (36, .ireturn, [0], .null, [])] := rfl
theorem pr_125 : am_pr 125 = (am_b125, 1, 0, 0) := rfl
theorem b126_0 : am_b126 0 = [(0, .iload 1, [], .null, []), (1, .tableswitch 60 1 5 #[35, 40, 45, 50, 55], [61], .null, [(1, 36), (2, 41), (3, 46), (4, 51), (5, 56)])] := rfl
theorem b126_36 : am_b126 36 = [(36, .aload 0, [], .null, []), (37, .instanceof 12, [1, 4], .null, []), (40, .ireturn, [1], .null, [])] := rfl
theorem b126_41 : am_b126 41 = [(41, .aload 0, [], .null, []), (42, .instanceof 15, [0, 3], .null, []), (45, .ireturn, [1], .null, [])] := rfl
theorem b126_46 : am_b126 46 = [(46, .aload 0, [], .null, []), (47, .instanceof 18, [6], .null, []), (50, .ireturn, [1], .null, [])] := rfl
theorem b126_51 : am_b126 51 = [(51, .aload 0, [], .null, []), (52, .instanceof 21, [4], .null, []), (55, .ireturn, [1], .null, [])] := rfl
theorem b126_56 : am_b126 56 = [(56, .aload 0, [], .null, []), (57, .instanceof 24, [3], .null, []), (60, .ireturn, [1], .null, [])] := rfl
theorem b126_61 : am_b126 61 = [(61, .aconst_null, [], .int 1, []), (62, .ireturn, [1], .null, [])] := rfl
theorem pr_126 : am_pr 126 = (am_b126, 2, 0, 0) := rfl
theorem b127_0 : am_b127 0 = [(0, .iload 2, [], .null, []), (1, .tableswitch 63 0 2 #[27, 44, 54], [64], .null, [(0, 28), (1, 45), (2, 55)])] := rfl
theorem b127_28 : am_b127 28 = [(28, .aload 0, [], .null, []), (29, .getfield 32, [10, 0], .null, []), (32, .iload 1, [], .null, []), (33, .invokevirtual 202, [2, 8, 45], .null, []), (36, .ifCond .eq 7, [43], .null, []), (39, .aconst_null, [], .int 1, []), (40, .goto 4, [44], .null, [])] := rfl
theorem b127_43 : am_b127 43 = [(43, .aconst_null, [], .int 0, []), (44, .nop, [44], .null, [])] := rfl
theorem b127_44 : am_b127 44 = [(44, .ireturn, [0], .null, [])] := rfl
theorem b127_45 : am_b127 45 = [(45, .aload 0, [], .null, []), (46, .getfield 32, [10, 0], .null, []), (49, .getfield 88, [8, 4], .null, []), (52, .iload 1, [], .null, []), (53, .iaload, [], .null, []), (54, .ireturn, [0], .null, [])] := rfl
theorem b127_55 : am_b127 55 = [(55, .aload 0, [], .null, []), (56, .getfield 32, [10, 0], .null, []), (59, .iload 1, [], .null, []), (60, .invokevirtual 271, [2, 8, 49], .null, []), (63, .ireturn, [0], .null, [])] := rfl
theorem b127_64 : am_b127 64 = [(64, .aload 0, [], .null, []), (65, .getfield 32, [10, 0], .null, []), (68, .iload 1, [], .null, []), (69, .invokevirtual 112, [2, 8, 50], .null, []), (72, .ireturn, [0], .null, [])] := rfl
theorem pr_127 : am_pr 127 = (am_b127, 3, 0, 0) := rfl
theorem b128_0 : am_b128 0 = [(0, .iload 2, [], .null, []), (1, .tableswitch 144 0 8 #[51, 61, 71, 81, 91, 101, 111, 121, 130], [145], .null, [(0, 52), (1, 62), (2, 72), (3, 82), (4, 92), (5, 102), (6, 112), (7, 122), (8, 131)])] := rfl
theorem b128_52 : am_b128 52 = [(52, .aload 0, [], .null, []), (53, .getfield 32, [10, 0], .null, []), (56, .getfield 164, [8, 6], .null, []), (59, .iload 1, [], .null, []), (60, .iaload, [], .null, []), (61, .ireturn, [0], .null, [])] := rfl
theorem b128_62 : am_b128 62 = [(62, .aload 0, [], .null, []), (63, .getfield 32, [10, 0], .null, []), (66, .getfield 149, [8, 7], .null, []), (69, .iload 1, [], .null, []), (70, .iaload, [], .null, []), (71, .ireturn, [0], .null, [])] := rfl
theorem b128_72 : am_b128 72 = [(72, .aload 0, [], .null, []), (73, .getfield 32, [10, 0], .null, []), (76, .getfield 152, [8, 8], .null, []), (79, .iload 1, [], .null, []), (80, .iaload, [], .null, []), (81, .ireturn, [0], .null, [])] := rfl
theorem b128_82 : am_b128 82 = [(82, .aload 0, [], .null, []), (83, .getfield 32, [10, 0], .null, []), (86, .getfield 155, [8, 9], .null, []), (89, .iload 1, [], .null, []), (90, .iaload, [], .null, []), (91, .ireturn, [0], .null, [])] := rfl
theorem b128_92 : am_b128 92 = [(92, .aload 0, [], .null, []), (93, .getfield 32, [10, 0], .null, []), (96, .getfield 158, [8, 10], .null, []), (99, .iload 1, [], .null, []), (100, .iaload, [], .null, []), (101, .ireturn, [0], .null, [])] := rfl
theorem b128_102 : am_b128 102 = [(102, .aload 0, [], .null, []), (103, .getfield 32, [10, 0], .null, []), (106, .getfield 161, [8, 11], .null, []), (109, .iload 1, [], .null, []), (110, .iaload, [], .null, []), (111, .ireturn, [0], .null, [])] := rfl
theorem b128_112 : am_b128 112 = [(112, .aload 0, [], .null, []), (113, .getfield 32, [10, 0], .null, []), (116, .getfield 181, [8, 12], .null, []), (119, .iload 1, [], .null, []), (120, .iaload, [], .null, []), (121, .ireturn, [0], .null, [])] := rfl
theorem b128_122 : am_b128 122 = [(122, .aload 0, [], .null, []), (123, .getfield 32, [10, 0], .null, []), (126, .iload 1, [], .null, []), (127, .invokevirtual 274, [2, 8, 48], .null, []), (130, .ireturn, [0], .null, [])] := rfl
theorem b128_131 : am_b128 131 = [(131, .aconst_null, [], .int 1, []), (132, .aload 0, [], .null, []), (133, .getfield 32, [10, 0], .null, []), (136, .iload 1, [], .null, []), (137, .invokevirtual 136, [2, 8, 47], .null, []), (140, .invokevirtual 277, [1, 5, 24, 0, 24, 1, 6, 3, 24, 4, 6, 6, 31], .null, []), (143, .iadd, [], .null, []), (144, .ireturn, [0], .null, [])] := rfl
theorem b128_145 : am_b128 145 = [(145, .aload 0, [], .null, []), (146, .getfield 32, [10, 0], .null, []), (149, .iload 1, [], .null, []), (150, .invokevirtual 136, [2, 8, 47], .null, []), (153, .aload 0, [], .null, []), (154, .getfield 32, [10, 0], .null, []), (157, .getfield 149, [8, 7], .null, []), (160, .iload 1, [], .null, []), (161, .iaload, [], .null, []), (162, .aconst_null, [], .int 6, []), (164, .idiv, [], .null, []), (165, .invokevirtual 280, [2, 5, 25, 0, 25, 1, 7, 3, 25, 4, 19, 6, 32], .null, []), (168, .ifCond .eq 7, [175], .null, []), (171, .aconst_null, [], .int 1, []), (172, .goto 4, [176], .null, [])] := rfl
theorem b128_175 : am_b128 175 = [(175, .aconst_null, [], .int 0, []), (176, .nop, [176], .null, [])] := rfl
theorem b128_176 : am_b128 176 = [(176, .ireturn, [0], .null, [])] := rfl
theorem pr_128 : am_pr 128 = (am_b128, 3, 0, 0) := rfl
theorem b129_0 : am_b129 0 = [(0, .iload 1, [], .null, []), (1, .aconst_null, [], .int 200, []), (4, .if_icmp .le 15, [19], .null, []), (7, .aload 0, [], .null, []), (8, .getfield 63, [10, 6], .null, []), (11, .aconst_null, [], .int (-1000000004), []), (13, .invokevirtual 76, [2, 2, 10], .null, []), (16, .goto 4, [20], .null, [])] := rfl
theorem b129_19 : am_b129 19 = [(19, .iload 1, [], .null, []), (20, .nop, [20], .null, [])] := rfl
theorem b129_20 : am_b129 20 = [(20, .ireturn, [0], .null, [])] := rfl
theorem pr_129 : am_pr 129 = (am_b129, 2, 0, 0) := rfl
theorem b130_0 : am_b130 0 = [(0, .aconst_null, [], .int 0, []), (1, .istore 3, [], .null, []), (2, .nop, [2], .null, [])] := rfl
theorem b130_2 : am_b130 2 = [(2, .iload 3, [], .null, []), (3, .aload 2, [], .null, []), (4, .getfield 230, [7, 1], .null, []), (7, .if_icmp .ge 39, [46], .null, []), (10, .aload 2, [], .null, []), (11, .getfield 233, [7, 2], .null, []), (14, .iload 3, [], .null, []), (15, .laload, [], .null, []), (16, .aload 0, [], .null, []), (17, .getfield 36, [10, 1], .null, []), (20, .getfield 149, [8, 7], .null, []), (23, .iload 1, [], .null, []), (24, .iaload, [], .null, []), (25, .i2l, [], .null, []), (26, .lcmp, [], .null, []), (27, .ifCond .eq 5, [32], .null, []), (30, .aconst_null, [], .int 0, []), (31, .ireturn, [1], .null, [])] := rfl
theorem b130_32 : am_b130 32 = [(32, .aload 0, [], .null, []), (33, .getfield 36, [10, 1], .null, []), (36, .aconst_null, [], .int (-1), []), (37, .invokevirtual 257, [2, 8, 57], .null, []), (40, .iinc 3 1, [], .int 1, []), (43, .goto (-41), [2], .null, [])] := rfl
theorem b130_46 : am_b130 46 = [(46, .aconst_null, [], .int 1, []), (47, .ireturn, [1], .null, [])] := rfl
theorem pr_130 : am_pr 130 = (am_b130, 4, 0, 0) := rfl
theorem b131_0 : am_b131 0 = [(0, .aload 0, [], .null, []), (1, .monitorexit, [1], .null, []), (4, .aload 0, [], .null, []), (5, .aconst_null, [], .int 110, []), (7, .newarray .int, [], .null, []), (9, .putfield 7, [11, 0, 2], .null, []), (12, .aload 0, [], .null, []), (13, .aconst_null, [], .int 110, []), (15, .newarray .int, [], .null, []), (17, .putfield 13, [11, 1, 2], .null, []), (20, .aload 0, [], .null, []), (21, .aconst_null, [], .int 110, []), (23, .newarray .int, [], .null, []), (25, .putfield 16, [11, 2, 2], .null, []), (28, .aload 0, [], .null, []), (29, .aconst_null, [], .int 110, []), (31, .newarray .int, [], .null, []), (33, .putfield 19, [11, 3, 2], .null, []), (36, .aload 0, [], .null, []), (37, .aconst_null, [], .int 7, []), (39, .newarray .int, [], .null, []), (41, .putfield 22, [11, 4, 2], .null, []), (44, .aload 0, [], .null, []), (45, .aconst_null, [], .int (-1), []), (46, .putfield 25, [11, 6, 0], .null, []), (49, .aload 0, [], .null, []), (50, .aconst_null, [], .int 120, []), (52, .newarray .int, [], .null, []), (54, .putfield 29, [11, 7, 2], .null, []), (57, .aload 0, [], .null, []), (58, .aconst_null, [], .int 4, []), (59, .newarray .int, [], .null, []), (61, .putfield 32, [11, 13, 2], .null, []), (64, .aload 0, [], .null, []), (65, .aconst_null, [], .int 4, []), (66, .newarray .int, [], .null, []), (68, .putfield 35, [11, 14, 2], .null, []), (71, .aload 0, [], .null, []), (72, .aconst_null, [], .int 160, []), (75, .newarray .long, [], .null, []), (77, .putfield 38, [11, 15, 2], .null, []), (80, .aload 0, [], .null, []), (81, .aconst_null, [], .int 40, []), (83, .newarray .long, [], .null, []), (85, .putfield 42, [11, 16, 2], .null, []), (88, .aconst_null, [], .int 0, []), (89, .istore 1, [], .null, []), (90, .nop, [90], .null, [])] := rfl
theorem b131_90 : am_b131 90 = [(90, .iload 1, [], .null, []), (91, .aconst_null, [], .int 6, []), (93, .if_icmp .ge 19, [112], .null, []), (96, .aload 0, [], .null, []), (97, .getfield 7, [11, 0], .null, []), (100, .aconst_null, [], .int 104, []), (102, .iload 1, [], .null, []), (103, .iadd, [], .null, []), (104, .aconst_null, [], .int (-1), []), (105, .iastore, [], .null, []), (106, .iinc 1 1, [], .int 1, []), (109, .goto (-19), [90], .null, [])] := rfl
theorem b131_112 : am_b131 112 = [(112, .return_, [], .null, [])] := rfl
theorem pr_131 : am_pr 131 = (am_b131, 2, 10, 775) := rfl
theorem b132_0 : am_b132 0 = [(0, .lload 0, [], .null, []), (1, .lload 2, [], .null, []), (2, .lcmp, [], .null, []), (3, .ifCond .lt 14, [17], .null, []), (6, .lload 0, [], .null, []), (7, .lload 4, [], .null, []), (9, .lcmp, [], .null, []), (10, .ifCond .gt 7, [17], .null, []), (13, .aconst_null, [], .int 1, []), (14, .goto 4, [18], .null, [])] := rfl
theorem b132_17 : am_b132 17 = [(17, .aconst_null, [], .int 0, []), (18, .nop, [18], .null, [])] := rfl
theorem b132_18 : am_b132 18 = [(18, .ireturn, [1], .null, [])] := rfl
theorem pr_132 : am_pr 132 = (am_b132, 6, 0, 0) := rfl
theorem b133_0 : am_b133 0 = [(0, .aload 0, [], .null, []), (1, .getfield 22, [11, 4], .null, []), (4, .aconst_null, [], .int (-1000000001), []), (6, .iload 1, [], .null, []), (7, .isub, [], .null, []), (8, .dup2, [], .null, []), (9, .iaload, [], .null, []), (10, .aconst_null, [], .int 1, []), (11, .iadd, [], .null, []), (12, .iastore, [], .null, []), (13, .iload 1, [], .null, []), (14, .ireturn, [0], .null, [])] := rfl
theorem pr_133 : am_pr 133 = (am_b133, 2, 0, 0) := rfl
theorem b134_0 : am_b134 0 = [(0, .aconst_null, [], .int 0, []), (1, .istore 1, [], .null, []), (2, .nop, [2], .null, [])] := rfl
theorem b134_2 : am_b134 2 = [(2, .iload 1, [], .null, []), (3, .aconst_null, [], .int 110, []), (5, .if_icmp .ge 21, [26], .null, []), (8, .aload 0, [], .null, []), (9, .getfield 16, [11, 2], .null, []), (12, .iload 1, [], .null, []), (13, .aload 0, [], .null, []), (14, .getfield 7, [11, 0], .null, []), (17, .iload 1, [], .null, []), (18, .iaload, [], .null, []), (19, .iastore, [], .null, []), (20, .iinc 1 1, [], .int 1, []), (23, .goto (-21), [2], .null, [])] := rfl
theorem b134_26 : am_b134 26 = [(26, .return_, [], .null, [])] := rfl
theorem pr_134 : am_pr 134 = (am_b134, 2, 0, 0) := rfl
theorem b135_0 : am_b135 0 = [(0, .aconst_null, [], .int 0, []), (1, .istore 1, [], .null, []), (2, .nop, [2], .null, [])] := rfl
theorem b135_2 : am_b135 2 = [(2, .iload 1, [], .null, []), (3, .aconst_null, [], .int 110, []), (5, .if_icmp .ge 21, [26], .null, []), (8, .aload 0, [], .null, []), (9, .getfield 7, [11, 0], .null, []), (12, .iload 1, [], .null, []), (13, .aload 0, [], .null, []), (14, .getfield 16, [11, 2], .null, []), (17, .iload 1, [], .null, []), (18, .iaload, [], .null, []), (19, .iastore, [], .null, []), (20, .iinc 1 1, [], .int 1, []), (23, .goto (-21), [2], .null, [])] := rfl
theorem b135_26 : am_b135 26 = [(26, .return_, [], .null, [])] := rfl
theorem pr_135 : am_pr 135 = (am_b135, 2, 0, 0) := rfl
theorem b136_0 : am_b136 0 = [(0, .aconst_null, [], .int 0, []), (1, .istore 1, [], .null, []), (2, .nop, [2], .null, [])] := rfl
theorem b136_2 : am_b136 2 = [(2, .iload 1, [], .null, []), (3, .aconst_null, [], .int 110, []), (5, .if_icmp .ge 21, [26], .null, []), (8, .aload 0, [], .null, []), (9, .getfield 19, [11, 3], .null, []), (12, .iload 1, [], .null, []), (13, .aload 0, [], .null, []), (14, .getfield 7, [11, 0], .null, []), (17, .iload 1, [], .null, []), (18, .iaload, [], .null, []), (19, .iastore, [], .null, []), (20, .iinc 1 1, [], .int 1, []), (23, .goto (-21), [2], .null, [])] := rfl
theorem b136_26 : am_b136 26 = [(26, .return_, [], .null, [])] := rfl
theorem pr_136 : am_pr 136 = (am_b136, 2, 0, 0) := rfl
theorem b137_0 : am_b137 0 = [(0, .aconst_null, [], .int 0, []), (1, .istore 2, [], .null, []), (2, .nop, [2], .null, [])] := rfl
theorem b137_2 : am_b137 2 = [(2, .iload 2, [], .null, []), (3, .aconst_null, [], .int 110, []), (5, .if_icmp .ge 21, [26], .null, []), (8, .aload 0, [], .null, []), (9, .getfield 7, [11, 0], .null, []), (12, .iload 2, [], .null, []), (13, .aload 0, [], .null, []), (14, .getfield 19, [11, 3], .null, []), (17, .iload 2, [], .null, []), (18, .iaload, [], .null, []), (19, .iastore, [], .null, []), (20, .iinc 2 1, [], .int 1, []), (23, .goto (-21), [2], .null, [])] := rfl
theorem b137_26 : am_b137 26 = [(26, .iload 1, [], .null, []), (27, .ireturn, [0], .null, [])] := rfl
theorem pr_137 : am_pr 137 = (am_b137, 3, 0, 0) := rfl
theorem b138_0 : am_b138 0 = [(0, .aload 0, [], .null, []), (1, .getfield 7, [11, 0], .null, []), (4, .iload 1, [], .null, []), (5, .iaload, [], .null, []), (6, .istore 3, [], .null, []), (7, .aload 0, [], .null, []), (8, .getfield 7, [11, 0], .null, []), (11, .iload 1, [], .null, []), (12, .iload 2, [], .null, []), (13, .iastore, [], .null, []), (14, .iload 3, [], .null, []), (15, .ireturn, [0], .null, [])] := rfl
theorem pr_138 : am_pr 138 = (am_b138, 4, 0, 0) := rfl
theorem b139_0 : am_b139 0 = [(0, .aconst_null, [], .int 2, []), (1, .aconst_null, [], .int 2, []), (2, .iload 0, [], .null, []), (3, .imul, [], .null, []), (4, .iadd, [], .null, []), (5, .iload 1, [], .null, []), (6, .iadd, [], .null, []), (7, .ireturn, [0], .null, [])] := rfl
theorem pr_139 : am_pr 139 = (am_b139, 2, 0, 0) := rfl
theorem b140_0 : am_b140 0 = [(0, .aconst_null, [], .int 62, []), (2, .aconst_null, [], .int 7, []), (4, .iload 0, [], .null, []), (5, .imul, [], .null, []), (6, .iadd, [], .null, []), (7, .iload 1, [], .null, []), (8, .iadd, [], .null, []), (9, .ireturn, [0], .null, [])] := rfl
theorem pr_140 : am_pr 140 = (am_b140, 2, 0, 0) := rfl
theorem b141_0 : am_b141 0 = [(0, .aload 0, [], .null, []), (1, .getfield 7, [11, 0], .null, []), (4, .iload 1, [], .null, []), (5, .iload 2, [], .null, []), (6, .invokestatic 46, [140, 2], .null, []), (9, .iaload, [], .null, []), (10, .ireturn, [0], .null, [])] := rfl
theorem pr_141 : am_pr 141 = (am_b141, 3, 0, 0) := rfl
theorem b142_0 : am_b142 0 = [(0, .aload 0, [], .null, []), (1, .getfield 7, [11, 0], .null, []), (4, .iload 1, [], .null, []), (5, .aconst_null, [], .int 0, []), (6, .invokestatic 50, [139, 2], .null, []), (9, .iaload, [], .null, []), (10, .aconst_null, [], .int 1, []), (11, .if_icmp .ne 7, [18], .null, []), (14, .aconst_null, [], .int 1, []), (15, .goto 4, [19], .null, [])] := rfl
theorem b142_18 : am_b142 18 = [(18, .aconst_null, [], .int 0, []), (19, .nop, [19], .null, [])] := rfl
theorem b142_19 : am_b142 19 = [(19, .ireturn, [1], .null, [])] := rfl
theorem pr_142 : am_pr 142 = (am_b142, 2, 0, 0) := rfl
theorem b143_0 : am_b143 0 = [(0, .iload 0, [], .null, []), (1, .i2l, [], .null, []), (2, .aconst_null, [], .long 0, []), (3, .aconst_null, [], .long 29, []), (6, .invokestatic 55, [132, 3], .null, []), (9, .ireturn, [1], .null, [])] := rfl
theorem pr_143 : am_pr 143 = (am_b143, 1, 0, 0) := rfl
theorem b144_0 : am_b144 0 = [(0, .iload 0, [], .null, []), (1, .i2l, [], .null, []), (2, .aconst_null, [], .long 0, []), (3, .aconst_null, [], .long 5, []), (6, .invokestatic 55, [132, 3], .null, []), (9, .ireturn, [1], .null, [])] := rfl
theorem pr_144 : am_pr 144 = (am_b144, 1, 0, 0) := rfl
theorem b145_0 : am_b145 0 = [(0, .iload 1, [], .null, []), (1, .i2l, [], .null, []), (2, .aconst_null, [], .long 0, []), (3, .aload 0, [], .null, []), (4, .getfield 7, [11, 0], .null, []), (7, .aconst_null, [], .int 1, []), (8, .iaload, [], .null, []), (9, .aconst_null, [], .int 1, []), (10, .isub, [], .null, []), (11, .i2l, [], .null, []), (12, .invokestatic 55, [132, 3], .null, []), (15, .ireturn, [1], .null, [])] := rfl
theorem pr_145 : am_pr 145 = (am_b145, 2, 0, 0) := rfl
theorem b146_0 : am_b146 0 = [(0, .iload 0, [], .null, []), (1, .i2l, [], .null, []), (2, .aconst_null, [], .long 0, []), (3, .aconst_null, [], .long 5, []), (6, .invokestatic 55, [132, 3], .null, []), (9, .ireturn, [1], .null, [])] := rfl
theorem pr_146 : am_pr 146 = (am_b146, 1, 0, 0) := rfl
theorem b147_0 : am_b147 0 = [(0, .iload 0, [], .null, []), (1, .iload 1, [], .null, []), (2, .if_icmp .le 7, [9], .null, []), (5, .iload 1, [], .null, []), (6, .goto 4, [10], .null, [])] := rfl
theorem b147_9 : am_b147 9 = [(9, .iload 0, [], .null, []), (10, .nop, [10], .null, [])] := rfl
theorem b147_10 : am_b147 10 = [(10, .ireturn, [0], .null, [])] := rfl
theorem pr_147 : am_pr 147 = (am_b147, 2, 0, 0) := rfl
theorem b148_0 : am_b148 0 = [(0, .aconst_null, [], .int 0, []), (1, .istore 1, [], .null, []), (2, .aconst_null, [], .int 0, []), (3, .istore 2, [], .null, []), (4, .nop, [4], .null, [])] := rfl
theorem b148_4 : am_b148 4 = [(4, .iload 2, [], .null, []), (5, .aconst_null, [], .int 30, []), (7, .if_icmp .ge 22, [29], .null, []), (10, .iload 1, [], .null, []), (11, .aload 0, [], .null, []), (12, .getfield 7, [11, 0], .null, []), (15, .iload 2, [], .null, []), (16, .aconst_null, [], .int 1, []), (17, .invokestatic 50, [139, 2], .null, []), (20, .iaload, [], .null, []), (21, .iadd, [], .null, []), (22, .istore 1, [], .null, []), (23, .iinc 2 1, [], .int 1, []), (26, .goto (-22), [4], .null, [])] := rfl
theorem b148_29 : am_b148 29 = [(29, .iload 1, [], .null, []), (30, .ireturn, [0], .null, [])] := rfl
theorem pr_148 : am_pr 148 = (am_b148, 3, 0, 0) := rfl
theorem b149_0 : am_b149 0 = [(0, .aconst_null, [], .int 0, []), (1, .istore 1, [], .null, []), (2, .aconst_null, [], .int 0, []), (3, .istore 2, [], .null, []), (4, .nop, [4], .null, [])] := rfl
theorem b149_4 : am_b149 4 = [(4, .iload 2, [], .null, []), (5, .aconst_null, [], .int 30, []), (7, .if_icmp .ge 24, [31], .null, []), (10, .iload 1, [], .null, []), (11, .aload 0, [], .null, []), (12, .getfield 7, [11, 0], .null, []), (15, .iload 2, [], .null, []), (16, .aconst_null, [], .int 0, []), (17, .invokestatic 50, [139, 2], .null, []), (20, .iaload, [], .null, []), (21, .iload 2, [], .null, []), (22, .ishl, [], .null, []), (23, .ior, [], .null, []), (24, .istore 1, [], .null, []), (25, .iinc 2 1, [], .int 1, []), (28, .goto (-24), [4], .null, [])] := rfl
theorem b149_31 : am_b149 31 = [(31, .iload 1, [], .null, []), (32, .ireturn, [0], .null, [])] := rfl
theorem pr_149 : am_pr 149 = (am_b149, 3, 0, 0) := rfl
theorem b150_0 : am_b150 0 = [(0, .aconst_null, [], .int 0, []), (1, .istore 2, [], .null, []), (2, .aconst_null, [], .int 0, []), (3, .istore 3, [], .null, []), (4, .nop, [4], .null, [])] := rfl
theorem b150_4 : am_b150 4 = [(4, .iload 3, [], .null, []), (5, .aconst_null, [], .int 6, []), (7, .if_icmp .ge 32, [39], .null, []), (10, .iload 2, [], .null, []), (11, .aload 0, [], .null, []), (12, .getfield 7, [11, 0], .null, []), (15, .aconst_null, [], .int 104, []), (17, .iload 3, [], .null, []), (18, .iadd, [], .null, []), (19, .iaload, [], .null, []), (20, .iload 1, [], .null, []), (21, .if_icmp .ne 9, [30], .null, []), (24, .aconst_null, [], .int 1, []), (25, .iload 3, [], .null, []), (26, .ishl, [], .null, []), (27, .goto 4, [31], .null, [])] := rfl
theorem b150_30 : am_b150 30 = [(30, .aconst_null, [], .int 0, []), (31, .nop, [31], .null, [])] := rfl
theorem b150_31 : am_b150 31 = [(31, .ior, [], .null, []), (32, .istore 2, [], .null, []), (33, .iinc 3 1, [], .int 1, []), (36, .goto (-32), [4], .null, [])] := rfl
theorem b150_39 : am_b150 39 = [(39, .iload 2, [], .null, []), (40, .ireturn, [0], .null, [])] := rfl
theorem pr_150 : am_pr 150 = (am_b150, 4, 0, 0) := rfl
theorem b151_0 : am_b151 0 = [(0, .aconst_null, [], .int 0, []), (1, .istore 1, [], .null, []), (2, .aconst_null, [], .int 0, []), (3, .istore 2, [], .null, []), (4, .nop, [4], .null, [])] := rfl
theorem b151_4 : am_b151 4 = [(4, .iload 2, [], .null, []), (5, .aload 0, [], .null, []), (6, .getfield 7, [11, 0], .null, []), (9, .aconst_null, [], .int 1, []), (10, .iaload, [], .null, []), (11, .if_icmp .ge 18, [29], .null, []), (14, .iload 1, [], .null, []), (15, .aload 0, [], .null, []), (16, .iload 2, [], .null, []), (17, .aconst_null, [], .int 5, []), (18, .invokevirtual 61, [3, 11, 141], .null, []), (21, .iadd, [], .null, []), (22, .istore 1, [], .null, []), (23, .iinc 2 1, [], .int 1, []), (26, .goto (-22), [4], .null, [])] := rfl
theorem b151_29 : am_b151 29 = [(29, .iload 1, [], .null, []), (30, .ireturn, [0], .null, [])] := rfl
theorem pr_151 : am_pr 151 = (am_b151, 3, 0, 0) := rfl
theorem b152_0 : am_b152 0 = [(0, .iload 2, [], .null, []), (1, .i2l, [], .null, []), (2, .aconst_null, [], .long 0, []), (3, .aconst_null, [], .long 1, []), (4, .invokestatic 55, [132, 3], .null, []), (7, .ifCond .eq 27, [34], .null, []), (10, .iload 3, [], .null, []), (11, .i2l, [], .null, []), (12, .aconst_null, [], .long 0, []), (13, .iload 2, [], .null, []), (14, .ifCond .ne 7, [21], .null, []), (17, .aconst_null, [], .long 1, []), (18, .goto 6, [24], .null, [])] := rfl
theorem b152_21 : am_b152 21 = [(21, .aconst_null, [], .long 99, []), (24, .nop, [24], .null, [])] := rfl
theorem b152_24 : am_b152 24 = [(24, .invokestatic 55, [132, 3], .null, []), (27, .ifCond .eq 7, [34], .null, []), (30, .aconst_null, [], .int 1, []), (31, .goto 4, [35], .null, [])] := rfl
theorem b152_34 : am_b152 34 = [(34, .aconst_null, [], .int 0, []), (35, .nop, [35], .null, [])] := rfl
theorem b152_35 : am_b152 35 = [(35, .istore 4, [], .null, []), (37, .iload 1, [], .null, []), (38, .invokestatic 66, [143, 1], .null, []), (41, .ifCond .eq 21, [62], .null, []), (44, .iload 4, [], .null, []), (46, .ifCond .eq 16, [62], .null, []), (49, .aload 0, [], .null, []), (50, .iload 1, [], .null, []), (51, .iload 2, [], .null, []), (52, .invokestatic 50, [139, 2], .null, []), (55, .iload 3, [], .null, []), (56, .invokevirtual 70, [3, 11, 138], .null, []), (59, .goto 9, [68], .null, [])] := rfl
theorem b152_62 : am_b152 62 = [(62, .aload 0, [], .null, []), (63, .aconst_null, [], .int (-1000000001), []), (65, .invokevirtual 73, [2, 11, 133], .null, []), (68, .nop, [68], .null, [])] := rfl
theorem b152_68 : am_b152 68 = [(68, .ireturn, [0], .null, [])] := rfl
theorem pr_152 : am_pr 152 = (am_b152, 5, 0, 0) := rfl
theorem b153_0 : am_b153 0 = [(0, .aconst_null, [], .int 0, []), (1, .istore 2, [], .null, []), (2, .aconst_null, [], .int 0, []), (3, .istore 3, [], .null, []), (4, .nop, [4], .null, [])] := rfl
theorem b153_4 : am_b153 4 = [(4, .iload 3, [], .null, []), (5, .aload 0, [], .null, []), (6, .getfield 7, [11, 0], .null, []), (9, .aconst_null, [], .int 1, []), (10, .iaload, [], .null, []), (11, .if_icmp .ge 29, [40], .null, []), (14, .iload 2, [], .null, []), (15, .aload 0, [], .null, []), (16, .iload 3, [], .null, []), (17, .aconst_null, [], .int 1, []), (18, .invokevirtual 61, [3, 11, 141], .null, []), (21, .iload 1, [], .null, []), (22, .if_icmp .ne 9, [31], .null, []), (25, .aconst_null, [], .int 1, []), (26, .iload 3, [], .null, []), (27, .ishl, [], .null, []), (28, .goto 4, [32], .null, [])] := rfl
theorem b153_31 : am_b153 31 = [(31, .aconst_null, [], .int 0, []), (32, .nop, [32], .null, [])] := rfl
theorem b153_32 : am_b153 32 = [(32, .ior, [], .null, []), (33, .istore 2, [], .null, []), (34, .iinc 3 1, [], .int 1, []), (37, .goto (-33), [4], .null, [])] := rfl
theorem b153_40 : am_b153 40 = [(40, .iload 2, [], .null, []), (41, .ireturn, [0], .null, [])] := rfl
theorem pr_153 : am_pr 153 = (am_b153, 4, 0, 0) := rfl
theorem b154_0 : am_b154 0 = [(0, .iload 1, [], .null, []), (1, .invokestatic 66, [143, 1], .null, []), (4, .ifCond .eq 15, [19], .null, []), (7, .iload 2, [], .null, []), (8, .i2l, [], .null, []), (9, .aconst_null, [], .long 0, []), (10, .aconst_null, [], .long 3, []), (13, .invokestatic 55, [132, 3], .null, []), (16, .ifCond .ne 10, [26], .null, []), (19, .nop, [19], .null, [])] := rfl
theorem b154_19 : am_b154 19 = [(19, .aload 0, [], .null, []), (20, .aconst_null, [], .int (-1000000001), []), (22, .invokevirtual 73, [2, 11, 133], .null, []), (25, .ireturn, [0], .null, [])] := rfl
theorem b154_26 : am_b154 26 = [(26, .iload 2, [], .null, []), (27, .aconst_null, [], .int 1, []), (28, .if_icmp .gt 16, [44], .null, []), (31, .aload 0, [], .null, []), (32, .getfield 7, [11, 0], .null, []), (35, .iload 1, [], .null, []), (36, .iload 2, [], .null, []), (37, .invokestatic 50, [139, 2], .null, []), (40, .iaload, [], .null, []), (41, .goto 21, [62], .null, [])] := rfl
theorem b154_44 : am_b154 44 = [(44, .iload 2, [], .null, []), (45, .aconst_null, [], .int 2, []), (46, .if_icmp .ne 11, [57], .null, []), (49, .aload 0, [], .null, []), (50, .iload 1, [], .null, []), (51, .invokevirtual 79, [2, 11, 153], .null, []), (54, .goto 8, [62], .null, [])] := rfl
theorem b154_57 : am_b154 57 = [(57, .aload 0, [], .null, []), (58, .iload 1, [], .null, []), (59, .invokevirtual 82, [2, 11, 150], .null, []), (62, .nop, [62], .null, [])] := rfl
theorem b154_62 : am_b154 62 = [(62, .ireturn, [0], .null, [])] := rfl
theorem pr_154 : am_pr 154 = (am_b154, 3, 0, 0) := rfl
theorem b155_0 : am_b155 0 = [(0, .aconst_null, [], .int 0, []), (1, .istore 3, [], .null, []), (2, .nop, [2], .null, [])] := rfl
theorem b155_2 : am_b155 2 = [(2, .iload 3, [], .null, []), (3, .aload 0, [], .null, []), (4, .getfield 7, [11, 0], .null, []), (7, .aconst_null, [], .int 1, []), (8, .iaload, [], .null, []), (9, .if_icmp .ge 42, [51], .null, []), (12, .aload 0, [], .null, []), (13, .getfield 7, [11, 0], .null, []), (16, .iload 3, [], .null, []), (17, .aconst_null, [], .int 6, []), (19, .invokestatic 46, [140, 2], .null, []), (22, .aload 0, [], .null, []), (23, .iload 3, [], .null, []), (24, .aconst_null, [], .int 6, []), (26, .invokevirtual 61, [3, 11, 141], .null, []), (29, .iload 1, [], .null, []), (30, .if_icmp .ne 7, [37], .null, []), (33, .aconst_null, [], .int (-1), []), (34, .goto 10, [44], .null, [])] := rfl
theorem b155_37 : am_b155 37 = [(37, .aload 0, [], .null, []), (38, .iload 3, [], .null, []), (39, .aconst_null, [], .int 6, []), (41, .invokevirtual 61, [3, 11, 141], .null, []), (44, .nop, [44], .null, [])] := rfl
theorem b155_44 : am_b155 44 = [(44, .iastore, [], .null, []), (45, .iinc 3 1, [], .int 1, []), (48, .goto (-46), [2], .null, [])] := rfl
theorem b155_51 : am_b155 51 = [(51, .aload 0, [], .null, []), (52, .aconst_null, [], .int 104, []), (54, .iload 1, [], .null, []), (55, .iadd, [], .null, []), (56, .iload 2, [], .null, []), (57, .invokevirtual 70, [3, 11, 138], .null, []), (60, .ireturn, [0], .null, [])] := rfl
theorem pr_155 : am_pr 155 = (am_b155, 4, 0, 0) := rfl
theorem b156_0 : am_b156 0 = [(0, .iload 1, [], .null, []), (1, .invokestatic 85, [144, 1], .null, []), (4, .ifCond .eq 26, [30], .null, []), (7, .iload 2, [], .null, []), (8, .i2l, [], .null, []), (9, .aconst_null, [], .long (-1), []), (12, .aconst_null, [], .long 29, []), (15, .invokestatic 55, [132, 3], .null, []), (18, .ifCond .eq 12, [30], .null, []), (21, .aload 0, [], .null, []), (22, .iload 1, [], .null, []), (23, .iload 2, [], .null, []), (24, .invokevirtual 90, [3, 11, 155], .null, []), (27, .goto 9, [36], .null, [])] := rfl
theorem b156_30 : am_b156 30 = [(30, .aload 0, [], .null, []), (31, .aconst_null, [], .int (-1000000001), []), (33, .invokevirtual 73, [2, 11, 133], .null, []), (36, .nop, [36], .null, [])] := rfl
theorem b156_36 : am_b156 36 = [(36, .ireturn, [0], .null, [])] := rfl
theorem pr_156 : am_pr 156 = (am_b156, 3, 0, 0) := rfl
theorem b157_0 : am_b157 0 = [(0, .iload 1, [], .null, []), (1, .invokestatic 85, [144, 1], .null, []), (4, .ifCond .eq 15, [19], .null, []), (7, .aload 0, [], .null, []), (8, .getfield 7, [11, 0], .null, []), (11, .aconst_null, [], .int 104, []), (13, .iload 1, [], .null, []), (14, .iadd, [], .null, []), (15, .iaload, [], .null, []), (16, .goto 9, [25], .null, [])] := rfl
theorem b157_19 : am_b157 19 = [(19, .aload 0, [], .null, []), (20, .aconst_null, [], .int (-1000000001), []), (22, .invokevirtual 73, [2, 11, 133], .null, []), (25, .nop, [25], .null, [])] := rfl
theorem b157_25 : am_b157 25 = [(25, .ireturn, [0], .null, [])] := rfl
theorem pr_157 : am_pr 157 = (am_b157, 2, 0, 0) := rfl
theorem b158_0 : am_b158 0 = [(0, .iload 1, [], .null, []), (1, .tableswitch 75 0 5 #[39, 46, 51, 56, 63, 70], [76], .null, [(0, 40), (1, 47), (2, 52), (3, 57), (4, 64), (5, 71)])] := rfl
theorem b158_40 : am_b158 40 = [(40, .aload 0, [], .null, []), (41, .getfield 7, [11, 0], .null, []), (44, .aconst_null, [], .int 0, []), (45, .iaload, [], .null, []), (46, .ireturn, [0], .null, [])] := rfl
theorem b158_47 : am_b158 47 = [(47, .aload 0, [], .null, []), (48, .invokevirtual 93, [1, 11, 149], .null, []), (51, .ireturn, [0], .null, [])] := rfl
theorem b158_52 : am_b158 52 = [(52, .aload 0, [], .null, []), (53, .invokevirtual 97, [1, 11, 148], .null, []), (56, .ireturn, [0], .null, [])] := rfl
theorem b158_57 : am_b158 57 = [(57, .aload 0, [], .null, []), (58, .aconst_null, [], .int (-3), []), (60, .invokevirtual 82, [2, 11, 150], .null, []), (63, .ireturn, [0], .null, [])] := rfl
theorem b158_64 : am_b158 64 = [(64, .aload 0, [], .null, []), (65, .aconst_null, [], .int (-2), []), (67, .invokevirtual 82, [2, 11, 150], .null, []), (70, .ireturn, [0], .null, [])] := rfl
theorem b158_71 : am_b158 71 = [(71, .aload 0, [], .null, []), (72, .invokevirtual 100, [1, 11, 151], .null, []), (75, .ireturn, [0], .null, [])] := rfl
theorem b158_76 : am_b158 76 = [(76, .aload 0, [], .null, []), (77, .aconst_null, [], .int (-1000000001), []), (79, .invokevirtual 73, [2, 11, 133], .null, []), (82, .ireturn, [0], .null, [])] := rfl
theorem pr_158 : am_pr 158 = (am_b158, 2, 0, 0) := rfl
theorem b159_0 : am_b159 0 = [(0, .aload 0, [], .null, []), (1, .iload 1, [], .null, []), (2, .aconst_null, [], .int 6, []), (4, .invokevirtual 61, [3, 11, 141], .null, []), (7, .aconst_null, [], .int (-1), []), (8, .if_icmp .ne 7, [15], .null, []), (11, .aconst_null, [], .int 1, []), (12, .goto 4, [16], .null, [])] := rfl
theorem b159_15 : am_b159 15 = [(15, .aconst_null, [], .int 2, []), (16, .nop, [16], .null, [])] := rfl
theorem b159_16 : am_b159 16 = [(16, .istore 2, [], .null, []), (17, .aload 0, [], .null, []), (18, .iload 1, [], .null, []), (19, .aconst_null, [], .int 0, []), (20, .invokevirtual 61, [3, 11, 141], .null, []), (23, .tableswitch 54 2 5 #[29, 31, 48, 50], [77], .null, [(2, 52), (3, 54), (4, 71), (5, 73)])] := rfl
theorem b159_52 : am_b159 52 = [(52, .iload 2, [], .null, []), (53, .ireturn, [0], .null, [])] := rfl
theorem b159_54 : am_b159 54 = [(54, .aload 0, [], .null, []), (55, .getfield 7, [11, 0], .null, []), (58, .aconst_null, [], .int 0, []), (59, .iaload, [], .null, []), (60, .aconst_null, [], .int 3, []), (61, .irem, [], .null, []), (62, .ifCond .ne 7, [69], .null, []), (65, .aconst_null, [], .int 1, []), (66, .goto 4, [70], .null, [])] := rfl
theorem b159_69 : am_b159 69 = [(69, .aconst_null, [], .int 0, []), (70, .nop, [70], .null, [])] := rfl
theorem b159_70 : am_b159 70 = [(70, .ireturn, [0], .null, [])] := rfl
theorem b159_71 : am_b159 71 = [(71, .aconst_null, [], .int 2, []), (72, .ireturn, [0], .null, [])] := rfl
theorem b159_73 : am_b159 73 = [(73, .iload 2, [], .null, []), (74, .aconst_null, [], .int 1, []), (75, .iadd, [], .null, []), (76, .ireturn, [0], .null, [])] := rfl
theorem b159_77 : am_b159 77 = [(77, .aconst_null, [], .int 1, []), (78, .ireturn, [0], .null, [])] := rfl
theorem pr_159 : am_pr 159 = (am_b159, 3, 0, 0) := rfl
theorem b160_0 : am_b160 0 = [(0, .aload 0, [], .null, []), (1, .iload 1, [], .null, []), (2, .aconst_null, [], .int 0, []), (3, .invokevirtual 61, [3, 11, 141], .null, []), (6, .istore 2, [], .null, []), (7, .iload 2, [], .null, []), (8, .aconst_null, [], .int 1, []), (9, .if_icmp .eq 8, [17], .null, []), (12, .iload 2, [], .null, []), (13, .aconst_null, [], .int 4, []), (14, .if_icmp .ne 7, [21], .null, []), (17, .nop, [17], .null, [])] := rfl
theorem b160_17 : am_b160 17 = [(17, .aconst_null, [], .int 1, []), (18, .goto 13, [31], .null, [])] := rfl
theorem b160_21 : am_b160 21 = [(21, .iload 2, [], .null, []), (22, .aconst_null, [], .int 3, []), (23, .if_icmp .ne 7, [30], .null, []), (26, .aconst_null, [], .int (-1), []), (27, .goto 4, [31], .null, [])] := rfl
theorem b160_30 : am_b160 30 = [(30, .aconst_null, [], .int 0, []), (31, .nop, [31], .null, [])] := rfl
theorem b160_31 : am_b160 31 = [(31, .ireturn, [0], .null, [])] := rfl
theorem pr_160 : am_pr 160 = (am_b160, 3, 0, 0) := rfl
theorem b161_0 : am_b161 0 = [(0, .aload 0, [], .null, []), (1, .iload 1, [], .null, []), (2, .aconst_null, [], .int 0, []), (3, .invokevirtual 61, [3, 11, 141], .null, []), (6, .istore 2, [], .null, []), (7, .iload 2, [], .null, []), (8, .aconst_null, [], .int 1, []), (9, .if_icmp .eq 27, [36], .null, []), (12, .iload 2, [], .null, []), (13, .aconst_null, [], .int 3, []), (14, .if_icmp .eq 22, [36], .null, []), (17, .iload 2, [], .null, []), (18, .aconst_null, [], .int 4, []), (19, .if_icmp .ne 21, [40], .null, []), (22, .aload 0, [], .null, []), (23, .iload 1, [], .null, []), (24, .aconst_null, [], .int 1, []), (25, .invokevirtual 61, [3, 11, 141], .null, []), (28, .aconst_null, [], .int 6, []), (30, .idiv, [], .null, []), (31, .aconst_null, [], .int 2, []), (32, .irem, [], .null, []), (33, .ifCond .ne 7, [40], .null, []), (36, .nop, [36], .null, [])] := rfl
theorem b161_36 : am_b161 36 = [(36, .aconst_null, [], .int 1, []), (37, .goto 4, [41], .null, [])] := rfl
theorem b161_40 : am_b161 40 = [(40, .aconst_null, [], .int 0, []), (41, .nop, [41], .null, [])] := rfl
theorem b161_41 : am_b161 41 = [(41, .ireturn, [1], .null, [])] := rfl
theorem pr_161 : am_pr 161 = (am_b161, 3, 0, 0) := rfl
theorem b162_0 : am_b162 0 = [(0, .aload 0, [], .null, []), (1, .iload 1, [], .null, []), (2, .aconst_null, [], .int 0, []), (3, .invokevirtual 61, [3, 11, 141], .null, []), (6, .istore 2, [], .null, []), (7, .iload 2, [], .null, []), (8, .aconst_null, [], .int 1, []), (9, .if_icmp .eq 8, [17], .null, []), (12, .iload 2, [], .null, []), (13, .aconst_null, [], .int 4, []), (14, .if_icmp .ne 7, [21], .null, []), (17, .nop, [17], .null, [])] := rfl
theorem b162_17 : am_b162 17 = [(17, .aconst_null, [], .int 1, []), (18, .goto 13, [31], .null, [])] := rfl
theorem b162_21 : am_b162 21 = [(21, .iload 2, [], .null, []), (22, .aconst_null, [], .int 3, []), (23, .if_icmp .ne 7, [30], .null, []), (26, .aconst_null, [], .int 0, []), (27, .goto 4, [31], .null, [])] := rfl
theorem b162_30 : am_b162 30 = [(30, .aconst_null, [], .int 2, []), (31, .nop, [31], .null, [])] := rfl
theorem b162_31 : am_b162 31 = [(31, .ireturn, [0], .null, [])] := rfl
theorem pr_162 : am_pr 162 = (am_b162, 3, 0, 0) := rfl
theorem b163_0 : am_b163 0 = [(0, .aload 0, [], .null, []), (1, .iload 1, [], .null, []), (2, .aconst_null, [], .int 0, []), (3, .invokevirtual 61, [3, 11, 141], .null, []), (6, .tableswitch 41 2 5 #[30, 33, 35, 38], [47], .null, [(2, 36), (3, 39), (4, 41), (5, 44)])] := rfl
theorem b163_36 : am_b163 36 = [(36, .aconst_null, [], .int 15, []), (38, .ireturn, [0], .null, [])] := rfl
theorem b163_39 : am_b163 39 = [(39, .aconst_null, [], .int 0, []), (40, .ireturn, [0], .null, [])] := rfl
theorem b163_41 : am_b163 41 = [(41, .aconst_null, [], .int 14, []), (43, .ireturn, [0], .null, [])] := rfl
theorem b163_44 : am_b163 44 = [(44, .aconst_null, [], .int 30, []), (46, .ireturn, [0], .null, [])] := rfl
theorem b163_47 : am_b163 47 = [(47, .aconst_null, [], .int 10, []), (49, .ireturn, [0], .null, [])] := rfl
theorem pr_163 : am_pr 163 = (am_b163, 2, 0, 0) := rfl
theorem b164_0 : am_b164 0 = [(0, .aload 0, [], .null, []), (1, .getfield 7, [11, 0], .null, []), (4, .aconst_null, [], .int 1, []), (5, .iaload, [], .null, []), (6, .istore 4, [], .null, []), (8, .aload 0, [], .null, []), (9, .getfield 7, [11, 0], .null, []), (12, .aconst_null, [], .int 1, []), (13, .dup2, [], .null, []), (14, .iaload, [], .null, []), (15, .aconst_null, [], .int 1, []), (16, .iadd, [], .null, []), (17, .iastore, [], .null, []), (18, .aload 0, [], .null, []), (19, .getfield 7, [11, 0], .null, []), (22, .iload 4, [], .null, []), (24, .aconst_null, [], .int 0, []), (25, .invokestatic 46, [140, 2], .null, []), (28, .iload 1, [], .null, []), (29, .iastore, [], .null, []), (30, .aload 0, [], .null, []), (31, .getfield 7, [11, 0], .null, []), (34, .iload 4, [], .null, []), (36, .aconst_null, [], .int 1, []), (37, .invokestatic 46, [140, 2], .null, []), (40, .iload 2, [], .null, []), (41, .iastore, [], .null, []), (42, .aload 0, [], .null, []), (43, .getfield 7, [11, 0], .null, []), (46, .iload 4, [], .null, []), (48, .aconst_null, [], .int 2, []), (49, .invokestatic 46, [140, 2], .null, []), (52, .iload 2, [], .null, []), (53, .iastore, [], .null, []), (54, .aload 0, [], .null, []), (55, .getfield 7, [11, 0], .null, []), (58, .iload 4, [], .null, []), (60, .aconst_null, [], .int 3, []), (61, .invokestatic 46, [140, 2], .null, []), (64, .iload 3, [], .null, []), (65, .iastore, [], .null, []), (66, .aload 0, [], .null, []), (67, .getfield 7, [11, 0], .null, []), (70, .iload 4, [], .null, []), (72, .aconst_null, [], .int 4, []), (73, .invokestatic 46, [140, 2], .null, []), (76, .aconst_null, [], .int 1, []), (77, .iastore, [], .null, []), (78, .aload 0, [], .null, []), (79, .getfield 7, [11, 0], .null, []), (82, .iload 4, [], .null, []), (84, .aconst_null, [], .int 5, []), (85, .invokestatic 46, [140, 2], .null, []), (88, .aconst_null, [], .int 0, []), (89, .iastore, [], .null, []), (90, .aload 0, [], .null, []), (91, .getfield 7, [11, 0], .null, []), (94, .iload 4, [], .null, []), (96, .aconst_null, [], .int 6, []), (98, .invokestatic 46, [140, 2], .null, []), (101, .aconst_null, [], .int (-1), []), (102, .iastore, [], .null, []), (103, .iload 4, [], .null, []), (105, .ireturn, [0], .null, [])] := rfl
theorem pr_164 : am_pr 164 = (am_b164, 5, 0, 0) := rfl
theorem b165_0 : am_b165 0 = [(0, .iload 1, [], .null, []), (1, .invokestatic 103, [146, 1], .null, []), (4, .ifCond .eq 17, [21], .null, []), (7, .iload 2, [], .null, []), (8, .invokestatic 66, [143, 1], .null, []), (11, .ifCond .eq 10, [21], .null, []), (14, .iload 3, [], .null, []), (15, .invokestatic 66, [143, 1], .null, []), (18, .ifCond .ne 10, [28], .null, []), (21, .nop, [21], .null, [])] := rfl
theorem b165_21 : am_b165 21 = [(21, .aload 0, [], .null, []), (22, .aconst_null, [], .int (-1000000001), []), (24, .invokevirtual 73, [2, 11, 133], .null, []), (27, .ireturn, [0], .null, [])] := rfl
theorem b165_28 : am_b165 28 = [(28, .aload 0, [], .null, []), (29, .getfield 7, [11, 0], .null, []), (32, .aconst_null, [], .int 1, []), (33, .iaload, [], .null, []), (34, .aconst_null, [], .int 6, []), (36, .if_icmp .ne 12, [48], .null, []), (39, .aload 0, [], .null, []), (40, .aconst_null, [], .int (-1000000002), []), (42, .invokevirtual 73, [2, 11, 133], .null, []), (45, .goto 10, [55], .null, [])] := rfl
theorem b165_48 : am_b165 48 = [(48, .aload 0, [], .null, []), (49, .iload 1, [], .null, []), (50, .iload 2, [], .null, []), (51, .iload 3, [], .null, []), (52, .invokevirtual 107, [4, 11, 164], .null, []), (55, .nop, [55], .null, [])] := rfl
theorem b165_55 : am_b165 55 = [(55, .ireturn, [0], .null, [])] := rfl
theorem pr_165 : am_pr 165 = (am_b165, 4, 0, 0) := rfl
theorem b166_0 : am_b166 0 = [(0, .aload 0, [], .null, []), (1, .iload 1, [], .null, []), (2, .invokevirtual 111, [2, 11, 145], .null, []), (5, .ifCond .eq 15, [20], .null, []), (8, .iload 2, [], .null, []), (9, .i2l, [], .null, []), (10, .aconst_null, [], .long 0, []), (11, .aconst_null, [], .long 9, []), (14, .invokestatic 55, [132, 3], .null, []), (17, .ifCond .ne 10, [27], .null, []), (20, .nop, [20], .null, [])] := rfl
theorem b166_20 : am_b166 20 = [(20, .aload 0, [], .null, []), (21, .aconst_null, [], .int (-1000000001), []), (23, .invokevirtual 73, [2, 11, 133], .null, []), (26, .ireturn, [0], .null, [])] := rfl
theorem b166_27 : am_b166 27 = [(27, .iload 2, [], .null, []), (28, .aconst_null, [], .int 6, []), (30, .if_icmp .gt 10, [40], .null, []), (33, .aload 0, [], .null, []), (34, .iload 1, [], .null, []), (35, .iload 2, [], .null, []), (36, .invokevirtual 61, [3, 11, 141], .null, []), (39, .ireturn, [0], .null, [])] := rfl
theorem b166_40 : am_b166 40 = [(40, .iload 2, [], .null, []), (41, .aconst_null, [], .int 7, []), (43, .if_icmp .ne 11, [54], .null, []), (46, .aload 0, [], .null, []), (47, .iload 1, [], .null, []), (48, .invokevirtual 116, [2, 11, 159], .null, []), (51, .goto 32, [83], .null, [])] := rfl
theorem b166_54 : am_b166 54 = [(54, .iload 2, [], .null, []), (55, .aconst_null, [], .int 8, []), (57, .if_icmp .ne 13, [70], .null, []), (60, .aconst_null, [], .int 1, []), (61, .aload 0, [], .null, []), (62, .iload 1, [], .null, []), (63, .invokevirtual 119, [2, 11, 160], .null, []), (66, .iadd, [], .null, []), (67, .goto 16, [83], .null, [])] := rfl
theorem b166_70 : am_b166 70 = [(70, .aload 0, [], .null, []), (71, .iload 1, [], .null, []), (72, .invokevirtual 122, [2, 11, 161], .null, []), (75, .ifCond .eq 7, [82], .null, []), (78, .aconst_null, [], .int 1, []), (79, .goto 4, [83], .null, [])] := rfl
theorem b166_82 : am_b166 82 = [(82, .aconst_null, [], .int 0, []), (83, .nop, [83], .null, [])] := rfl
theorem b166_83 : am_b166 83 = [(83, .ireturn, [0], .null, [])] := rfl
theorem pr_166 : am_pr 166 = (am_b166, 3, 0, 0) := rfl
theorem b167_0 : am_b167 0 = [(0, .aload 0, [], .null, []), (1, .iload 1, [], .null, []), (2, .invokevirtual 111, [2, 11, 145], .null, []), (5, .ifCond .eq 13, [18], .null, []), (8, .iload 2, [], .null, []), (9, .i2l, [], .null, []), (10, .aconst_null, [], .long 0, []), (11, .aconst_null, [], .long 1, []), (12, .invokestatic 55, [132, 3], .null, []), (15, .ifCond .ne 10, [25], .null, []), (18, .nop, [18], .null, [])] := rfl
theorem b167_18 : am_b167 18 = [(18, .aload 0, [], .null, []), (19, .aconst_null, [], .int (-1000000001), []), (21, .invokevirtual 73, [2, 11, 133], .null, []), (24, .ireturn, [0], .null, [])] := rfl
theorem b167_25 : am_b167 25 = [(25, .iload 2, [], .null, []), (26, .ifCond .ne 11, [37], .null, []), (29, .aload 0, [], .null, []), (30, .iload 1, [], .null, []), (31, .invokevirtual 125, [2, 11, 162], .null, []), (34, .goto 8, [42], .null, [])] := rfl
theorem b167_37 : am_b167 37 = [(37, .aload 0, [], .null, []), (38, .iload 1, [], .null, []), (39, .invokevirtual 128, [2, 11, 163], .null, []), (42, .nop, [42], .null, [])] := rfl
theorem b167_42 : am_b167 42 = [(42, .ireturn, [0], .null, [])] := rfl
theorem pr_167 : am_pr 167 = (am_b167, 3, 0, 0) := rfl
theorem b168_0 : am_b168 0 = [(0, .iload 2, [], .null, []), (1, .i2l, [], .null, []), (2, .aconst_null, [], .long 1, []), (3, .aconst_null, [], .long 5, []), (6, .invokestatic 55, [132, 3], .null, []), (9, .ifCond .eq 39, [48], .null, []), (12, .iload 3, [], .null, []), (13, .i2l, [], .null, []), (14, .aconst_null, [], .long 0, []), (15, .iload 2, [], .null, []), (16, .aconst_null, [], .int 4, []), (17, .if_icmp .ne 7, [24], .null, []), (20, .aconst_null, [], .long 1, []), (21, .goto 17, [38], .null, [])] := rfl
theorem b168_24 : am_b168 24 = [(24, .iload 2, [], .null, []), (25, .aconst_null, [], .int 5, []), (26, .if_icmp .ne 9, [35], .null, []), (29, .aconst_null, [], .long 9999, []), (32, .goto 6, [38], .null, [])] := rfl
theorem b168_35 : am_b168 35 = [(35, .aconst_null, [], .long 29, []), (38, .nop, [38], .null, [])] := rfl
theorem b168_38 : am_b168 38 = [(38, .invokestatic 55, [132, 3], .null, []), (41, .ifCond .eq 7, [48], .null, []), (44, .aconst_null, [], .int 1, []), (45, .goto 4, [49], .null, [])] := rfl
theorem b168_48 : am_b168 48 = [(48, .aconst_null, [], .int 0, []), (49, .nop, [49], .null, [])] := rfl
theorem b168_49 : am_b168 49 = [(49, .istore 4, [], .null, []), (51, .aload 0, [], .null, []), (52, .iload 1, [], .null, []), (53, .invokevirtual 111, [2, 11, 145], .null, []), (56, .ifCond .eq 21, [77], .null, []), (59, .iload 4, [], .null, []), (61, .ifCond .eq 16, [77], .null, []), (64, .aload 0, [], .null, []), (65, .iload 1, [], .null, []), (66, .iload 2, [], .null, []), (67, .invokestatic 46, [140, 2], .null, []), (70, .iload 3, [], .null, []), (71, .invokevirtual 70, [3, 11, 138], .null, []), (74, .goto 9, [83], .null, [])] := rfl
theorem b168_77 : am_b168 77 = [(77, .aload 0, [], .null, []), (78, .aconst_null, [], .int (-1000000001), []), (80, .invokevirtual 73, [2, 11, 133], .null, []), (83, .nop, [83], .null, [])] := rfl
theorem b168_83 : am_b168 83 = [(83, .ireturn, [0], .null, [])] := rfl
theorem pr_168 : am_pr 168 = (am_b168, 5, 0, 0) := rfl
theorem b169_0 : am_b169 0 = [(0, .aload 0, [], .null, []), (1, .iload 1, [], .null, []), (2, .invokevirtual 111, [2, 11, 145], .null, []), (5, .ifCond .eq 23, [28], .null, []), (8, .iload 2, [], .null, []), (9, .invokestatic 103, [146, 1], .null, []), (12, .ifCond .eq 16, [28], .null, []), (15, .aload 0, [], .null, []), (16, .iload 1, [], .null, []), (17, .aconst_null, [], .int 0, []), (18, .invokestatic 46, [140, 2], .null, []), (21, .iload 2, [], .null, []), (22, .invokevirtual 70, [3, 11, 138], .null, []), (25, .goto 9, [34], .null, [])] := rfl
theorem b169_28 : am_b169 28 = [(28, .aload 0, [], .null, []), (29, .aconst_null, [], .int (-1000000001), []), (31, .invokevirtual 73, [2, 11, 133], .null, []), (34, .nop, [34], .null, [])] := rfl
theorem b169_34 : am_b169 34 = [(34, .ireturn, [0], .null, [])] := rfl
theorem pr_169 : am_pr 169 = (am_b169, 3, 0, 0) := rfl
theorem b170_0 : am_b170 0 = [(0, .iload 1, [], .null, []), (1, .ifCond .eq 28, [29], .null, []), (4, .iload 0, [], .null, []), (5, .iload 1, [], .null, []), (6, .if_icmp .eq 23, [29], .null, []), (9, .iload 0, [], .null, []), (10, .aconst_null, [], .int 4, []), (11, .if_icmp .ne 8, [19], .null, []), (14, .iload 1, [], .null, []), (15, .aconst_null, [], .int 1, []), (16, .if_icmp .eq 13, [29], .null, []), (19, .nop, [19], .null, [])] := rfl
theorem b170_19 : am_b170 19 = [(19, .iload 0, [], .null, []), (20, .aconst_null, [], .int 5, []), (21, .if_icmp .ne 12, [33], .null, []), (24, .iload 1, [], .null, []), (25, .aconst_null, [], .int 2, []), (26, .if_icmp .ne 7, [33], .null, []), (29, .nop, [29], .null, [])] := rfl
theorem b170_29 : am_b170 29 = [(29, .aconst_null, [], .int 1, []), (30, .goto 4, [34], .null, [])] := rfl
theorem b170_33 : am_b170 33 = [(33, .aconst_null, [], .int 0, []), (34, .nop, [34], .null, [])] := rfl
theorem b170_34 : am_b170 34 = [(34, .ireturn, [1], .null, [])] := rfl
theorem pr_170 : am_pr 170 = (am_b170, 2, 0, 0) := rfl
theorem b171_0 : am_b171 0 = [(0, .aload 0, [], .null, []), (1, .iload 1, [], .null, []), (2, .invokevirtual 111, [2, 11, 145], .null, []), (5, .ifCond .eq 10, [15], .null, []), (8, .iload 2, [], .null, []), (9, .invokestatic 103, [146, 1], .null, []), (12, .ifCond .ne 10, [22], .null, []), (15, .nop, [15], .null, [])] := rfl
theorem b171_15 : am_b171 15 = [(15, .aload 0, [], .null, []), (16, .aconst_null, [], .int (-1000000001), []), (18, .invokevirtual 73, [2, 11, 133], .null, []), (21, .ireturn, [0], .null, [])] := rfl
theorem b171_22 : am_b171 22 = [(22, .aload 0, [], .null, []), (23, .iload 1, [], .null, []), (24, .aconst_null, [], .int 0, []), (25, .invokevirtual 61, [3, 11, 141], .null, []), (28, .iload 2, [], .null, []), (29, .invokestatic 133, [170, 2], .null, []), (32, .ifCond .eq 12, [44], .null, []), (35, .aload 0, [], .null, []), (36, .iload 1, [], .null, []), (37, .aconst_null, [], .int 5, []), (38, .invokevirtual 61, [3, 11, 141], .null, []), (41, .goto 9, [50], .null, [])] := rfl
theorem b171_44 : am_b171 44 = [(44, .aload 0, [], .null, []), (45, .aconst_null, [], .int (-1000000003), []), (47, .invokevirtual 73, [2, 11, 133], .null, []), (50, .nop, [50], .null, [])] := rfl
theorem b171_50 : am_b171 50 = [(50, .ireturn, [0], .null, [])] := rfl
theorem pr_171 : am_pr 171 = (am_b171, 3, 0, 0) := rfl
theorem b172_0 : am_b172 0 = [(0, .aload 0, [], .null, []), (1, .iload 1, [], .null, []), (2, .aconst_null, [], .int 4, []), (3, .invokevirtual 61, [3, 11, 141], .null, []), (6, .aconst_null, [], .int 1, []), (7, .if_icmp .ne 12, [19], .null, []), (10, .aload 0, [], .null, []), (11, .iload 1, [], .null, []), (12, .aconst_null, [], .int 3, []), (13, .invokevirtual 61, [3, 11, 141], .null, []), (16, .goto 9, [25], .null, [])] := rfl
theorem b172_19 : am_b172 19 = [(19, .aload 0, [], .null, []), (20, .iload 1, [], .null, []), (21, .aconst_null, [], .int 2, []), (22, .invokevirtual 61, [3, 11, 141], .null, []), (25, .nop, [25], .null, [])] := rfl
theorem b172_25 : am_b172 25 = [(25, .ireturn, [0], .null, [])] := rfl
theorem pr_172 : am_pr 172 = (am_b172, 2, 0, 0) := rfl
theorem b173_0 : am_b173 0 = [(0, .aload 0, [], .null, []), (1, .getfield 7, [11, 0], .null, []), (4, .iload 1, [], .null, []), (5, .aconst_null, [], .int 5, []), (6, .invokestatic 46, [140, 2], .null, []), (9, .aload 0, [], .null, []), (10, .iload 1, [], .null, []), (11, .aconst_null, [], .int 5, []), (12, .invokevirtual 61, [3, 11, 141], .null, []), (15, .iload 2, [], .null, []), (16, .iadd, [], .null, []), (17, .aconst_null, [], .int 9999, []), (20, .invokestatic 138, [147, 2], .null, []), (23, .iastore, [], .null, []), (24, .return_, [], .null, [])] := rfl
theorem pr_173 : am_pr 173 = (am_b173, 3, 0, 0) := rfl
theorem b174_0 : am_b174 0 = [(0, .aload 0, [], .null, []), (1, .iload 1, [], .null, []), (2, .aconst_null, [], .int 1, []), (3, .invokevirtual 61, [3, 11, 141], .null, []), (6, .istore 3, [], .null, []), (7, .iload 2, [], .null, []), (8, .aconst_null, [], .int 6, []), (10, .idiv, [], .null, []), (11, .iload 3, [], .null, []), (12, .aconst_null, [], .int 6, []), (14, .idiv, [], .null, []), (15, .isub, [], .null, []), (16, .istore 4, [], .null, []), (18, .iload 2, [], .null, []), (19, .aconst_null, [], .int 6, []), (21, .irem, [], .null, []), (22, .iload 3, [], .null, []), (23, .aconst_null, [], .int 6, []), (25, .irem, [], .null, []), (26, .isub, [], .null, []), (27, .istore 5, [], .null, []), (29, .iload 4, [], .null, []), (31, .ifCond .eq 20, [51], .null, []), (34, .aload 0, [], .null, []), (35, .iload 1, [], .null, []), (36, .invokevirtual 122, [2, 11, 161], .null, []), (39, .ifCond .ne 8, [47], .null, []), (42, .iload 5, [], .null, []), (44, .ifCond .ne 7, [51], .null, []), (47, .nop, [47], .null, [])] := rfl
theorem b174_47 : am_b174 47 = [(47, .aconst_null, [], .int 1, []), (48, .goto 4, [52], .null, [])] := rfl
theorem b174_51 : am_b174 51 = [(51, .aconst_null, [], .int 0, []), (52, .nop, [52], .null, [])] := rfl
theorem b174_52 : am_b174 52 = [(52, .istore 6, [], .null, []), (54, .iload 6, [], .null, []), (56, .ifCond .eq 20, [76], .null, []), (59, .iload 3, [], .null, []), (60, .iload 4, [], .null, []), (62, .ifCond .le 8, [70], .null, []), (65, .aconst_null, [], .int 6, []), (67, .goto 5, [72], .null, [])] := rfl
theorem b174_70 : am_b174 70 = [(70, .aconst_null, [], .int (-6), []), (72, .nop, [72], .null, [])] := rfl
theorem b174_72 : am_b174 72 = [(72, .iadd, [], .null, []), (73, .goto 15, [88], .null, [])] := rfl
theorem b174_76 : am_b174 76 = [(76, .iload 3, [], .null, []), (77, .iload 5, [], .null, []), (79, .ifCond .le 7, [86], .null, []), (82, .aconst_null, [], .int 1, []), (83, .goto 4, [87], .null, [])] := rfl
theorem b174_86 : am_b174 86 = [(86, .aconst_null, [], .int (-1), []), (87, .nop, [87], .null, [])] := rfl
theorem b174_87 : am_b174 87 = [(87, .iadd, [], .null, []), (88, .nop, [88], .null, [])] := rfl
theorem b174_88 : am_b174 88 = [(88, .ireturn, [0], .null, [])] := rfl
theorem pr_174 : am_pr 174 = (am_b174, 7, 0, 0) := rfl
theorem b175_0 : am_b175 0 = [(0, .aload 0, [], .null, []), (1, .iload 1, [], .null, []), (2, .invokevirtual 141, [2, 11, 172], .null, []), (5, .istore 2, [], .null, []), (6, .aload 0, [], .null, []), (7, .iload 1, [], .null, []), (8, .aconst_null, [], .int 1, []), (9, .invokevirtual 61, [3, 11, 141], .null, []), (12, .iload 2, [], .null, []), (13, .if_icmp .ne 4, [17], .null, []), (16, .return_, [], .null, [])] := rfl
theorem b175_17 : am_b175 17 = [(17, .aload 0, [], .null, []), (18, .iload 1, [], .null, []), (19, .iload 2, [], .null, []), (20, .invokevirtual 144, [3, 11, 174], .null, []), (23, .istore 3, [], .null, []), (24, .aload 0, [], .null, []), (25, .iload 3, [], .null, []), (26, .invokevirtual 147, [2, 11, 142], .null, []), (29, .ifCond .eq 15, [44], .null, []), (32, .aload 0, [], .null, []), (33, .getfield 7, [11, 0], .null, []), (36, .iload 1, [], .null, []), (37, .aconst_null, [], .int 1, []), (38, .invokestatic 46, [140, 2], .null, []), (41, .iload 3, [], .null, []), (42, .iastore, [], .null, []), (43, .return_, [], .null, [])] := rfl
theorem b175_44 : am_b175 44 = [(44, .aload 0, [], .null, []), (45, .iload 1, [], .null, []), (46, .invokevirtual 119, [2, 11, 160], .null, []), (49, .istore 4, [], .null, []), (51, .iload 4, [], .null, []), (53, .ifCond .ge 22, [75], .null, []), (56, .aload 0, [], .null, []), (57, .getfield 7, [11, 0], .null, []), (60, .iload 1, [], .null, []), (61, .aconst_null, [], .int 4, []), (62, .invokestatic 46, [140, 2], .null, []), (65, .aconst_null, [], .int 1, []), (66, .aload 0, [], .null, []), (67, .iload 1, [], .null, []), (68, .aconst_null, [], .int 4, []), (69, .invokevirtual 61, [3, 11, 141], .null, []), (72, .isub, [], .null, []), (73, .iastore, [], .null, []), (74, .return_, [], .null, [])] := rfl
theorem b175_75 : am_b175 75 = [(75, .aload 0, [], .null, []), (76, .getfield 7, [11, 0], .null, []), (79, .iload 3, [], .null, []), (80, .aconst_null, [], .int 0, []), (81, .invokestatic 50, [139, 2], .null, []), (84, .aconst_null, [], .int 1, []), (85, .iastore, [], .null, []), (86, .aload 0, [], .null, []), (87, .iload 1, [], .null, []), (88, .aload 0, [], .null, []), (89, .iload 1, [], .null, []), (90, .invokevirtual 125, [2, 11, 162], .null, []), (93, .invokevirtual 150, [3, 11, 173], .null, []), (96, .aload 0, [], .null, []), (97, .getfield 7, [11, 0], .null, []), (100, .iload 1, [], .null, []), (101, .aconst_null, [], .int 1, []), (102, .invokestatic 46, [140, 2], .null, []), (105, .iload 4, [], .null, []), (107, .aconst_null, [], .int 1, []), (108, .if_icmp .ne 7, [115], .null, []), (111, .iload 3, [], .null, []), (112, .goto 9, [121], .null, [])] := rfl
theorem b175_115 : am_b175 115 = [(115, .aload 0, [], .null, []), (116, .iload 1, [], .null, []), (117, .aconst_null, [], .int 1, []), (118, .invokevirtual 61, [3, 11, 141], .null, []), (121, .nop, [121], .null, [])] := rfl
theorem b175_121 : am_b175 121 = [(121, .iastore, [], .null, []), (122, .return_, [], .null, [])] := rfl
theorem pr_175 : am_pr 175 = (am_b175, 5, 0, 0) := rfl
theorem b176_0 : am_b176 0 = [(0, .aload 0, [], .null, []), (1, .iload 1, [], .null, []), (2, .aconst_null, [], .int 3, []), (3, .invokevirtual 61, [3, 11, 141], .null, []), (6, .aconst_null, [], .int 1, []), (7, .invokestatic 50, [139, 2], .null, []), (10, .istore 2, [], .null, []), (11, .aload 0, [], .null, []), (12, .getfield 7, [11, 0], .null, []), (15, .aconst_null, [], .int 104, []), (17, .aload 0, [], .null, []), (18, .iload 1, [], .null, []), (19, .aconst_null, [], .int 6, []), (21, .invokevirtual 61, [3, 11, 141], .null, []), (24, .iadd, [], .null, []), (25, .aconst_null, [], .int (-3), []), (27, .iastore, [], .null, []), (28, .aload 0, [], .null, []), (29, .getfield 7, [11, 0], .null, []), (32, .iload 1, [], .null, []), (33, .aconst_null, [], .int 6, []), (35, .invokestatic 46, [140, 2], .null, []), (38, .aconst_null, [], .int (-1), []), (39, .iastore, [], .null, []), (40, .aload 0, [], .null, []), (41, .getfield 7, [11, 0], .null, []), (44, .iload 2, [], .null, []), (45, .aload 0, [], .null, []), (46, .getfield 7, [11, 0], .null, []), (49, .iload 2, [], .null, []), (50, .iaload, [], .null, []), (51, .aconst_null, [], .int 1, []), (52, .iadd, [], .null, []), (53, .aconst_null, [], .int 99, []), (55, .invokestatic 138, [147, 2], .null, []), (58, .iastore, [], .null, []), (59, .aload 0, [], .null, []), (60, .iload 1, [], .null, []), (61, .aload 0, [], .null, []), (62, .iload 1, [], .null, []), (63, .invokevirtual 128, [2, 11, 163], .null, []), (66, .invokevirtual 150, [3, 11, 173], .null, []), (69, .return_, [], .null, [])] := rfl
theorem pr_176 : am_pr 176 = (am_b176, 3, 0, 0) := rfl
theorem b177_0 : am_b177 0 = [(0, .aconst_null, [], .int 0, []), (1, .istore 2, [], .null, []), (2, .nop, [2], .null, [])] := rfl
theorem b177_2 : am_b177 2 = [(2, .iload 2, [], .null, []), (3, .aconst_null, [], .int 6, []), (5, .if_icmp .ge 27, [32], .null, []), (8, .aload 0, [], .null, []), (9, .getfield 7, [11, 0], .null, []), (12, .aconst_null, [], .int 104, []), (14, .iload 2, [], .null, []), (15, .iadd, [], .null, []), (16, .iaload, [], .null, []), (17, .aload 0, [], .null, []), (18, .iload 1, [], .null, []), (19, .aconst_null, [], .int 1, []), (20, .invokevirtual 61, [3, 11, 141], .null, []), (23, .if_icmp .eq 9, [32], .null, []), (26, .iinc 2 1, [], .int 1, []), (29, .goto (-27), [2], .null, [])] := rfl
theorem b177_32 : am_b177 32 = [(32, .iload 2, [], .null, []), (33, .aconst_null, [], .int 6, []), (35, .if_icmp .ge 26, [61], .null, []), (38, .aload 0, [], .null, []), (39, .getfield 7, [11, 0], .null, []), (42, .aconst_null, [], .int 104, []), (44, .iload 2, [], .null, []), (45, .iadd, [], .null, []), (46, .aconst_null, [], .int (-2), []), (48, .iastore, [], .null, []), (49, .aload 0, [], .null, []), (50, .getfield 7, [11, 0], .null, []), (53, .iload 1, [], .null, []), (54, .aconst_null, [], .int 6, []), (56, .invokestatic 46, [140, 2], .null, []), (59, .iload 2, [], .null, []), (60, .iastore, [], .null, []), (61, .nop, [61], .null, [])] := rfl
theorem b177_61 : am_b177 61 = [(61, .return_, [], .null, [])] := rfl
theorem pr_177 : am_pr 177 = (am_b177, 3, 0, 0) := rfl
theorem b178_0 : am_b178 0 = [(0, .aload 0, [], .null, []), (1, .iload 1, [], .null, []), (2, .aconst_null, [], .int 1, []), (3, .invokevirtual 61, [3, 11, 141], .null, []), (6, .aload 0, [], .null, []), (7, .iload 1, [], .null, []), (8, .aconst_null, [], .int 3, []), (9, .invokevirtual 61, [3, 11, 141], .null, []), (12, .if_icmp .ne 7, [19], .null, []), (15, .aconst_null, [], .int 1, []), (16, .goto 4, [20], .null, [])] := rfl
theorem b178_19 : am_b178 19 = [(19, .aconst_null, [], .int 0, []), (20, .nop, [20], .null, [])] := rfl
theorem b178_20 : am_b178 20 = [(20, .istore 2, [], .null, []), (21, .iload 2, [], .null, []), (22, .ifCond .eq 19, [41], .null, []), (25, .aload 0, [], .null, []), (26, .iload 1, [], .null, []), (27, .aconst_null, [], .int 6, []), (29, .invokevirtual 61, [3, 11, 141], .null, []), (32, .aconst_null, [], .int (-1), []), (33, .if_icmp .eq 8, [41], .null, []), (36, .aload 0, [], .null, []), (37, .iload 1, [], .null, []), (38, .invokevirtual 154, [2, 11, 176], .null, []), (41, .nop, [41], .null, [])] := rfl
theorem b178_41 : am_b178 41 = [(41, .iload 2, [], .null, []), (42, .ifCond .ne 19, [61], .null, []), (45, .aload 0, [], .null, []), (46, .iload 1, [], .null, []), (47, .aconst_null, [], .int 6, []), (49, .invokevirtual 61, [3, 11, 141], .null, []), (52, .aconst_null, [], .int (-1), []), (53, .if_icmp .ne 8, [61], .null, []), (56, .aload 0, [], .null, []), (57, .iload 1, [], .null, []), (58, .invokevirtual 158, [2, 11, 177], .null, []), (61, .nop, [61], .null, [])] := rfl
theorem b178_61 : am_b178 61 = [(61, .aload 0, [], .null, []), (62, .iload 1, [], .null, []), (63, .aconst_null, [], .int 1, []), (64, .invokevirtual 61, [3, 11, 141], .null, []), (67, .aload 0, [], .null, []), (68, .iload 1, [], .null, []), (69, .invokevirtual 141, [2, 11, 172], .null, []), (72, .if_icmp .ne 21, [93], .null, []), (75, .aload 0, [], .null, []), (76, .getfield 7, [11, 0], .null, []), (79, .iload 1, [], .null, []), (80, .aconst_null, [], .int 4, []), (81, .invokestatic 46, [140, 2], .null, []), (84, .aconst_null, [], .int 1, []), (85, .aload 0, [], .null, []), (86, .iload 1, [], .null, []), (87, .aconst_null, [], .int 4, []), (88, .invokevirtual 61, [3, 11, 141], .null, []), (91, .isub, [], .null, []), (92, .iastore, [], .null, []), (93, .nop, [93], .null, [])] := rfl
theorem b178_93 : am_b178 93 = [(93, .return_, [], .null, [])] := rfl
theorem pr_178 : am_pr 178 = (am_b178, 3, 0, 0) := rfl
theorem b179_0 : am_b179 0 = [(0, .aconst_null, [], .int 0, []), (1, .istore 1, [], .null, []), (2, .nop, [2], .null, [])] := rfl
theorem b179_2 : am_b179 2 = [(2, .iload 1, [], .null, []), (3, .aload 0, [], .null, []), (4, .getfield 7, [11, 0], .null, []), (7, .aconst_null, [], .int 1, []), (8, .iaload, [], .null, []), (9, .if_icmp .ge 51, [60], .null, []), (12, .iload 1, [], .null, []), (13, .aload 0, [], .null, []), (14, .getfield 25, [11, 6], .null, []), (17, .if_icmp .eq 37, [54], .null, []), (20, .aload 0, [], .null, []), (21, .iload 1, [], .null, []), (22, .invokevirtual 116, [2, 11, 159], .null, []), (25, .istore 2, [], .null, []), (26, .aload 0, [], .null, []), (27, .iload 1, [], .null, []), (28, .invokevirtual 161, [2, 11, 178], .null, []), (31, .aconst_null, [], .int 0, []), (32, .istore 3, [], .null, []), (33, .nop, [33], .null, [])] := rfl
theorem b179_33 : am_b179 33 = [(33, .iload 3, [], .null, []), (34, .iload 2, [], .null, []), (35, .if_icmp .ge 19, [54], .null, []), (38, .aload 0, [], .null, []), (39, .iload 1, [], .null, []), (40, .invokevirtual 164, [2, 11, 175], .null, []), (43, .aload 0, [], .null, []), (44, .iload 1, [], .null, []), (45, .invokevirtual 161, [2, 11, 178], .null, []), (48, .iinc 3 1, [], .int 1, []), (51, .goto (-18), [33], .null, [])] := rfl
theorem b179_54 : am_b179 54 = [(54, .iinc 1 1, [], .int 1, []), (57, .goto (-55), [2], .null, [])] := rfl
theorem b179_60 : am_b179 60 = [(60, .aload 0, [], .null, []), (61, .getfield 7, [11, 0], .null, []), (64, .aconst_null, [], .int 0, []), (65, .dup2, [], .null, []), (66, .iaload, [], .null, []), (67, .aconst_null, [], .int 1, []), (68, .iadd, [], .null, []), (69, .iastore, [], .null, []), (70, .return_, [], .null, [])] := rfl
theorem pr_179 : am_pr 179 = (am_b179, 4, 0, 0) := rfl
theorem b180_0 : am_b180 0 = [(0, .aconst_null, [], .int 0, []), (1, .istore 2, [], .null, []), (2, .nop, [2], .null, [])] := rfl
theorem b180_2 : am_b180 2 = [(2, .iload 2, [], .null, []), (3, .iload 1, [], .null, []), (4, .if_icmp .ge 13, [17], .null, []), (7, .aload 0, [], .null, []), (8, .invokevirtual 167, [1, 11, 179], .null, []), (11, .iinc 2 1, [], .int 1, []), (14, .goto (-12), [2], .null, [])] := rfl
theorem b180_17 : am_b180 17 = [(17, .return_, [], .null, [])] := rfl
theorem pr_180 : am_pr 180 = (am_b180, 3, 0, 0) := rfl
theorem b181_0 : am_b181 0 = [(0, .iload 1, [], .null, []), (1, .i2l, [], .null, []), (2, .aconst_null, [], .long 1, []), (3, .aconst_null, [], .long 100, []), (6, .invokestatic 55, [132, 3], .null, []), (9, .ifCond .ne 10, [19], .null, []), (12, .aload 0, [], .null, []), (13, .aconst_null, [], .int (-1000000001), []), (15, .invokevirtual 73, [2, 11, 133], .null, []), (18, .ireturn, [0], .null, [])] := rfl
theorem b181_19 : am_b181 19 = [(19, .aload 0, [], .null, []), (20, .getfield 7, [11, 0], .null, []), (23, .aconst_null, [], .int 0, []), (24, .iaload, [], .null, []), (25, .iload 1, [], .null, []), (26, .iadd, [], .null, []), (27, .aconst_null, [], .int 99999, []), (29, .if_icmp .le 10, [39], .null, []), (32, .aload 0, [], .null, []), (33, .aconst_null, [], .int (-1000000005), []), (35, .invokevirtual 73, [2, 11, 133], .null, []), (38, .ireturn, [0], .null, [])] := rfl
theorem b181_39 : am_b181 39 = [(39, .aload 0, [], .null, []), (40, .iload 1, [], .null, []), (41, .invokevirtual 174, [2, 11, 180], .null, []), (44, .aload 0, [], .null, []), (45, .aconst_null, [], .int (-3), []), (47, .invokevirtual 82, [2, 11, 150], .null, []), (50, .ireturn, [0], .null, [])] := rfl
theorem pr_181 : am_pr 181 = (am_b181, 2, 0, 0) := rfl
theorem b182_0 : am_b182 0 = [(0, .iload 0, [], .null, []), (1, .i2l, [], .null, []), (2, .aconst_null, [], .long 0, []), (3, .aconst_null, [], .long 200, []), (6, .invokestatic 55, [132, 3], .null, []), (9, .ireturn, [1], .null, [])] := rfl
theorem pr_182 : am_pr 182 = (am_b182, 1, 0, 0) := rfl
theorem b183_0 : am_b183 0 = [(0, .aload 0, [], .null, []), (1, .invokevirtual 179, [1, 11, 136], .null, []), (4, .aload 0, [], .null, []), (5, .iload 2, [], .null, []), (6, .invokevirtual 174, [2, 11, 180], .null, []), (9, .aload 0, [], .null, []), (10, .aload 0, [], .null, []), (11, .getfield 7, [11, 0], .null, []), (14, .iload 1, [], .null, []), (15, .iaload, [], .null, []), (16, .invokevirtual 182, [2, 11, 137], .null, []), (19, .ireturn, [0], .null, [])] := rfl
theorem pr_183 : am_pr 183 = (am_b183, 3, 0, 0) := rfl
theorem b184_0 : am_b184 0 = [(0, .aload 0, [], .null, []), (1, .invokevirtual 179, [1, 11, 136], .null, []), (4, .aload 0, [], .null, []), (5, .iload 1, [], .null, []), (6, .invokevirtual 174, [2, 11, 180], .null, []), (9, .aload 0, [], .null, []), (10, .aload 0, [], .null, []), (11, .invokevirtual 100, [1, 11, 151], .null, []), (14, .invokevirtual 182, [2, 11, 137], .null, []), (17, .ireturn, [0], .null, [])] := rfl
theorem pr_184 : am_pr 184 = (am_b184, 2, 0, 0) := rfl
theorem b185_0 : am_b185 0 = [(0, .aload 0, [], .null, []), (1, .invokevirtual 179, [1, 11, 136], .null, []), (4, .aload 0, [], .null, []), (5, .iload 1, [], .null, []), (6, .invokevirtual 174, [2, 11, 180], .null, []), (9, .aload 0, [], .null, []), (10, .aconst_null, [], .int (-3), []), (12, .invokevirtual 82, [2, 11, 150], .null, []), (15, .istore 2, [], .null, []), (16, .aconst_null, [], .int 0, []), (17, .istore 3, [], .null, []), (18, .aconst_null, [], .int 0, []), (19, .istore 4, [], .null, []), (21, .nop, [21], .null, [])] := rfl
theorem b185_21 : am_b185 21 = [(21, .iload 4, [], .null, []), (23, .aconst_null, [], .int 6, []), (25, .if_icmp .ge 18, [43], .null, []), (28, .iload 3, [], .null, []), (29, .iload 2, [], .null, []), (30, .iload 4, [], .null, []), (32, .ishr, [], .null, []), (33, .aconst_null, [], .int 1, []), (34, .iand, [], .null, []), (35, .iadd, [], .null, []), (36, .istore 3, [], .null, []), (37, .iinc 4 1, [], .int 1, []), (40, .goto (-19), [21], .null, [])] := rfl
theorem b185_43 : am_b185 43 = [(43, .aload 0, [], .null, []), (44, .iload 3, [], .null, []), (45, .invokevirtual 182, [2, 11, 137], .null, []), (48, .ireturn, [0], .null, [])] := rfl
theorem pr_185 : am_pr 185 = (am_b185, 5, 0, 0) := rfl
theorem b186_0 : am_b186 0 = [(0, .aload 0, [], .null, []), (1, .iload 1, [], .null, []), (2, .invokevirtual 111, [2, 11, 145], .null, []), (5, .ifCond .eq 22, [27], .null, []), (8, .iload 2, [], .null, []), (9, .invokestatic 185, [182, 1], .null, []), (12, .ifCond .eq 15, [27], .null, []), (15, .iload 3, [], .null, []), (16, .i2l, [], .null, []), (17, .aconst_null, [], .long 0, []), (18, .aconst_null, [], .long 2, []), (21, .invokestatic 55, [132, 3], .null, []), (24, .ifCond .ne 10, [34], .null, []), (27, .nop, [27], .null, [])] := rfl
theorem b186_27 : am_b186 27 = [(27, .aload 0, [], .null, []), (28, .aconst_null, [], .int (-1000000001), []), (30, .invokevirtual 73, [2, 11, 133], .null, []), (33, .ireturn, [0], .null, [])] := rfl
theorem b186_34 : am_b186 34 = [(34, .aload 0, [], .null, []), (35, .iload 1, [], .null, []), (36, .iload 3, [], .null, []), (37, .ifCond .ne 7, [44], .null, []), (40, .aconst_null, [], .int 1, []), (41, .goto 14, [55], .null, [])] := rfl
theorem b186_44 : am_b186 44 = [(44, .iload 3, [], .null, []), (45, .aconst_null, [], .int 1, []), (46, .if_icmp .ne 7, [53], .null, []), (49, .aconst_null, [], .int 5, []), (50, .goto 5, [55], .null, [])] := rfl
theorem b186_53 : am_b186 53 = [(53, .aconst_null, [], .int 6, []), (55, .nop, [55], .null, [])] := rfl
theorem b186_55 : am_b186 55 = [(55, .invokestatic 46, [140, 2], .null, []), (58, .iload 2, [], .null, []), (59, .invokevirtual 190, [3, 11, 183], .null, []), (62, .ireturn, [0], .null, [])] := rfl
theorem pr_186 : am_pr 186 = (am_b186, 4, 0, 0) := rfl
theorem b187_0 : am_b187 0 = [(0, .iload 1, [], .null, []), (1, .invokestatic 85, [144, 1], .null, []), (4, .ifCond .eq 22, [26], .null, []), (7, .iload 2, [], .null, []), (8, .invokestatic 185, [182, 1], .null, []), (11, .ifCond .eq 15, [26], .null, []), (14, .aload 0, [], .null, []), (15, .aconst_null, [], .int 104, []), (17, .iload 1, [], .null, []), (18, .iadd, [], .null, []), (19, .iload 2, [], .null, []), (20, .invokevirtual 190, [3, 11, 183], .null, []), (23, .goto 9, [32], .null, [])] := rfl
theorem b187_26 : am_b187 26 = [(26, .aload 0, [], .null, []), (27, .aconst_null, [], .int (-1000000001), []), (29, .invokevirtual 73, [2, 11, 133], .null, []), (32, .nop, [32], .null, [])] := rfl
theorem b187_32 : am_b187 32 = [(32, .ireturn, [0], .null, [])] := rfl
theorem pr_187 : am_pr 187 = (am_b187, 3, 0, 0) := rfl
theorem b188_0 : am_b188 0 = [(0, .aload 0, [], .null, []), (1, .invokevirtual 179, [1, 11, 136], .null, []), (4, .aconst_null, [], .int 0, []), (5, .istore 4, [], .null, []), (7, .nop, [7], .null, [])] := rfl
theorem b188_7 : am_b188 7 = [(7, .iload 4, [], .null, []), (9, .iload 3, [], .null, []), (10, .if_icmp .gt 23, [33], .null, []), (13, .aload 0, [], .null, []), (14, .getfield 7, [11, 0], .null, []), (17, .iload 1, [], .null, []), (18, .iaload, [], .null, []), (19, .iload 2, [], .null, []), (20, .if_icmp .eq 13, [33], .null, []), (23, .aload 0, [], .null, []), (24, .invokevirtual 167, [1, 11, 179], .null, []), (27, .iinc 4 1, [], .int 1, []), (30, .goto (-23), [7], .null, [])] := rfl
theorem b188_33 : am_b188 33 = [(33, .aload 0, [], .null, []), (34, .iload 4, [], .null, []), (36, .invokevirtual 182, [2, 11, 137], .null, []), (39, .ireturn, [0], .null, [])] := rfl
theorem pr_188 : am_pr 188 = (am_b188, 5, 0, 0) := rfl
theorem b189_0 : am_b189 0 = [(0, .aload 0, [], .null, []), (1, .iload 1, [], .null, []), (2, .iload 2, [], .null, []), (3, .aconst_null, [], .int 200, []), (6, .invokevirtual 193, [4, 11, 188], .null, []), (9, .istore 3, [], .null, []), (10, .iload 3, [], .null, []), (11, .aconst_null, [], .int 200, []), (14, .if_icmp .le 12, [26], .null, []), (17, .aload 0, [], .null, []), (18, .aconst_null, [], .int (-1000000004), []), (20, .invokevirtual 73, [2, 11, 133], .null, []), (23, .goto 4, [27], .null, [])] := rfl
theorem b189_26 : am_b189 26 = [(26, .iload 3, [], .null, []), (27, .nop, [27], .null, [])] := rfl
theorem b189_27 : am_b189 27 = [(27, .ireturn, [0], .null, [])] := rfl
theorem pr_189 : am_pr 189 = (am_b189, 4, 0, 0) := rfl
theorem b190_0 : am_b190 0 = [(0, .iload 1, [], .null, []), (1, .invokestatic 85, [144, 1], .null, []), (4, .ifCond .eq 16, [20], .null, []), (7, .aload 0, [], .null, []), (8, .aconst_null, [], .int 104, []), (10, .iload 1, [], .null, []), (11, .iadd, [], .null, []), (12, .aconst_null, [], .int (-3), []), (14, .invokevirtual 197, [3, 11, 189], .null, []), (17, .goto 9, [26], .null, [])] := rfl
theorem b190_20 : am_b190 20 = [(20, .aload 0, [], .null, []), (21, .aconst_null, [], .int (-1000000001), []), (23, .invokevirtual 73, [2, 11, 133], .null, []), (26, .nop, [26], .null, [])] := rfl
theorem b190_26 : am_b190 26 = [(26, .ireturn, [0], .null, [])] := rfl
theorem pr_190 : am_pr 190 = (am_b190, 2, 0, 0) := rfl
theorem b191_0 : am_b191 0 = [(0, .iload 1, [], .null, []), (1, .invokestatic 66, [143, 1], .null, []), (4, .ifCond .eq 16, [20], .null, []), (7, .aload 0, [], .null, []), (8, .iload 1, [], .null, []), (9, .aconst_null, [], .int 0, []), (10, .invokestatic 50, [139, 2], .null, []), (13, .aconst_null, [], .int 1, []), (14, .invokevirtual 197, [3, 11, 189], .null, []), (17, .goto 9, [26], .null, [])] := rfl
theorem b191_20 : am_b191 20 = [(20, .aload 0, [], .null, []), (21, .aconst_null, [], .int (-1000000001), []), (23, .invokevirtual 73, [2, 11, 133], .null, []), (26, .nop, [26], .null, [])] := rfl
theorem b191_26 : am_b191 26 = [(26, .ireturn, [0], .null, [])] := rfl
theorem pr_191 : am_pr 191 = (am_b191, 2, 0, 0) := rfl
theorem b192_0 : am_b192 0 = [(0, .aload 0, [], .null, []), (1, .iload 1, [], .null, []), (2, .invokevirtual 111, [2, 11, 145], .null, []), (5, .ifCond .eq 23, [28], .null, []), (8, .iload 2, [], .null, []), (9, .invokestatic 66, [143, 1], .null, []), (12, .ifCond .eq 16, [28], .null, []), (15, .aload 0, [], .null, []), (16, .iload 1, [], .null, []), (17, .aconst_null, [], .int 1, []), (18, .invokestatic 46, [140, 2], .null, []), (21, .iload 2, [], .null, []), (22, .invokevirtual 197, [3, 11, 189], .null, []), (25, .goto 9, [34], .null, [])] := rfl
theorem b192_28 : am_b192 28 = [(28, .aload 0, [], .null, []), (29, .aconst_null, [], .int (-1000000001), []), (31, .invokevirtual 73, [2, 11, 133], .null, []), (34, .nop, [34], .null, [])] := rfl
theorem b192_34 : am_b192 34 = [(34, .ireturn, [0], .null, [])] := rfl
theorem pr_192 : am_pr 192 = (am_b192, 3, 0, 0) := rfl
theorem b193_0 : am_b193 0 = [(0, .iload 0, [], .null, []), (1, .i2l, [], .null, []), (2, .aconst_null, [], .long 1, []), (3, .aconst_null, [], .long 60, []), (6, .invokestatic 55, [132, 3], .null, []), (9, .ireturn, [1], .null, [])] := rfl
theorem pr_193 : am_pr 193 = (am_b193, 1, 0, 0) := rfl
theorem b194_0 : am_b194 0 = [(0, .aload 0, [], .null, []), (1, .iload 1, [], .null, []), (2, .invokevirtual 111, [2, 11, 145], .null, []), (5, .ifCond .eq 10, [15], .null, []), (8, .iload 2, [], .null, []), (9, .invokestatic 85, [144, 1], .null, []), (12, .ifCond .ne 10, [22], .null, []), (15, .nop, [15], .null, [])] := rfl
theorem b194_15 : am_b194 15 = [(15, .aload 0, [], .null, []), (16, .aconst_null, [], .int (-1000000001), []), (18, .invokevirtual 73, [2, 11, 133], .null, []), (21, .ireturn, [0], .null, [])] := rfl
theorem b194_22 : am_b194 22 = [(22, .iload 1, [], .null, []), (23, .aconst_null, [], .int 0, []), (24, .invokestatic 46, [140, 2], .null, []), (27, .istore 3, [], .null, []), (28, .aload 0, [], .null, []), (29, .getfield 7, [11, 0], .null, []), (32, .iload 3, [], .null, []), (33, .iaload, [], .null, []), (34, .istore 4, [], .null, []), (36, .aconst_null, [], .int 0, []), (37, .istore 5, [], .null, []), (39, .aconst_null, [], .int 202, []), (42, .istore 6, [], .null, []), (44, .aconst_null, [], .int 0, []), (45, .istore 7, [], .null, []), (47, .nop, [47], .null, [])] := rfl
theorem b194_47 : am_b194 47 = [(47, .iload 7, [], .null, []), (49, .aconst_null, [], .int 5, []), (50, .if_icmp .gt 64, [114], .null, []), (53, .aload 0, [], .null, []), (54, .getfield 7, [11, 0], .null, []), (57, .iload 3, [], .null, []), (58, .iload 7, [], .null, []), (60, .iastore, [], .null, []), (61, .aload 0, [], .null, []), (62, .aconst_null, [], .int 104, []), (64, .iload 2, [], .null, []), (65, .iadd, [], .null, []), (66, .aconst_null, [], .int (-3), []), (68, .aconst_null, [], .int 200, []), (71, .invokevirtual 193, [4, 11, 188], .null, []), (74, .istore 8, [], .null, []), (76, .iload 8, [], .null, []), (78, .iload 6, [], .null, []), (80, .if_icmp .ge 8, [88], .null, []), (83, .iload 7, [], .null, []), (85, .goto 5, [90], .null, [])] := rfl
theorem b194_88 : am_b194 88 = [(88, .iload 5, [], .null, []), (90, .nop, [90], .null, [])] := rfl
theorem b194_90 : am_b194 90 = [(90, .istore 5, [], .null, []), (92, .iload 8, [], .null, []), (94, .iload 6, [], .null, []), (96, .if_icmp .ge 8, [104], .null, []), (99, .iload 8, [], .null, []), (101, .goto 5, [106], .null, [])] := rfl
theorem b194_104 : am_b194 104 = [(104, .iload 6, [], .null, []), (106, .nop, [106], .null, [])] := rfl
theorem b194_106 : am_b194 106 = [(106, .istore 6, [], .null, []), (108, .iinc 7 1, [], .int 1, []), (111, .goto (-64), [47], .null, [])] := rfl
theorem b194_114 : am_b194 114 = [(114, .aload 0, [], .null, []), (115, .getfield 7, [11, 0], .null, []), (118, .iload 3, [], .null, []), (119, .iload 4, [], .null, []), (121, .iastore, [], .null, []), (122, .iload 5, [], .null, []), (124, .ireturn, [0], .null, [])] := rfl
theorem pr_194 : am_pr 194 = (am_b194, 9, 0, 0) := rfl
theorem b195_0 : am_b195 0 = [(0, .aload 0, [], .null, []), (1, .iload 1, [], .null, []), (2, .invokevirtual 111, [2, 11, 145], .null, []), (5, .ifCond .eq 10, [15], .null, []), (8, .iload 2, [], .null, []), (9, .invokestatic 202, [193, 1], .null, []), (12, .ifCond .ne 10, [22], .null, []), (15, .nop, [15], .null, [])] := rfl
theorem b195_15 : am_b195 15 = [(15, .aload 0, [], .null, []), (16, .aconst_null, [], .int (-1000000001), []), (18, .invokevirtual 73, [2, 11, 133], .null, []), (21, .ireturn, [0], .null, [])] := rfl
theorem b195_22 : am_b195 22 = [(22, .iload 1, [], .null, []), (23, .aconst_null, [], .int 3, []), (24, .invokestatic 46, [140, 2], .null, []), (27, .istore 3, [], .null, []), (28, .aload 0, [], .null, []), (29, .getfield 7, [11, 0], .null, []), (32, .iload 3, [], .null, []), (33, .iaload, [], .null, []), (34, .istore 4, [], .null, []), (36, .aconst_null, [], .int 0, []), (37, .istore 5, [], .null, []), (39, .aconst_null, [], .int (-1), []), (40, .istore 6, [], .null, []), (42, .aconst_null, [], .int 0, []), (43, .istore 7, [], .null, []), (45, .nop, [45], .null, [])] := rfl
theorem b195_45 : am_b195 45 = [(45, .iload 7, [], .null, []), (47, .aconst_null, [], .int 30, []), (49, .if_icmp .ge 56, [105], .null, []), (52, .aload 0, [], .null, []), (53, .getfield 7, [11, 0], .null, []), (56, .iload 3, [], .null, []), (57, .iload 7, [], .null, []), (59, .iastore, [], .null, []), (60, .aload 0, [], .null, []), (61, .iload 2, [], .null, []), (62, .invokevirtual 205, [2, 11, 185], .null, []), (65, .istore 8, [], .null, []), (67, .iload 8, [], .null, []), (69, .iload 6, [], .null, []), (71, .if_icmp .le 8, [79], .null, []), (74, .iload 7, [], .null, []), (76, .goto 5, [81], .null, [])] := rfl
theorem b195_79 : am_b195 79 = [(79, .iload 5, [], .null, []), (81, .nop, [81], .null, [])] := rfl
theorem b195_81 : am_b195 81 = [(81, .istore 5, [], .null, []), (83, .iload 8, [], .null, []), (85, .iload 6, [], .null, []), (87, .if_icmp .le 8, [95], .null, []), (90, .iload 8, [], .null, []), (92, .goto 5, [97], .null, [])] := rfl
theorem b195_95 : am_b195 95 = [(95, .iload 6, [], .null, []), (97, .nop, [97], .null, [])] := rfl
theorem b195_97 : am_b195 97 = [(97, .istore 6, [], .null, []), (99, .iinc 7 1, [], .int 1, []), (102, .goto (-57), [45], .null, [])] := rfl
theorem b195_105 : am_b195 105 = [(105, .aload 0, [], .null, []), (106, .getfield 7, [11, 0], .null, []), (109, .iload 3, [], .null, []), (110, .iload 4, [], .null, []), (112, .iastore, [], .null, []), (113, .iload 5, [], .null, []), (115, .ireturn, [0], .null, [])] := rfl
theorem pr_195 : am_pr 195 = (am_b195, 9, 0, 0) := rfl
theorem b196_0 : am_b196 0 = [(0, .iload 1, [], .null, []), (1, .invokestatic 202, [193, 1], .null, []), (4, .ifCond .ne 10, [14], .null, []), (7, .aload 0, [], .null, []), (8, .aconst_null, [], .int (-1000000001), []), (10, .invokevirtual 73, [2, 11, 133], .null, []), (13, .ireturn, [0], .null, [])] := rfl
theorem b196_14 : am_b196 14 = [(14, .aconst_null, [], .int (-1), []), (15, .istore 2, [], .null, []), (16, .aconst_null, [], .int 999999, []), (18, .istore 3, [], .null, []), (19, .aconst_null, [], .int 0, []), (20, .istore 4, [], .null, []), (22, .nop, [22], .null, [])] := rfl
theorem b196_22 : am_b196 22 = [(22, .iload 4, [], .null, []), (24, .aconst_null, [], .int 30, []), (26, .if_icmp .ge 75, [101], .null, []), (29, .aload 0, [], .null, []), (30, .iload 4, [], .null, []), (32, .invokevirtual 147, [2, 11, 142], .null, []), (35, .ifCond .ne 60, [95], .null, []), (38, .aload 0, [], .null, []), (39, .getfield 7, [11, 0], .null, []), (42, .iload 4, [], .null, []), (44, .aconst_null, [], .int 0, []), (45, .invokestatic 50, [139, 2], .null, []), (48, .aconst_null, [], .int 1, []), (49, .iastore, [], .null, []), (50, .aload 0, [], .null, []), (51, .iload 1, [], .null, []), (52, .invokevirtual 209, [2, 11, 184], .null, []), (55, .istore 5, [], .null, []), (57, .aload 0, [], .null, []), (58, .getfield 7, [11, 0], .null, []), (61, .iload 4, [], .null, []), (63, .aconst_null, [], .int 0, []), (64, .invokestatic 50, [139, 2], .null, []), (67, .aconst_null, [], .int 0, []), (68, .iastore, [], .null, []), (69, .iload 5, [], .null, []), (71, .iload 3, [], .null, []), (72, .if_icmp .ge 8, [80], .null, []), (75, .iload 4, [], .null, []), (77, .goto 4, [81], .null, [])] := rfl
theorem b196_80 : am_b196 80 = [(80, .iload 2, [], .null, []), (81, .nop, [81], .null, [])] := rfl
theorem b196_81 : am_b196 81 = [(81, .istore 2, [], .null, []), (82, .iload 5, [], .null, []), (84, .iload 3, [], .null, []), (85, .if_icmp .ge 8, [93], .null, []), (88, .iload 5, [], .null, []), (90, .goto 4, [94], .null, [])] := rfl
theorem b196_93 : am_b196 93 = [(93, .iload 3, [], .null, []), (94, .nop, [94], .null, [])] := rfl
theorem b196_94 : am_b196 94 = [(94, .istore 3, [], .null, []), (95, .nop, [95], .null, [])] := rfl
theorem b196_95 : am_b196 95 = [(95, .iinc 4 1, [], .int 1, []), (98, .goto (-76), [22], .null, [])] := rfl
theorem b196_101 : am_b196 101 = [(101, .iload 2, [], .null, []), (102, .ifCond .ge 12, [114], .null, []), (105, .aload 0, [], .null, []), (106, .aconst_null, [], .int (-1000000004), []), (108, .invokevirtual 73, [2, 11, 133], .null, []), (111, .goto 4, [115], .null, [])] := rfl
theorem b196_114 : am_b196 114 = [(114, .iload 2, [], .null, []), (115, .nop, [115], .null, [])] := rfl
theorem b196_115 : am_b196 115 = [(115, .ireturn, [0], .null, [])] := rfl
theorem pr_196 : am_pr 196 = (am_b196, 6, 0, 0) := rfl
theorem b197_0 : am_b197 0 = [(0, .iload 1, [], .null, []), (1, .invokestatic 85, [144, 1], .null, []), (4, .ifCond .ne 10, [14], .null, []), (7, .aload 0, [], .null, []), (8, .aconst_null, [], .int (-1000000001), []), (10, .invokevirtual 73, [2, 11, 133], .null, []), (13, .ireturn, [0], .null, [])] := rfl
theorem b197_14 : am_b197 14 = [(14, .aload 0, [], .null, []), (15, .invokevirtual 212, [1, 11, 134], .null, []), (18, .aconst_null, [], .int (-1), []), (19, .istore 2, [], .null, []), (20, .aconst_null, [], .int 61, []), (22, .istore 3, [], .null, []), (23, .aconst_null, [], .int 0, []), (24, .istore 4, [], .null, []), (26, .nop, [26], .null, [])] := rfl
theorem b197_26 : am_b197 26 = [(26, .iload 4, [], .null, []), (28, .aconst_null, [], .int 30, []), (30, .if_icmp .ge 57, [87], .null, []), (33, .aload 0, [], .null, []), (34, .iload 1, [], .null, []), (35, .iload 4, [], .null, []), (37, .invokevirtual 90, [3, 11, 155], .null, []), (40, .pop, [], .null, []), (41, .aload 0, [], .null, []), (42, .aconst_null, [], .int 104, []), (44, .iload 1, [], .null, []), (45, .iadd, [], .null, []), (46, .aconst_null, [], .int (-3), []), (48, .aconst_null, [], .int 60, []), (50, .invokevirtual 193, [4, 11, 188], .null, []), (53, .istore 5, [], .null, []), (55, .iload 5, [], .null, []), (57, .iload 3, [], .null, []), (58, .if_icmp .ge 8, [66], .null, []), (61, .iload 4, [], .null, []), (63, .goto 4, [67], .null, [])] := rfl
theorem b197_66 : am_b197 66 = [(66, .iload 2, [], .null, []), (67, .nop, [67], .null, [])] := rfl
theorem b197_67 : am_b197 67 = [(67, .istore 2, [], .null, []), (68, .iload 5, [], .null, []), (70, .iload 3, [], .null, []), (71, .if_icmp .ge 8, [79], .null, []), (74, .iload 5, [], .null, []), (76, .goto 4, [80], .null, [])] := rfl
theorem b197_79 : am_b197 79 = [(79, .iload 3, [], .null, []), (80, .nop, [80], .null, [])] := rfl
theorem b197_80 : am_b197 80 = [(80, .istore 3, [], .null, []), (81, .iinc 4 1, [], .int 1, []), (84, .goto (-58), [26], .null, [])] := rfl
theorem b197_87 : am_b197 87 = [(87, .aload 0, [], .null, []), (88, .invokevirtual 215, [1, 11, 135], .null, []), (91, .iload 2, [], .null, []), (92, .ifCond .ge 12, [104], .null, []), (95, .aload 0, [], .null, []), (96, .aconst_null, [], .int (-1000000004), []), (98, .invokevirtual 73, [2, 11, 133], .null, []), (101, .goto 4, [105], .null, [])] := rfl
theorem b197_104 : am_b197 104 = [(104, .iload 2, [], .null, []), (105, .nop, [105], .null, [])] := rfl
theorem b197_105 : am_b197 105 = [(105, .ireturn, [0], .null, [])] := rfl
theorem pr_197 : am_pr 197 = (am_b197, 6, 0, 0) := rfl
theorem b198_0 : am_b198 0 = [(0, .iload 1, [], .null, []), (1, .invokestatic 202, [193, 1], .null, []), (4, .ifCond .ne 10, [14], .null, []), (7, .aload 0, [], .null, []), (8, .aconst_null, [], .int (-1000000001), []), (10, .invokevirtual 73, [2, 11, 133], .null, []), (13, .ireturn, [0], .null, [])] := rfl
theorem b198_14 : am_b198 14 = [(14, .aconst_null, [], .int (-1), []), (15, .istore 2, [], .null, []), (16, .aconst_null, [], .int 999999, []), (18, .istore 3, [], .null, []), (19, .aconst_null, [], .int 0, []), (20, .istore 4, [], .null, []), (22, .nop, [22], .null, [])] := rfl
theorem b198_22 : am_b198 22 = [(22, .iload 4, [], .null, []), (24, .aload 0, [], .null, []), (25, .getfield 7, [11, 0], .null, []), (28, .aconst_null, [], .int 1, []), (29, .iaload, [], .null, []), (30, .if_icmp .ge 48, [78], .null, []), (33, .aload 0, [], .null, []), (34, .iload 4, [], .null, []), (36, .putfield 25, [11, 6, 0], .null, []), (39, .aload 0, [], .null, []), (40, .iload 1, [], .null, []), (41, .invokevirtual 209, [2, 11, 184], .null, []), (44, .istore 5, [], .null, []), (46, .iload 5, [], .null, []), (48, .iload 3, [], .null, []), (49, .if_icmp .ge 8, [57], .null, []), (52, .iload 4, [], .null, []), (54, .goto 4, [58], .null, [])] := rfl
theorem b198_57 : am_b198 57 = [(57, .iload 2, [], .null, []), (58, .nop, [58], .null, [])] := rfl
theorem b198_58 : am_b198 58 = [(58, .istore 2, [], .null, []), (59, .iload 5, [], .null, []), (61, .iload 3, [], .null, []), (62, .if_icmp .ge 8, [70], .null, []), (65, .iload 5, [], .null, []), (67, .goto 4, [71], .null, [])] := rfl
theorem b198_70 : am_b198 70 = [(70, .iload 3, [], .null, []), (71, .nop, [71], .null, [])] := rfl
theorem b198_71 : am_b198 71 = [(71, .istore 3, [], .null, []), (72, .iinc 4 1, [], .int 1, []), (75, .goto (-53), [22], .null, [])] := rfl
theorem b198_78 : am_b198 78 = [(78, .aload 0, [], .null, []), (79, .aconst_null, [], .int (-1), []), (80, .putfield 25, [11, 6, 0], .null, []), (83, .iload 2, [], .null, []), (84, .ifCond .ge 12, [96], .null, []), (87, .aload 0, [], .null, []), (88, .aconst_null, [], .int (-1000000004), []), (90, .invokevirtual 73, [2, 11, 133], .null, []), (93, .goto 4, [97], .null, [])] := rfl
theorem b198_96 : am_b198 96 = [(96, .iload 2, [], .null, []), (97, .nop, [97], .null, [])] := rfl
theorem b198_97 : am_b198 97 = [(97, .ireturn, [0], .null, [])] := rfl
theorem pr_198 : am_pr 198 = (am_b198, 6, 0, 0) := rfl
theorem b199_0 : am_b199 0 = [(0, .iload 1, [], .null, []), (1, .invokestatic 185, [182, 1], .null, []), (4, .ifCond .ne 10, [14], .null, []), (7, .aload 0, [], .null, []), (8, .aconst_null, [], .int (-1000000001), []), (10, .invokevirtual 73, [2, 11, 133], .null, []), (13, .ireturn, [0], .null, [])] := rfl
theorem b199_14 : am_b199 14 = [(14, .aload 0, [], .null, []), (15, .getfield 7, [11, 0], .null, []), (18, .aconst_null, [], .int 1, []), (19, .iaload, [], .null, []), (20, .ifCond .ne 10, [30], .null, []), (23, .aload 0, [], .null, []), (24, .aconst_null, [], .int (-1000000004), []), (26, .invokevirtual 73, [2, 11, 133], .null, []), (29, .ireturn, [0], .null, [])] := rfl
theorem b199_30 : am_b199 30 = [(30, .aload 0, [], .null, []), (31, .invokevirtual 179, [1, 11, 136], .null, []), (34, .aload 0, [], .null, []), (35, .iload 1, [], .null, []), (36, .invokevirtual 174, [2, 11, 180], .null, []), (39, .aconst_null, [], .int 0, []), (40, .istore 2, [], .null, []), (41, .aconst_null, [], .int 1, []), (42, .istore 3, [], .null, []), (43, .nop, [43], .null, [])] := rfl
theorem b199_43 : am_b199 43 = [(43, .iload 3, [], .null, []), (44, .aload 0, [], .null, []), (45, .getfield 7, [11, 0], .null, []), (48, .aconst_null, [], .int 1, []), (49, .iaload, [], .null, []), (50, .if_icmp .ge 30, [80], .null, []), (53, .aload 0, [], .null, []), (54, .iload 3, [], .null, []), (55, .aconst_null, [], .int 5, []), (56, .invokevirtual 61, [3, 11, 141], .null, []), (59, .aload 0, [], .null, []), (60, .iload 2, [], .null, []), (61, .aconst_null, [], .int 5, []), (62, .invokevirtual 61, [3, 11, 141], .null, []), (65, .if_icmp .le 7, [72], .null, []), (68, .iload 3, [], .null, []), (69, .goto 4, [73], .null, [])] := rfl
theorem b199_72 : am_b199 72 = [(72, .iload 2, [], .null, []), (73, .nop, [73], .null, [])] := rfl
theorem b199_73 : am_b199 73 = [(73, .istore 2, [], .null, []), (74, .iinc 3 1, [], .int 1, []), (77, .goto (-34), [43], .null, [])] := rfl
theorem b199_80 : am_b199 80 = [(80, .aload 0, [], .null, []), (81, .iload 2, [], .null, []), (82, .invokevirtual 182, [2, 11, 137], .null, []), (85, .ireturn, [0], .null, [])] := rfl
theorem pr_199 : am_pr 199 = (am_b199, 4, 0, 0) := rfl
theorem b200_0 : am_b200 0 = [(0, .iload 2, [], .null, []), (1, .i2l, [], .null, []), (2, .aconst_null, [], .long 1, []), (3, .aconst_null, [], .long 4, []), (6, .invokestatic 55, [132, 3], .null, []), (9, .ifCond .ne 10, [19], .null, []), (12, .aload 0, [], .null, []), (13, .aconst_null, [], .int (-1000000001), []), (15, .invokevirtual 73, [2, 11, 133], .null, []), (18, .ireturn, [0], .null, [])] := rfl
theorem b200_19 : am_b200 19 = [(19, .aload 0, [], .null, []), (20, .getfield 220, [11, 8], .null, []), (23, .iload 2, [], .null, []), (24, .iadd, [], .null, []), (25, .aconst_null, [], .int 120, []), (27, .if_icmp .le 10, [37], .null, []), (30, .aload 0, [], .null, []), (31, .aconst_null, [], .int (-1000000002), []), (33, .invokevirtual 73, [2, 11, 133], .null, []), (36, .ireturn, [0], .null, [])] := rfl
theorem b200_37 : am_b200 37 = [(37, .iload 2, [], .null, []), (38, .aconst_null, [], .int 1, []), (39, .isub, [], .null, []), (40, .istore 3, [], .null, []), (41, .nop, [41], .null, [])] := rfl
theorem b200_41 : am_b200 41 = [(41, .iload 3, [], .null, []), (42, .ifCond .lt 38, [80], .null, []), (45, .aload 0, [], .null, []), (46, .getfield 29, [11, 7], .null, []), (49, .aload 0, [], .null, []), (50, .getfield 220, [11, 8], .null, []), (53, .iload 1, [], .null, []), (54, .aconst_null, [], .int 8, []), (56, .iload 3, [], .null, []), (57, .imul, [], .null, []), (58, .ishr, [], .null, []), (59, .aconst_null, [], .int 255, []), (62, .iand, [], .null, []), (63, .iastore, [], .null, []), (64, .aload 0, [], .null, []), (65, .dup, [], .null, []), (66, .getfield 220, [11, 8], .null, []), (69, .aconst_null, [], .int 1, []), (70, .iadd, [], .null, []), (71, .putfield 220, [11, 8, 0], .null, []), (74, .iinc 3 (-1), [], .int (-1), []), (77, .goto (-36), [41], .null, [])] := rfl
theorem b200_80 : am_b200 80 = [(80, .aload 0, [], .null, []), (81, .getfield 220, [11, 8], .null, []), (84, .ireturn, [0], .null, [])] := rfl
theorem pr_200 : am_pr 200 = (am_b200, 4, 0, 0) := rfl
theorem b201_0 : am_b201 0 = [(0, .aload 0, [], .null, []), (1, .getfield 220, [11, 8], .null, []), (4, .istore 1, [], .null, []), (5, .aload 0, [], .null, []), (6, .aconst_null, [], .int 0, []), (7, .putfield 220, [11, 8, 0], .null, []), (10, .iload 1, [], .null, []), (11, .ireturn, [0], .null, [])] := rfl
theorem pr_201 : am_pr 201 = (am_b201, 2, 0, 0) := rfl
theorem b202_0 : am_b202 0 = [(0, .iload 1, [], .null, []), (1, .aload 0, [], .null, []), (2, .getfield 220, [11, 8], .null, []), (5, .if_icmp .ge 12, [17], .null, []), (8, .aload 0, [], .null, []), (9, .getfield 29, [11, 7], .null, []), (12, .iload 1, [], .null, []), (13, .iaload, [], .null, []), (14, .goto 4, [18], .null, [])] := rfl
theorem b202_17 : am_b202 17 = [(17, .aconst_null, [], .int (-1), []), (18, .nop, [18], .null, [])] := rfl
theorem b202_18 : am_b202 18 = [(18, .ireturn, [0], .null, [])] := rfl
theorem pr_202 : am_pr 202 = (am_b202, 2, 0, 0) := rfl
theorem b203_0 : am_b203 0 = [(0, .iload 0, [], .null, []), (1, .i2l, [], .null, []), (2, .aconst_null, [], .long 97, []), (5, .aconst_null, [], .long 122, []), (8, .invokestatic 55, [132, 3], .null, []), (11, .ireturn, [1], .null, [])] := rfl
theorem pr_203 : am_pr 203 = (am_b203, 1, 0, 0) := rfl
theorem b204_0 : am_b204 0 = [(0, .iload 0, [], .null, []), (1, .i2l, [], .null, []), (2, .aconst_null, [], .long 48, []), (5, .aconst_null, [], .long 57, []), (8, .invokestatic 55, [132, 3], .null, []), (11, .ireturn, [1], .null, [])] := rfl
theorem pr_204 : am_pr 204 = (am_b204, 1, 0, 0) := rfl
theorem b205_0 : am_b205 0 = [(0, .aload 0, [], .null, []), (1, .aload 0, [], .null, []), (2, .getfield 231, [11, 10], .null, []), (5, .putfield 234, [11, 9, 0], .null, []), (8, .nop, [8], .null, [])] := rfl
theorem b205_8 : am_b205 8 = [(8, .aload 0, [], .null, []), (9, .aload 0, [], .null, []), (10, .getfield 234, [11, 9], .null, []), (13, .invokevirtual 237, [2, 11, 202], .null, []), (16, .aconst_null, [], .int 32, []), (18, .if_icmp .ne 16, [34], .null, []), (21, .aload 0, [], .null, []), (22, .dup, [], .null, []), (23, .getfield 234, [11, 9], .null, []), (26, .aconst_null, [], .int 1, []), (27, .iadd, [], .null, []), (28, .putfield 234, [11, 9, 0], .null, []), (31, .goto (-23), [8], .null, [])] := rfl
theorem b205_34 : am_b205 34 = [(34, .aload 0, [], .null, []), (35, .aload 0, [], .null, []), (36, .getfield 234, [11, 9], .null, []), (39, .invokevirtual 237, [2, 11, 202], .null, []), (42, .invokestatic 240, [203, 1], .null, []), (45, .istore 1, [], .null, []), (46, .aload 0, [], .null, []), (47, .aload 0, [], .null, []), (48, .getfield 234, [11, 9], .null, []), (51, .invokevirtual 237, [2, 11, 202], .null, []), (54, .invokestatic 243, [204, 1], .null, []), (57, .istore 2, [], .null, []), (58, .aload 0, [], .null, []), (59, .aload 0, [], .null, []), (60, .getfield 234, [11, 9], .null, []), (63, .aload 0, [], .null, []), (64, .getfield 220, [11, 8], .null, []), (67, .if_icmp .ge 12, [79], .null, []), (70, .aload 0, [], .null, []), (71, .getfield 234, [11, 9], .null, []), (74, .aconst_null, [], .int 1, []), (75, .iadd, [], .null, []), (76, .goto 7, [83], .null, [])] := rfl
theorem b205_79 : am_b205 79 = [(79, .aload 0, [], .null, []), (80, .getfield 234, [11, 9], .null, []), (83, .nop, [83], .null, [])] := rfl
theorem b205_83 : am_b205 83 = [(83, .putfield 231, [11, 10, 0], .null, []), (86, .nop, [86], .null, [])] := rfl
theorem b205_86 : am_b205 86 = [(86, .iload 1, [], .null, []), (87, .ifCond .eq 17, [104], .null, []), (90, .aload 0, [], .null, []), (91, .aload 0, [], .null, []), (92, .getfield 231, [11, 10], .null, []), (95, .invokevirtual 237, [2, 11, 202], .null, []), (98, .invokestatic 240, [203, 1], .null, []), (101, .ifCond .ne 21, [122], .null, []), (104, .nop, [104], .null, [])] := rfl
theorem b205_104 : am_b205 104 = [(104, .iload 2, [], .null, []), (105, .ifCond .eq 30, [135], .null, []), (108, .aload 0, [], .null, []), (109, .aload 0, [], .null, []), (110, .getfield 231, [11, 10], .null, []), (113, .invokevirtual 237, [2, 11, 202], .null, []), (116, .invokestatic 243, [204, 1], .null, []), (119, .ifCond .eq 16, [135], .null, []), (122, .nop, [122], .null, [])] := rfl
theorem b205_122 : am_b205 122 = [(122, .aload 0, [], .null, []), (123, .dup, [], .null, []), (124, .getfield 231, [11, 10], .null, []), (127, .aconst_null, [], .int 1, []), (128, .iadd, [], .null, []), (129, .putfield 231, [11, 10, 0], .null, []), (132, .goto (-46), [86], .null, [])] := rfl
theorem b205_135 : am_b205 135 = [(135, .return_, [], .null, [])] := rfl
theorem pr_205 : am_pr 205 = (am_b205, 3, 0, 0) := rfl
theorem b206_0 : am_b206 0 = [(0, .aload 0, [], .null, []), (1, .aload 0, [], .null, []), (2, .getfield 246, [11, 12], .null, []), (5, .ifCond .ne 7, [12], .null, []), (8, .iload 1, [], .null, []), (9, .ifCond .ne 7, [16], .null, []), (12, .nop, [12], .null, [])] := rfl
theorem b206_12 : am_b206 12 = [(12, .aconst_null, [], .int 1, []), (13, .goto 4, [17], .null, [])] := rfl
theorem b206_16 : am_b206 16 = [(16, .aconst_null, [], .int 0, []), (17, .nop, [17], .null, [])] := rfl
theorem b206_17 : am_b206 17 = [(17, .putfield 246, [11, 12, 1], .null, []), (20, .aload 0, [], .null, []), (21, .getfield 246, [11, 12], .null, []), (24, .ifCond .ne 7, [31], .null, []), (27, .aload 0, [], .null, []), (28, .invokevirtual 250, [1, 11, 205], .null, []), (31, .nop, [31], .null, [])] := rfl
theorem b206_31 : am_b206 31 = [(31, .return_, [], .null, [])] := rfl
theorem pr_206 : am_pr 206 = (am_b206, 2, 0, 0) := rfl
theorem b207_0 : am_b207 0 = [(0, .aconst_null, [], .long 0, []), (1, .lstore 1, [], .null, []), (2, .aload 0, [], .null, []), (3, .getfield 234, [11, 9], .null, []), (6, .istore 3, [], .null, []), (7, .nop, [7], .null, [])] := rfl
theorem b207_7 : am_b207 7 = [(7, .iload 3, [], .null, []), (8, .aload 0, [], .null, []), (9, .getfield 231, [11, 10], .null, []), (12, .if_icmp .ge 38, [50], .null, []), (15, .lload 1, [], .null, []), (16, .aconst_null, [], .long 36028797018963967, []), (19, .lcmp, [], .null, []), (20, .ifCond .le 7, [27], .null, []), (23, .lload 1, [], .null, []), (24, .goto 19, [43], .null, [])] := rfl
theorem b207_27 : am_b207 27 = [(27, .aconst_null, [], .long 32, []), (30, .lload 1, [], .null, []), (31, .lmul, [], .null, []), (32, .aload 0, [], .null, []), (33, .getfield 29, [11, 7], .null, []), (36, .iload 3, [], .null, []), (37, .iaload, [], .null, []), (38, .aconst_null, [], .int 96, []), (40, .isub, [], .null, []), (41, .i2l, [], .null, []), (42, .ladd, [], .null, []), (43, .nop, [43], .null, [])] := rfl
theorem b207_43 : am_b207 43 = [(43, .lstore 1, [], .null, []), (44, .iinc 3 1, [], .int 1, []), (47, .goto (-40), [7], .null, [])] := rfl
theorem b207_50 : am_b207 50 = [(50, .aload 0, [], .null, []), (51, .getfield 246, [11, 12], .null, []), (54, .ifCond .ne 17, [71], .null, []), (57, .aload 0, [], .null, []), (58, .aload 0, [], .null, []), (59, .getfield 234, [11, 9], .null, []), (62, .invokevirtual 237, [2, 11, 202], .null, []), (65, .invokestatic 240, [203, 1], .null, []), (68, .ifCond .ne 7, [75], .null, []), (71, .nop, [71], .null, [])] := rfl
theorem b207_71 : am_b207 71 = [(71, .aconst_null, [], .long 0, []), (72, .goto 4, [76], .null, [])] := rfl
theorem b207_75 : am_b207 75 = [(75, .lload 1, [], .null, []), (76, .nop, [76], .null, [])] := rfl
theorem b207_76 : am_b207 76 = [(76, .lreturn, [], .null, [])] := rfl
theorem pr_207 : am_pr 207 = (am_b207, 4, 0, 0) := rfl
theorem b208_0 : am_b208 0 = [(0, .aload 0, [], .null, []), (1, .getfield 246, [11, 12], .null, []), (4, .ifCond .eq 4, [8], .null, []), (7, .return_, [], .null, [])] := rfl
theorem b208_8 : am_b208 8 = [(8, .aload 0, [], .null, []), (9, .aload 0, [], .null, []), (10, .getfield 234, [11, 9], .null, []), (13, .invokevirtual 237, [2, 11, 202], .null, []), (16, .invokestatic 243, [204, 1], .null, []), (19, .istore 3, [], .null, []), (20, .aconst_null, [], .int 0, []), (21, .istore 4, [], .null, []), (23, .aload 0, [], .null, []), (24, .getfield 234, [11, 9], .null, []), (27, .istore 5, [], .null, []), (29, .nop, [29], .null, [])] := rfl
theorem b208_29 : am_b208 29 = [(29, .iload 5, [], .null, []), (31, .aload 0, [], .null, []), (32, .getfield 231, [11, 10], .null, []), (35, .if_icmp .ge 44, [79], .null, []), (38, .iload 3, [], .null, []), (39, .ifCond .eq 40, [79], .null, []), (42, .iload 4, [], .null, []), (44, .aconst_null, [], .int 999, []), (47, .if_icmp .le 8, [55], .null, []), (50, .iload 4, [], .null, []), (52, .goto 19, [71], .null, [])] := rfl
theorem b208_55 : am_b208 55 = [(55, .aconst_null, [], .int 10, []), (57, .iload 4, [], .null, []), (59, .imul, [], .null, []), (60, .aload 0, [], .null, []), (61, .getfield 29, [11, 7], .null, []), (64, .iload 5, [], .null, []), (66, .iaload, [], .null, []), (67, .iadd, [], .null, []), (68, .aconst_null, [], .int 48, []), (70, .isub, [], .null, []), (71, .nop, [71], .null, [])] := rfl
theorem b208_71 : am_b208 71 = [(71, .istore 4, [], .null, []), (73, .iinc 5 1, [], .int 1, []), (76, .goto (-47), [29], .null, [])] := rfl
theorem b208_79 : am_b208 79 = [(79, .aload 0, [], .null, []), (80, .iload 4, [], .null, []), (82, .putfield 257, [11, 11, 0], .null, []), (85, .aload 0, [], .null, []), (86, .iload 3, [], .null, []), (87, .ifCond .eq 20, [107], .null, []), (90, .iload 4, [], .null, []), (92, .i2l, [], .null, []), (93, .iload 1, [], .null, []), (94, .i2l, [], .null, []), (95, .iload 2, [], .null, []), (96, .i2l, [], .null, []), (97, .invokestatic 55, [132, 3], .null, []), (100, .ifCond .eq 7, [107], .null, []), (103, .aconst_null, [], .int 1, []), (104, .goto 4, [108], .null, [])] := rfl
theorem b208_107 : am_b208 107 = [(107, .aconst_null, [], .int 0, []), (108, .nop, [108], .null, [])] := rfl
theorem b208_108 : am_b208 108 = [(108, .invokevirtual 260, [2, 11, 206], .null, []), (111, .return_, [], .null, [])] := rfl
theorem pr_208 : am_pr 208 = (am_b208, 6, 0, 0) := rfl
theorem b209_0 : am_b209 0 = [(0, .aload 0, [], .null, []), (1, .invokevirtual 264, [1, 11, 207], .null, []), (4, .lstore 1, [], .null, []), (5, .lload 1, [], .null, []), (6, .aconst_null, [], .long 441733, []), (9, .lcmp, [], .null, []), (10, .ifCond .ne 7, [17], .null, []), (13, .aconst_null, [], .int 0, []), (14, .goto 64, [78], .null, [])] := rfl
theorem b209_17 : am_b209 17 = [(17, .lload 1, [], .null, []), (18, .aconst_null, [], .long 143891634, []), (21, .lcmp, [], .null, []), (22, .ifCond .ne 7, [29], .null, []), (25, .aconst_null, [], .int 1, []), (26, .goto 52, [78], .null, [])] := rfl
theorem b209_29 : am_b209 29 = [(29, .lload 1, [], .null, []), (30, .aconst_null, [], .long 3274253490, []), (33, .lcmp, [], .null, []), (34, .ifCond .ne 7, [41], .null, []), (37, .aconst_null, [], .int 2, []), (38, .goto 40, [78], .null, [])] := rfl
theorem b209_41 : am_b209 41 = [(41, .lload 1, [], .null, []), (42, .aconst_null, [], .long 19516410020, []), (45, .lcmp, [], .null, []), (46, .ifCond .ne 7, [53], .null, []), (49, .aconst_null, [], .int 3, []), (50, .goto 28, [78], .null, [])] := rfl
theorem b209_53 : am_b209 53 = [(53, .lload 1, [], .null, []), (54, .aconst_null, [], .long 437899442, []), (57, .lcmp, [], .null, []), (58, .ifCond .ne 7, [65], .null, []), (61, .aconst_null, [], .int 4, []), (62, .goto 16, [78], .null, [])] := rfl
theorem b209_65 : am_b209 65 = [(65, .lload 1, [], .null, []), (66, .aconst_null, [], .long 9314051250, []), (69, .lcmp, [], .null, []), (70, .ifCond .ne 7, [77], .null, []), (73, .aconst_null, [], .int 5, []), (74, .goto 4, [78], .null, [])] := rfl
theorem b209_77 : am_b209 77 = [(77, .aconst_null, [], .int (-1), []), (78, .nop, [78], .null, [])] := rfl
theorem b209_78 : am_b209 78 = [(78, .ireturn, [0], .null, [])] := rfl
theorem pr_209 : am_pr 209 = (am_b209, 3, 0, 0) := rfl
theorem b210_0 : am_b210 0 = [(0, .aload 0, [], .null, []), (1, .aload 0, [], .null, []), (2, .getfield 7, [11, 0], .null, []), (5, .aconst_null, [], .int 1, []), (6, .iaload, [], .null, []), (7, .aconst_null, [], .int 6, []), (9, .if_icmp .ge 7, [16], .null, []), (12, .aconst_null, [], .int 1, []), (13, .goto 4, [17], .null, [])] := rfl
theorem b210_16 : am_b210 16 = [(16, .aconst_null, [], .int 0, []), (17, .nop, [17], .null, [])] := rfl
theorem b210_17 : am_b210 17 = [(17, .invokevirtual 260, [2, 11, 206], .null, []), (20, .aload 0, [], .null, []), (21, .aconst_null, [], .int 0, []), (22, .aconst_null, [], .int 29, []), (24, .invokevirtual 280, [3, 11, 208], .null, []), (27, .aload 0, [], .null, []), (28, .getfield 257, [11, 11], .null, []), (31, .istore 2, [], .null, []), (32, .aload 0, [], .null, []), (33, .aconst_null, [], .int 0, []), (34, .aconst_null, [], .int 29, []), (36, .invokevirtual 280, [3, 11, 208], .null, []), (39, .aload 0, [], .null, []), (40, .getfield 246, [11, 12], .null, []), (43, .ifCond .ne 14, [57], .null, []), (46, .aload 0, [], .null, []), (47, .iload 1, [], .null, []), (48, .iload 2, [], .null, []), (49, .aload 0, [], .null, []), (50, .getfield 257, [11, 11], .null, []), (53, .invokevirtual 107, [4, 11, 164], .null, []), (56, .pop, [], .null, []), (57, .nop, [57], .null, [])] := rfl
theorem b210_57 : am_b210 57 = [(57, .return_, [], .null, [])] := rfl
theorem pr_210 : am_pr 210 = (am_b210, 3, 0, 0) := rfl
theorem b211_0 : am_b211 0 = [(0, .aload 0, [], .null, []), (1, .aconst_null, [], .int 1, []), (2, .invokevirtual 260, [2, 11, 206], .null, []), (5, .aload 0, [], .null, []), (6, .aconst_null, [], .int 0, []), (7, .aconst_null, [], .int 29, []), (9, .invokevirtual 280, [3, 11, 208], .null, []), (12, .aload 0, [], .null, []), (13, .getfield 246, [11, 12], .null, []), (16, .ifCond .ne 17, [33], .null, []), (19, .aload 0, [], .null, []), (20, .getfield 7, [11, 0], .null, []), (23, .aload 0, [], .null, []), (24, .getfield 257, [11, 11], .null, []), (27, .aconst_null, [], .int 0, []), (28, .invokestatic 50, [139, 2], .null, []), (31, .aconst_null, [], .int 1, []), (32, .iastore, [], .null, []), (33, .nop, [33], .null, [])] := rfl
theorem b211_33 : am_b211 33 = [(33, .return_, [], .null, [])] := rfl
theorem pr_211 : am_pr 211 = (am_b211, 1, 0, 0) := rfl
theorem b212_0 : am_b212 0 = [(0, .aload 0, [], .null, []), (1, .aconst_null, [], .int 1, []), (2, .invokevirtual 260, [2, 11, 206], .null, []), (5, .aload 0, [], .null, []), (6, .aconst_null, [], .int 0, []), (7, .aconst_null, [], .int 5, []), (8, .invokevirtual 280, [3, 11, 208], .null, []), (11, .aload 0, [], .null, []), (12, .getfield 257, [11, 11], .null, []), (15, .istore 1, [], .null, []), (16, .aload 0, [], .null, []), (17, .aconst_null, [], .int 0, []), (18, .aconst_null, [], .int 29, []), (20, .invokevirtual 280, [3, 11, 208], .null, []), (23, .aload 0, [], .null, []), (24, .getfield 246, [11, 12], .null, []), (27, .ifCond .ne 13, [40], .null, []), (30, .aload 0, [], .null, []), (31, .iload 1, [], .null, []), (32, .aload 0, [], .null, []), (33, .getfield 257, [11, 11], .null, []), (36, .invokevirtual 90, [3, 11, 155], .null, []), (39, .pop, [], .null, []), (40, .nop, [40], .null, [])] := rfl
theorem b212_40 : am_b212 40 = [(40, .return_, [], .null, [])] := rfl
theorem pr_212 : am_pr 212 = (am_b212, 2, 0, 0) := rfl
theorem b213_0 : am_b213 0 = [(0, .aload 0, [], .null, []), (1, .invokevirtual 283, [1, 11, 209], .null, []), (4, .istore 1, [], .null, []), (5, .aload 0, [], .null, []), (6, .invokevirtual 264, [1, 11, 207], .null, []), (9, .lstore 2, [], .null, []), (10, .iload 1, [], .null, []), (11, .ifCond .lt 11, [22], .null, []), (14, .aload 0, [], .null, []), (15, .iload 1, [], .null, []), (16, .invokevirtual 286, [2, 11, 210], .null, []), (19, .goto 38, [57], .null, [])] := rfl
theorem b213_22 : am_b213 22 = [(22, .lload 2, [], .null, []), (23, .aconst_null, [], .long 4775, []), (26, .lcmp, [], .null, []), (27, .ifCond .ne 10, [37], .null, []), (30, .aload 0, [], .null, []), (31, .invokevirtual 291, [1, 11, 211], .null, []), (34, .goto 23, [57], .null, [])] := rfl
theorem b213_37 : am_b213 37 = [(37, .lload 2, [], .null, []), (38, .aconst_null, [], .long 642894004, []), (41, .lcmp, [], .null, []), (42, .ifCond .ne 10, [52], .null, []), (45, .aload 0, [], .null, []), (46, .invokevirtual 296, [1, 11, 212], .null, []), (49, .goto 8, [57], .null, [])] := rfl
theorem b213_52 : am_b213 52 = [(52, .aload 0, [], .null, []), (53, .aconst_null, [], .int 0, []), (54, .invokevirtual 260, [2, 11, 206], .null, []), (57, .nop, [57], .null, [])] := rfl
theorem b213_57 : am_b213 57 = [(57, .return_, [], .null, [])] := rfl
theorem pr_213 : am_pr 213 = (am_b213, 4, 0, 0) := rfl
theorem b214_0 : am_b214 0 = [(0, .aload 0, [], .null, []), (1, .invokevirtual 212, [1, 11, 134], .null, []), (4, .aload 0, [], .null, []), (5, .aconst_null, [], .int 0, []), (6, .putfield 246, [11, 12, 1], .null, []), (9, .aload 0, [], .null, []), (10, .aconst_null, [], .int 0, []), (11, .putfield 231, [11, 10, 0], .null, []), (14, .aload 0, [], .null, []), (15, .invokevirtual 250, [1, 11, 205], .null, []), (18, .aconst_null, [], .int 1, []), (19, .istore 1, [], .null, []), (20, .aload 0, [], .null, []), (21, .invokevirtual 299, [1, 11, 213], .null, []), (24, .nop, [24], .null, [])] := rfl
theorem b214_24 : am_b214 24 = [(24, .aload 0, [], .null, []), (25, .getfield 246, [11, 12], .null, []), (28, .ifCond .ne 31, [59], .null, []), (31, .aload 0, [], .null, []), (32, .aload 0, [], .null, []), (33, .getfield 234, [11, 9], .null, []), (36, .invokevirtual 237, [2, 11, 202], .null, []), (39, .aconst_null, [], .int 59, []), (41, .if_icmp .ne 18, [59], .null, []), (44, .aload 0, [], .null, []), (45, .aconst_null, [], .int 1, []), (46, .invokevirtual 260, [2, 11, 206], .null, []), (49, .aload 0, [], .null, []), (50, .invokevirtual 299, [1, 11, 213], .null, []), (53, .iinc 1 1, [], .int 1, []), (56, .goto (-32), [24], .null, [])] := rfl
theorem b214_59 : am_b214 59 = [(59, .aload 0, [], .null, []), (60, .aload 0, [], .null, []), (61, .getfield 246, [11, 12], .null, []), (64, .ifCond .ne 14, [78], .null, []), (67, .aload 0, [], .null, []), (68, .getfield 234, [11, 9], .null, []), (71, .aload 0, [], .null, []), (72, .getfield 220, [11, 8], .null, []), (75, .if_icmp .ge 7, [82], .null, []), (78, .nop, [78], .null, [])] := rfl
theorem b214_78 : am_b214 78 = [(78, .aconst_null, [], .int 1, []), (79, .goto 4, [83], .null, [])] := rfl
theorem b214_82 : am_b214 82 = [(82, .aconst_null, [], .int 0, []), (83, .nop, [83], .null, [])] := rfl
theorem b214_83 : am_b214 83 = [(83, .putfield 246, [11, 12, 1], .null, []), (86, .aload 0, [], .null, []), (87, .getfield 246, [11, 12], .null, []), (90, .ifCond .eq 7, [97], .null, []), (93, .aload 0, [], .null, []), (94, .invokevirtual 215, [1, 11, 135], .null, []), (97, .nop, [97], .null, [])] := rfl
theorem b214_97 : am_b214 97 = [(97, .aload 0, [], .null, []), (98, .aconst_null, [], .int 0, []), (99, .putfield 220, [11, 8, 0], .null, []), (102, .aload 0, [], .null, []), (103, .getfield 246, [11, 12], .null, []), (106, .ifCond .eq 12, [118], .null, []), (109, .aconst_null, [], .int (-1), []), (110, .aload 0, [], .null, []), (111, .getfield 234, [11, 9], .null, []), (114, .isub, [], .null, []), (115, .goto 4, [119], .null, [])] := rfl
theorem b214_118 : am_b214 118 = [(118, .iload 1, [], .null, []), (119, .nop, [119], .null, [])] := rfl
theorem b214_119 : am_b214 119 = [(119, .ireturn, [0], .null, [])] := rfl
theorem pr_214 : am_pr 214 = (am_b214, 2, 0, 0) := rfl
theorem b215_0 : am_b215 0 = [(0, .iload 0, [], .null, []), (1, .i2l, [], .null, []), (2, .aconst_null, [], .long 0, []), (3, .aconst_null, [], .long 3, []), (6, .invokestatic 55, [132, 3], .null, []), (9, .ireturn, [1], .null, [])] := rfl
theorem pr_215 : am_pr 215 = (am_b215, 1, 0, 0) := rfl
theorem b216_0 : am_b216 0 = [(0, .iload 1, [], .null, []), (1, .invokestatic 302, [215, 1], .null, []), (4, .ifCond .eq 25, [29], .null, []), (7, .iload 2, [], .null, []), (8, .ifCond .eq 28, [36], .null, []), (11, .iload 2, [], .null, []), (12, .aconst_null, [], .int 8, []), (14, .if_icmp .eq 22, [36], .null, []), (17, .iload 2, [], .null, []), (18, .aconst_null, [], .int 16, []), (20, .if_icmp .eq 16, [36], .null, []), (23, .iload 2, [], .null, []), (24, .aconst_null, [], .int 64, []), (26, .if_icmp .eq 10, [36], .null, []), (29, .nop, [29], .null, [])] := rfl
theorem b216_29 : am_b216 29 = [(29, .aload 0, [], .null, []), (30, .aconst_null, [], .int (-1000000001), []), (32, .invokevirtual 73, [2, 11, 133], .null, []), (35, .ireturn, [0], .null, [])] := rfl
theorem b216_36 : am_b216 36 = [(36, .iload 3, [], .null, []), (37, .ifCond .ge 11, [48], .null, []), (40, .aload 0, [], .null, []), (41, .aconst_null, [], .int (-1000000007), []), (44, .invokevirtual 73, [2, 11, 133], .null, []), (47, .ireturn, [0], .null, [])] := rfl
theorem b216_48 : am_b216 48 = [(48, .iload 3, [], .null, []), (49, .aconst_null, [], .int 40, []), (51, .if_icmp .le 10, [61], .null, []), (54, .aload 0, [], .null, []), (55, .aconst_null, [], .int (-1000000001), []), (57, .invokevirtual 73, [2, 11, 133], .null, []), (60, .ireturn, [0], .null, [])] := rfl
theorem b216_61 : am_b216 61 = [(61, .aload 0, [], .null, []), (62, .getfield 32, [11, 13], .null, []), (65, .iload 1, [], .null, []), (66, .iload 2, [], .null, []), (67, .iastore, [], .null, []), (68, .aload 0, [], .null, []), (69, .getfield 35, [11, 14], .null, []), (72, .iload 1, [], .null, []), (73, .iload 2, [], .null, []), (74, .ifCond .ne 7, [81], .null, []), (77, .aconst_null, [], .int 0, []), (78, .goto 4, [82], .null, [])] := rfl
theorem b216_81 : am_b216 81 = [(81, .iload 3, [], .null, []), (82, .nop, [82], .null, [])] := rfl
theorem b216_82 : am_b216 82 = [(82, .iastore, [], .null, []), (83, .aconst_null, [], .int 0, []), (84, .istore 4, [], .null, []), (86, .nop, [86], .null, [])] := rfl
theorem b216_86 : am_b216 86 = [(86, .iload 4, [], .null, []), (88, .aconst_null, [], .int 40, []), (90, .if_icmp .ge 22, [112], .null, []), (93, .aload 0, [], .null, []), (94, .getfield 38, [11, 15], .null, []), (97, .aconst_null, [], .int 40, []), (99, .iload 1, [], .null, []), (100, .imul, [], .null, []), (101, .iload 4, [], .null, []), (103, .iadd, [], .null, []), (104, .aconst_null, [], .long 0, []), (105, .lastore, [], .null, []), (106, .iinc 4 1, [], .int 1, []), (109, .goto (-23), [86], .null, [])] := rfl
theorem b216_112 : am_b216 112 = [(112, .aload 0, [], .null, []), (113, .getfield 35, [11, 14], .null, []), (116, .iload 1, [], .null, []), (117, .iaload, [], .null, []), (118, .ireturn, [0], .null, [])] := rfl
theorem pr_216 : am_pr 216 = (am_b216, 5, 0, 0) := rfl
theorem b217_0 : am_b217 0 = [(0, .iload 0, [], .null, []), (1, .aconst_null, [], .int 8, []), (3, .if_icmp .ne 10, [13], .null, []), (6, .lload 1, [], .null, []), (7, .l2i, [], .null, []), (8, .i2b, [], .null, []), (9, .i2l, [], .null, []), (10, .goto 17, [27], .null, [])] := rfl
theorem b217_13 : am_b217 13 = [(13, .iload 0, [], .null, []), (14, .aconst_null, [], .int 16, []), (16, .if_icmp .ne 10, [26], .null, []), (19, .lload 1, [], .null, []), (20, .l2i, [], .null, []), (21, .i2s, [], .null, []), (22, .i2l, [], .null, []), (23, .goto 4, [27], .null, [])] := rfl
theorem b217_26 : am_b217 26 = [(26, .lload 1, [], .null, []), (27, .nop, [27], .null, [])] := rfl
theorem b217_27 : am_b217 27 = [(27, .lreturn, [], .null, [])] := rfl
theorem pr_217 : am_pr 217 = (am_b217, 3, 0, 0) := rfl
theorem b218_0 : am_b218 0 = [(0, .iload 1, [], .null, []), (1, .invokestatic 302, [215, 1], .null, []), (4, .ifCond .ne 8, [12], .null, []), (7, .aconst_null, [], .int (-1000000001), []), (9, .goto 19, [28], .null, [])] := rfl
theorem b218_12 : am_b218 12 = [(12, .aload 0, [], .null, []), (13, .getfield 32, [11, 13], .null, []), (16, .iload 1, [], .null, []), (17, .iaload, [], .null, []), (18, .ifCond .ne 9, [27], .null, []), (21, .aconst_null, [], .int (-1000000006), []), (24, .goto 4, [28], .null, [])] := rfl
theorem b218_27 : am_b218 27 = [(27, .aconst_null, [], .int 0, []), (28, .nop, [28], .null, [])] := rfl
theorem b218_28 : am_b218 28 = [(28, .ireturn, [0], .null, [])] := rfl
theorem pr_218 : am_pr 218 = (am_b218, 2, 0, 0) := rfl
theorem b219_0 : am_b219 0 = [(0, .aload 0, [], .null, []), (1, .iload 1, [], .null, []), (2, .invokevirtual 307, [2, 11, 218], .null, []), (5, .istore 5, [], .null, []), (7, .iload 5, [], .null, []), (9, .ifCond .eq 11, [20], .null, []), (12, .aload 0, [], .null, []), (13, .iload 5, [], .null, []), (15, .invokevirtual 73, [2, 11, 133], .null, []), (18, .i2l, [], .null, []), (19, .lreturn, [], .null, [])] := rfl
theorem b219_20 : am_b219 20 = [(20, .iload 2, [], .null, []), (21, .i2l, [], .null, []), (22, .aconst_null, [], .long 0, []), (23, .aload 0, [], .null, []), (24, .getfield 35, [11, 14], .null, []), (27, .iload 1, [], .null, []), (28, .iaload, [], .null, []), (29, .aconst_null, [], .int 1, []), (30, .isub, [], .null, []), (31, .i2l, [], .null, []), (32, .invokestatic 55, [132, 3], .null, []), (35, .ifCond .ne 11, [46], .null, []), (38, .aload 0, [], .null, []), (39, .aconst_null, [], .int (-1000000001), []), (41, .invokevirtual 73, [2, 11, 133], .null, []), (44, .i2l, [], .null, []), (45, .lreturn, [], .null, [])] := rfl
theorem b219_46 : am_b219 46 = [(46, .aload 0, [], .null, []), (47, .getfield 38, [11, 15], .null, []), (50, .aconst_null, [], .int 40, []), (52, .iload 1, [], .null, []), (53, .imul, [], .null, []), (54, .iload 2, [], .null, []), (55, .iadd, [], .null, []), (56, .laload, [], .null, []), (57, .lstore 6, [], .null, []), (59, .aload 0, [], .null, []), (60, .getfield 38, [11, 15], .null, []), (63, .aconst_null, [], .int 40, []), (65, .iload 1, [], .null, []), (66, .imul, [], .null, []), (67, .iload 2, [], .null, []), (68, .iadd, [], .null, []), (69, .aload 0, [], .null, []), (70, .getfield 32, [11, 13], .null, []), (73, .iload 1, [], .null, []), (74, .iaload, [], .null, []), (75, .lload 3, [], .null, []), (76, .invokestatic 310, [217, 2], .null, []), (79, .lastore, [], .null, []), (80, .lload 6, [], .null, []), (82, .lreturn, [], .null, [])] := rfl
theorem pr_219 : am_pr 219 = (am_b219, 8, 0, 0) := rfl
theorem b220_0 : am_b220 0 = [(0, .iload 1, [], .null, []), (1, .invokestatic 302, [215, 1], .null, []), (4, .ifCond .eq 10, [14], .null, []), (7, .iload 3, [], .null, []), (8, .invokestatic 302, [215, 1], .null, []), (11, .ifCond .ne 10, [21], .null, []), (14, .nop, [14], .null, [])] := rfl
theorem b220_14 : am_b220 14 = [(14, .aload 0, [], .null, []), (15, .aconst_null, [], .int (-1000000001), []), (17, .invokevirtual 73, [2, 11, 133], .null, []), (20, .ireturn, [0], .null, [])] := rfl
theorem b220_21 : am_b220 21 = [(21, .aload 0, [], .null, []), (22, .getfield 32, [11, 13], .null, []), (25, .iload 1, [], .null, []), (26, .iaload, [], .null, []), (27, .ifCond .eq 12, [39], .null, []), (30, .aload 0, [], .null, []), (31, .getfield 32, [11, 13], .null, []), (34, .iload 3, [], .null, []), (35, .iaload, [], .null, []), (36, .ifCond .ne 11, [47], .null, []), (39, .nop, [39], .null, [])] := rfl
theorem b220_39 : am_b220 39 = [(39, .aload 0, [], .null, []), (40, .aconst_null, [], .int (-1000000006), []), (43, .invokevirtual 73, [2, 11, 133], .null, []), (46, .ireturn, [0], .null, [])] := rfl
theorem b220_47 : am_b220 47 = [(47, .aload 0, [], .null, []), (48, .getfield 32, [11, 13], .null, []), (51, .iload 1, [], .null, []), (52, .iaload, [], .null, []), (53, .aload 0, [], .null, []), (54, .getfield 32, [11, 13], .null, []), (57, .iload 3, [], .null, []), (58, .iaload, [], .null, []), (59, .if_icmp .eq 10, [69], .null, []), (62, .aload 0, [], .null, []), (63, .aconst_null, [], .int (-1000000003), []), (65, .invokevirtual 73, [2, 11, 133], .null, []), (68, .ireturn, [0], .null, [])] := rfl
theorem b220_69 : am_b220 69 = [(69, .iload 2, [], .null, []), (70, .ifCond .lt 40, [110], .null, []), (73, .iload 4, [], .null, []), (75, .ifCond .lt 35, [110], .null, []), (78, .iload 5, [], .null, []), (80, .ifCond .lt 30, [110], .null, []), (83, .iload 5, [], .null, []), (85, .aload 0, [], .null, []), (86, .getfield 35, [11, 14], .null, []), (89, .iload 1, [], .null, []), (90, .iaload, [], .null, []), (91, .iload 2, [], .null, []), (92, .isub, [], .null, []), (93, .if_icmp .gt 17, [110], .null, []), (96, .iload 5, [], .null, []), (98, .aload 0, [], .null, []), (99, .getfield 35, [11, 14], .null, []), (102, .iload 3, [], .null, []), (103, .iaload, [], .null, []), (104, .iload 4, [], .null, []), (106, .isub, [], .null, []), (107, .if_icmp .le 10, [117], .null, []), (110, .nop, [110], .null, [])] := rfl
theorem b220_110 : am_b220 110 = [(110, .aload 0, [], .null, []), (111, .aconst_null, [], .int (-1000000001), []), (113, .invokevirtual 73, [2, 11, 133], .null, []), (116, .ireturn, [0], .null, [])] := rfl
theorem b220_117 : am_b220 117 = [(117, .aconst_null, [], .int 0, []), (118, .istore 6, [], .null, []), (120, .nop, [120], .null, [])] := rfl
theorem b220_120 : am_b220 120 = [(120, .iload 6, [], .null, []), (122, .iload 5, [], .null, []), (124, .if_icmp .ge 30, [154], .null, []), (127, .aload 0, [], .null, []), (128, .getfield 42, [11, 16], .null, []), (131, .iload 6, [], .null, []), (133, .aload 0, [], .null, []), (134, .getfield 38, [11, 15], .null, []), (137, .aconst_null, [], .int 40, []), (139, .iload 1, [], .null, []), (140, .imul, [], .null, []), (141, .iload 2, [], .null, []), (142, .iadd, [], .null, []), (143, .iload 6, [], .null, []), (145, .iadd, [], .null, []), (146, .laload, [], .null, []), (147, .lastore, [], .null, []), (148, .iinc 6 1, [], .int 1, []), (151, .goto (-31), [120], .null, [])] := rfl
theorem b220_154 : am_b220 154 = [(154, .aconst_null, [], .int 0, []), (155, .istore 6, [], .null, []), (157, .nop, [157], .null, [])] := rfl
theorem b220_157 : am_b220 157 = [(157, .iload 6, [], .null, []), (159, .iload 5, [], .null, []), (161, .if_icmp .ge 31, [192], .null, []), (164, .aload 0, [], .null, []), (165, .getfield 38, [11, 15], .null, []), (168, .aconst_null, [], .int 40, []), (170, .iload 3, [], .null, []), (171, .imul, [], .null, []), (172, .iload 4, [], .null, []), (174, .iadd, [], .null, []), (175, .iload 6, [], .null, []), (177, .iadd, [], .null, []), (178, .aload 0, [], .null, []), (179, .getfield 42, [11, 16], .null, []), (182, .iload 6, [], .null, []), (184, .laload, [], .null, []), (185, .lastore, [], .null, []), (186, .iinc 6 1, [], .int 1, []), (189, .goto (-32), [157], .null, [])] := rfl
theorem b220_192 : am_b220 192 = [(192, .iload 5, [], .null, []), (194, .ireturn, [0], .null, [])] := rfl
theorem pr_220 : am_pr 220 = (am_b220, 7, 0, 0) := rfl
theorem b221_0 : am_b221 0 = [(0, .aload 0, [], .null, []), (1, .iload 1, [], .null, []), (2, .invokevirtual 307, [2, 11, 218], .null, []), (5, .istore 2, [], .null, []), (6, .iload 2, [], .null, []), (7, .ifCond .eq 9, [16], .null, []), (10, .aload 0, [], .null, []), (11, .iload 2, [], .null, []), (12, .invokevirtual 73, [2, 11, 133], .null, []), (15, .ireturn, [0], .null, [])] := rfl
theorem b221_16 : am_b221 16 = [(16, .aconst_null, [], .int 0, []), (17, .istore 3, [], .null, []), (18, .aconst_null, [], .int 0, []), (19, .istore 4, [], .null, []), (21, .nop, [21], .null, [])] := rfl
theorem b221_21 : am_b221 21 = [(21, .iload 4, [], .null, []), (23, .aload 0, [], .null, []), (24, .getfield 35, [11, 14], .null, []), (27, .iload 1, [], .null, []), (28, .iaload, [], .null, []), (29, .if_icmp .ge 91, [120], .null, []), (32, .iload 4, [], .null, []), (34, .aconst_null, [], .int 30, []), (36, .if_icmp .ge 84, [120], .null, []), (39, .aload 0, [], .null, []), (40, .getfield 38, [11, 15], .null, []), (43, .aconst_null, [], .int 40, []), (45, .iload 1, [], .null, []), (46, .imul, [], .null, []), (47, .iload 4, [], .null, []), (49, .iadd, [], .null, []), (50, .laload, [], .null, []), (51, .aconst_null, [], .long 0, []), (52, .aconst_null, [], .long 1, []), (53, .invokestatic 55, [132, 3], .null, []), (56, .istore 5, [], .null, []), (58, .aload 0, [], .null, []), (59, .getfield 7, [11, 0], .null, []), (62, .iload 4, [], .null, []), (64, .aconst_null, [], .int 0, []), (65, .invokestatic 50, [139, 2], .null, []), (68, .iload 5, [], .null, []), (70, .ifCond .eq 19, [89], .null, []), (73, .aload 0, [], .null, []), (74, .getfield 38, [11, 15], .null, []), (77, .aconst_null, [], .int 40, []), (79, .iload 1, [], .null, []), (80, .imul, [], .null, []), (81, .iload 4, [], .null, []), (83, .iadd, [], .null, []), (84, .laload, [], .null, []), (85, .l2i, [], .null, []), (86, .goto 14, [100], .null, [])] := rfl
theorem b221_89 : am_b221 89 = [(89, .aload 0, [], .null, []), (90, .getfield 7, [11, 0], .null, []), (93, .iload 4, [], .null, []), (95, .aconst_null, [], .int 0, []), (96, .invokestatic 50, [139, 2], .null, []), (99, .iaload, [], .null, []), (100, .nop, [100], .null, [])] := rfl
theorem b221_100 : am_b221 100 = [(100, .iastore, [], .null, []), (101, .iload 3, [], .null, []), (102, .iload 5, [], .null, []), (104, .ifCond .eq 7, [111], .null, []), (107, .aconst_null, [], .int 1, []), (108, .goto 4, [112], .null, [])] := rfl
theorem b221_111 : am_b221 111 = [(111, .aconst_null, [], .int 0, []), (112, .nop, [112], .null, [])] := rfl
theorem b221_112 : am_b221 112 = [(112, .iadd, [], .null, []), (113, .istore 3, [], .null, []), (114, .iinc 4 1, [], .int 1, []), (117, .goto (-96), [21], .null, [])] := rfl
theorem b221_120 : am_b221 120 = [(120, .iload 3, [], .null, []), (121, .ireturn, [0], .null, [])] := rfl
theorem pr_221 : am_pr 221 = (am_b221, 6, 0, 0) := rfl
theorem b222_0 : am_b222 0 = [(0, .aload 0, [], .null, []), (1, .iload 1, [], .null, []), (2, .invokevirtual 307, [2, 11, 218], .null, []), (5, .istore 3, [], .null, []), (6, .iload 3, [], .null, []), (7, .ifCond .eq 9, [16], .null, []), (10, .aload 0, [], .null, []), (11, .iload 3, [], .null, []), (12, .invokevirtual 73, [2, 11, 133], .null, []), (15, .ireturn, [0], .null, [])] := rfl
theorem b222_16 : am_b222 16 = [(16, .aload 0, [], .null, []), (17, .iload 2, [], .null, []), (18, .invokevirtual 111, [2, 11, 145], .null, []), (21, .ifCond .ne 10, [31], .null, []), (24, .aload 0, [], .null, []), (25, .aconst_null, [], .int (-1000000001), []), (27, .invokevirtual 73, [2, 11, 133], .null, []), (30, .ireturn, [0], .null, [])] := rfl
theorem b222_31 : am_b222 31 = [(31, .aload 0, [], .null, []), (32, .invokevirtual 179, [1, 11, 136], .null, []), (35, .aconst_null, [], .int 0, []), (36, .istore 4, [], .null, []), (38, .nop, [38], .null, [])] := rfl
theorem b222_38 : am_b222 38 = [(38, .iload 4, [], .null, []), (40, .aload 0, [], .null, []), (41, .getfield 35, [11, 14], .null, []), (44, .iload 1, [], .null, []), (45, .iaload, [], .null, []), (46, .if_icmp .ge 41, [87], .null, []), (49, .aload 0, [], .null, []), (50, .getfield 38, [11, 15], .null, []), (53, .aconst_null, [], .int 40, []), (55, .iload 1, [], .null, []), (56, .imul, [], .null, []), (57, .iload 4, [], .null, []), (59, .iadd, [], .null, []), (60, .aload 0, [], .null, []), (61, .getfield 32, [11, 13], .null, []), (64, .iload 1, [], .null, []), (65, .iaload, [], .null, []), (66, .aload 0, [], .null, []), (67, .iload 2, [], .null, []), (68, .aconst_null, [], .int 1, []), (69, .invokevirtual 61, [3, 11, 141], .null, []), (72, .i2l, [], .null, []), (73, .invokestatic 310, [217, 2], .null, []), (76, .lastore, [], .null, []), (77, .aload 0, [], .null, []), (78, .invokevirtual 167, [1, 11, 179], .null, []), (81, .iinc 4 1, [], .int 1, []), (84, .goto (-46), [38], .null, [])] := rfl
theorem b222_87 : am_b222 87 = [(87, .aload 0, [], .null, []), (88, .aload 0, [], .null, []), (89, .getfield 35, [11, 14], .null, []), (92, .iload 1, [], .null, []), (93, .iaload, [], .null, []), (94, .invokevirtual 182, [2, 11, 137], .null, []), (97, .ireturn, [0], .null, [])] := rfl
theorem pr_222 : am_pr 222 = (am_b222, 5, 0, 0) := rfl
theorem b223_0 : am_b223 0 = [(0, .aconst_null, [], .int 0, []), (1, .istore 3, [], .null, []), (2, .nop, [2], .null, [])] := rfl
theorem b223_2 : am_b223 2 = [(2, .iload 3, [], .null, []), (3, .aload 0, [], .null, []), (4, .getfield 35, [11, 14], .null, []), (7, .iload 1, [], .null, []), (8, .iaload, [], .null, []), (9, .if_icmp .ge 37, [46], .null, []), (12, .aload 0, [], .null, []), (13, .getfield 38, [11, 15], .null, []), (16, .aconst_null, [], .int 40, []), (18, .iload 1, [], .null, []), (19, .imul, [], .null, []), (20, .iload 3, [], .null, []), (21, .iadd, [], .null, []), (22, .laload, [], .null, []), (23, .aload 0, [], .null, []), (24, .iload 2, [], .null, []), (25, .aconst_null, [], .int 1, []), (26, .invokevirtual 61, [3, 11, 141], .null, []), (29, .i2l, [], .null, []), (30, .lcmp, [], .null, []), (31, .ifCond .eq 5, [36], .null, []), (34, .aconst_null, [], .int 0, []), (35, .ireturn, [1], .null, [])] := rfl
theorem b223_36 : am_b223 36 = [(36, .aload 0, [], .null, []), (37, .invokevirtual 167, [1, 11, 179], .null, []), (40, .iinc 3 1, [], .int 1, []), (43, .goto (-41), [2], .null, [])] := rfl
theorem b223_46 : am_b223 46 = [(46, .aconst_null, [], .int 1, []), (47, .ireturn, [1], .null, [])] := rfl
theorem pr_223 : am_pr 223 = (am_b223, 4, 0, 0) := rfl
theorem b224_0 : am_b224 0 = [(0, .aload 0, [], .null, []), (1, .iload 1, [], .null, []), (2, .invokevirtual 307, [2, 11, 218], .null, []), (5, .istore 3, [], .null, []), (6, .iload 3, [], .null, []), (7, .ifCond .eq 9, [16], .null, []), (10, .aload 0, [], .null, []), (11, .iload 3, [], .null, []), (12, .invokevirtual 73, [2, 11, 133], .null, []), (15, .ireturn, [0], .null, [])] := rfl
theorem b224_16 : am_b224 16 = [(16, .aload 0, [], .null, []), (17, .iload 2, [], .null, []), (18, .invokevirtual 111, [2, 11, 145], .null, []), (21, .ifCond .ne 10, [31], .null, []), (24, .aload 0, [], .null, []), (25, .aconst_null, [], .int (-1000000001), []), (27, .invokevirtual 73, [2, 11, 133], .null, []), (30, .ireturn, [0], .null, [])] := rfl
theorem b224_31 : am_b224 31 = [(31, .aload 0, [], .null, []), (32, .invokevirtual 179, [1, 11, 136], .null, []), (35, .aconst_null, [], .int 0, []), (36, .istore 4, [], .null, []), (38, .aconst_null, [], .int 0, []), (39, .istore 5, [], .null, []), (41, .nop, [41], .null, [])] := rfl
theorem b224_41 : am_b224 41 = [(41, .iload 5, [], .null, []), (43, .aconst_null, [], .int 180, []), (46, .if_icmp .ge 62, [108], .null, []), (49, .aload 0, [], .null, []), (50, .getfield 7, [11, 0], .null, []), (53, .iload 2, [], .null, []), (54, .aconst_null, [], .int 0, []), (55, .invokestatic 46, [140, 2], .null, []), (58, .iload 5, [], .null, []), (60, .aconst_null, [], .int 30, []), (62, .idiv, [], .null, []), (63, .iastore, [], .null, []), (64, .aload 0, [], .null, []), (65, .getfield 7, [11, 0], .null, []), (68, .iload 2, [], .null, []), (69, .aconst_null, [], .int 3, []), (70, .invokestatic 46, [140, 2], .null, []), (73, .iload 5, [], .null, []), (75, .aconst_null, [], .int 30, []), (77, .irem, [], .null, []), (78, .iastore, [], .null, []), (79, .aload 0, [], .null, []), (80, .iload 4, [], .null, []), (82, .aload 0, [], .null, []), (83, .iload 1, [], .null, []), (84, .iload 2, [], .null, []), (85, .invokevirtual 314, [3, 11, 223], .null, []), (88, .ifCond .eq 7, [95], .null, []), (91, .aconst_null, [], .int 1, []), (92, .goto 4, [96], .null, [])] := rfl
theorem b224_95 : am_b224 95 = [(95, .aconst_null, [], .int 0, []), (96, .nop, [96], .null, [])] := rfl
theorem b224_96 : am_b224 96 = [(96, .iadd, [], .null, []), (97, .invokevirtual 182, [2, 11, 137], .null, []), (100, .istore 4, [], .null, []), (102, .iinc 5 1, [], .int 1, []), (105, .goto (-64), [41], .null, [])] := rfl
theorem b224_108 : am_b224 108 = [(108, .iload 4, [], .null, []), (110, .ireturn, [0], .null, [])] := rfl
theorem pr_224 : am_pr 224 = (am_b224, 6, 0, 0) := rfl
theorem b225_0 : am_b225 0 = [(0, .aconst_null, [], .int 0, []), (1, .istore 1, [], .null, []), (2, .nop, [2], .null, [])] := rfl
theorem b225_2 : am_b225 2 = [(2, .iload 1, [], .null, []), (3, .aconst_null, [], .int 110, []), (5, .if_icmp .ge 21, [26], .null, []), (8, .aload 0, [], .null, []), (9, .getfield 13, [11, 1], .null, []), (12, .iload 1, [], .null, []), (13, .aload 0, [], .null, []), (14, .getfield 7, [11, 0], .null, []), (17, .iload 1, [], .null, []), (18, .iaload, [], .null, []), (19, .iastore, [], .null, []), (20, .iinc 1 1, [], .int 1, []), (23, .goto (-21), [2], .null, [])] := rfl
theorem b225_26 : am_b225 26 = [(26, .aload 0, [], .null, []), (27, .aconst_null, [], .int 1, []), (28, .putfield 317, [11, 5, 1], .null, []), (31, .aconst_null, [], .int 1, []), (32, .ireturn, [0], .null, [])] := rfl
theorem pr_225 : am_pr 225 = (am_b225, 2, 0, 0) := rfl
theorem b226_0 : am_b226 0 = [(0, .aload 0, [], .null, []), (1, .getfield 317, [11, 5], .null, []), (4, .ifCond .ne 10, [14], .null, []), (7, .aload 0, [], .null, []), (8, .aconst_null, [], .int (-1000000004), []), (10, .invokevirtual 73, [2, 11, 133], .null, []), (13, .ireturn, [0], .null, [])] := rfl
theorem b226_14 : am_b226 14 = [(14, .aconst_null, [], .int 0, []), (15, .istore 1, [], .null, []), (16, .nop, [16], .null, [])] := rfl
theorem b226_16 : am_b226 16 = [(16, .iload 1, [], .null, []), (17, .aconst_null, [], .int 110, []), (19, .if_icmp .ge 21, [40], .null, []), (22, .aload 0, [], .null, []), (23, .getfield 7, [11, 0], .null, []), (26, .iload 1, [], .null, []), (27, .aload 0, [], .null, []), (28, .getfield 13, [11, 1], .null, []), (31, .iload 1, [], .null, []), (32, .iaload, [], .null, []), (33, .iastore, [], .null, []), (34, .iinc 1 1, [], .int 1, []), (37, .goto (-21), [16], .null, [])] := rfl
theorem b226_40 : am_b226 40 = [(40, .aload 0, [], .null, []), (41, .getfield 7, [11, 0], .null, []), (44, .aconst_null, [], .int 1, []), (45, .iaload, [], .null, []), (46, .ireturn, [0], .null, [])] := rfl
theorem pr_226 : am_pr 226 = (am_b226, 2, 0, 0) := rfl
theorem b227_0 : am_b227 0 = [(0, .aload 0, [], .null, []), (1, .getfield 317, [11, 5], .null, []), (4, .ifCond .eq 7, [11], .null, []), (7, .aconst_null, [], .int 1, []), (8, .goto 4, [12], .null, [])] := rfl
theorem b227_11 : am_b227 11 = [(11, .aconst_null, [], .int 0, []), (12, .nop, [12], .null, [])] := rfl
theorem b227_12 : am_b227 12 = [(12, .istore 1, [], .null, []), (13, .aload 0, [], .null, []), (14, .aconst_null, [], .int 0, []), (15, .putfield 317, [11, 5, 1], .null, []), (18, .iload 1, [], .null, []), (19, .ireturn, [0], .null, [])] := rfl
theorem pr_227 : am_pr 227 = (am_b227, 2, 0, 0) := rfl
theorem b228_0 : am_b228 0 = [(0, .aconst_null, [], .int 0, []), (1, .istore 1, [], .null, []), (2, .aconst_null, [], .int 0, []), (3, .istore 2, [], .null, []), (4, .nop, [4], .null, [])] := rfl
theorem b228_4 : am_b228 4 = [(4, .iload 2, [], .null, []), (5, .aconst_null, [], .int 30, []), (7, .if_icmp .ge 22, [29], .null, []), (10, .iload 1, [], .null, []), (11, .aload 0, [], .null, []), (12, .getfield 7, [11, 0], .null, []), (15, .iload 2, [], .null, []), (16, .aconst_null, [], .int 0, []), (17, .invokestatic 50, [139, 2], .null, []), (20, .iaload, [], .null, []), (21, .iadd, [], .null, []), (22, .istore 1, [], .null, []), (23, .iinc 2 1, [], .int 1, []), (26, .goto (-22), [4], .null, [])] := rfl
theorem b228_29 : am_b228 29 = [(29, .iload 1, [], .null, []), (30, .ireturn, [0], .null, [])] := rfl
theorem pr_228 : am_pr 228 = (am_b228, 3, 0, 0) := rfl
theorem b229_0 : am_b229 0 = [(0, .iload 1, [], .null, []), (1, .tableswitch 53 0 3 #[31, 38, 43, 48], [54], .null, [(0, 32), (1, 39), (2, 44), (3, 49)])] := rfl
theorem b229_32 : am_b229 32 = [(32, .aload 0, [], .null, []), (33, .getfield 7, [11, 0], .null, []), (36, .aconst_null, [], .int 1, []), (37, .iaload, [], .null, []), (38, .ireturn, [0], .null, [])] := rfl
theorem b229_39 : am_b229 39 = [(39, .aload 0, [], .null, []), (40, .getfield 220, [11, 8], .null, []), (43, .ireturn, [0], .null, [])] := rfl
theorem b229_44 : am_b229 44 = [(44, .aload 0, [], .null, []), (45, .invokevirtual 320, [1, 11, 228], .null, []), (48, .ireturn, [0], .null, [])] := rfl
theorem b229_49 : am_b229 49 = [(49, .aload 0, [], .null, []), (50, .invokevirtual 97, [1, 11, 148], .null, []), (53, .ireturn, [0], .null, [])] := rfl
theorem b229_54 : am_b229 54 = [(54, .aload 0, [], .null, []), (55, .aconst_null, [], .int (-1000000001), []), (57, .invokevirtual 73, [2, 11, 133], .null, []), (60, .ireturn, [0], .null, [])] := rfl
theorem pr_229 : am_pr 229 = (am_b229, 2, 0, 0) := rfl
theorem b230_0 : am_b230 0 = [(0, .iload 1, [], .null, []), (1, .i2l, [], .null, []), (2, .aconst_null, [], .long (-1), []), (5, .aconst_null, [], .long 6, []), (8, .invokestatic 55, [132, 3], .null, []), (11, .ifCond .ne 10, [21], .null, []), (14, .aload 0, [], .null, []), (15, .aconst_null, [], .int (-1000000001), []), (17, .invokevirtual 73, [2, 11, 133], .null, []), (20, .ireturn, [0], .null, [])] := rfl
theorem b230_21 : am_b230 21 = [(21, .aconst_null, [], .int 0, []), (22, .istore 2, [], .null, []), (23, .aconst_null, [], .int 0, []), (24, .istore 3, [], .null, []), (25, .nop, [25], .null, [])] := rfl
theorem b230_25 : am_b230 25 = [(25, .iload 3, [], .null, []), (26, .aconst_null, [], .int 7, []), (28, .if_icmp .ge 31, [59], .null, []), (31, .iload 2, [], .null, []), (32, .iload 1, [], .null, []), (33, .ifCond .lt 8, [41], .null, []), (36, .iload 3, [], .null, []), (37, .iload 1, [], .null, []), (38, .if_icmp .ne 12, [50], .null, []), (41, .nop, [41], .null, [])] := rfl
theorem b230_41 : am_b230 41 = [(41, .aload 0, [], .null, []), (42, .getfield 22, [11, 4], .null, []), (45, .iload 3, [], .null, []), (46, .iaload, [], .null, []), (47, .goto 4, [51], .null, [])] := rfl
theorem b230_50 : am_b230 50 = [(50, .aconst_null, [], .int 0, []), (51, .nop, [51], .null, [])] := rfl
theorem b230_51 : am_b230 51 = [(51, .iadd, [], .null, []), (52, .istore 2, [], .null, []), (53, .iinc 3 1, [], .int 1, []), (56, .goto (-31), [25], .null, [])] := rfl
theorem b230_59 : am_b230 59 = [(59, .iload 2, [], .null, []), (60, .ireturn, [0], .null, [])] := rfl
theorem pr_230 : am_pr 230 = (am_b230, 4, 0, 0) := rfl
theorem b231_0 : am_b231 0 = [(0, .iload 0, [], .null, []), (1, .iload 0, [], .null, []), (2, .aconst_null, [], .int 1, []), (3, .iushr, [], .null, []), (4, .aconst_null, [], .int 1431655765, []), (7, .iand, [], .null, []), (8, .isub, [], .null, []), (9, .istore 0, [], .null, []), (10, .iload 0, [], .null, []), (11, .aconst_null, [], .int 858993459, []), (14, .iand, [], .null, []), (15, .iload 0, [], .null, []), (16, .aconst_null, [], .int 2, []), (17, .iushr, [], .null, []), (18, .aconst_null, [], .int 858993459, []), (21, .iand, [], .null, []), (22, .iadd, [], .null, []), (23, .istore 0, [], .null, []), (24, .iload 0, [], .null, []), (25, .iload 0, [], .null, []), (26, .aconst_null, [], .int 4, []), (27, .iushr, [], .null, []), (28, .iadd, [], .null, []), (29, .aconst_null, [], .int 252645135, []), (32, .iand, [], .null, []), (33, .istore 0, [], .null, []), (34, .iload 0, [], .null, []), (35, .iload 0, [], .null, []), (36, .aconst_null, [], .int 8, []), (38, .iushr, [], .null, []), (39, .iadd, [], .null, []), (40, .istore 0, [], .null, []), (41, .iload 0, [], .null, []), (42, .iload 0, [], .null, []), (43, .aconst_null, [], .int 16, []), (45, .iushr, [], .null, []), (46, .iadd, [], .null, []), (47, .istore 0, [], .null, []), (48, .iload 0, [], .null, []), (49, .aconst_null, [], .int 63, []), (51, .iand, [], .null, []), (52, .ireturn, [0], .null, [])] := rfl
theorem pr_231 : am_pr 231 = (am_b231, 1, 0, 0) := rfl
theorem b232_0 : am_b232 0 = [(0, .aconst_null, [], .int 0, []), (1, .istore 3, [], .null, []), (2, .aload 0, [], .null, []), (3, .arraylength, [], .null, []), (4, .istore 4, [], .null, []), (6, .nop, [6], .null, [])] := rfl
theorem b232_6 : am_b232 6 = [(6, .iload 3, [], .null, []), (7, .iload 4, [], .null, []), (9, .if_icmp .ge 13, [22], .null, []), (12, .aload 0, [], .null, []), (13, .iload 3, [], .null, []), (14, .lload 1, [], .null, []), (15, .lastore, [], .null, []), (16, .iinc 3 1, [], .int 1, []), (19, .goto (-13), [6], .null, [])] := rfl
theorem b232_22 : am_b232 22 = [(22, .return_, [], .null, [])] := rfl
theorem pr_232 : am_pr 232 = (am_b232, 5, 0, 0) := rfl
theorem b233_0 : am_b233 0 = [(0, .aconst_null, [], .int 0, []), (1, .istore 2, [], .null, []), (2, .aload 0, [], .null, []), (3, .arraylength, [], .null, []), (4, .istore 3, [], .null, []), (5, .nop, [5], .null, [])] := rfl
theorem b233_5 : am_b233 5 = [(5, .iload 2, [], .null, []), (6, .iload 3, [], .null, []), (7, .if_icmp .ge 13, [20], .null, []), (10, .aload 0, [], .null, []), (11, .iload 2, [], .null, []), (12, .iload 1, [], .null, []), (13, .iastore, [], .null, []), (14, .iinc 2 1, [], .int 1, []), (17, .goto (-12), [5], .null, [])] := rfl
theorem b233_20 : am_b233 20 = [(20, .return_, [], .null, [])] := rfl
theorem pr_233 : am_pr 233 = (am_b233, 4, 0, 0) := rfl
theorem bL_0 : am_bL 0 = [(0, .new 7, [10, 7], .null, []), (3, .dup, [], .null, []), (4, .invokespecial 9, [80, 1], .null, []), (7, .astore 1, [], .null, []), (8, .new 10, [11, 17], .null, []), (11, .dup, [], .null, []), (12, .invokespecial 12, [131, 1], .null, []), (15, .astore 2, [], .null, []), (16, .aconst_null, [], .int 0, []), (17, .istore 3, [], .null, []), (18, .nop, [18], .null, [])] := rfl
theorem bL_18 : am_bL 18 = [(18, .iload 3, [], .null, []), (19, .aload 0, [], .null, []), (20, .arraylength, [], .null, []), (21, .aconst_null, [], .int 6, []), (23, .isub, [], .null, []), (24, .if_icmp .gt 1300, [1324], .null, []), (27, .aload 0, [], .null, []), (28, .iload 3, [], .null, []), (29, .iaload, [], .null, []), (30, .aconst_null, [], .int 63, []), (32, .iand, [], .null, []), (33, .tableswitch 1285 0 36 #[163, 206, 239, 272, 295, 318, 361, 394, 427, 470, 503, 536, 559, 602, 635, 658, 681, 714, 747, 780, 803, 826, 849, 872, 905, 918, 931, 974, 1048, 1111, 1134, 1167, 1200, 1213, 1226, 1239, 1262], [1318], .null, [(0, 196), (1, 239), (2, 272), (3, 305), (4, 328), (5, 351), (6, 394), (7, 427), (8, 460), (9, 503), (10, 536), (11, 569), (12, 592), (13, 635), (14, 668), (15, 691), (16, 714), (17, 747), (18, 780), (19, 813), (20, 836), (21, 859), (22, 882), (23, 905), (24, 938), (25, 951), (26, 964), (27, 1007), (28, 1081), (29, 1144), (30, 1167), (31, 1200), (32, 1233), (33, 1246), (34, 1259), (35, 1272), (36, 1295)])] := rfl
theorem bL_196 : am_bL 196 = [(196, .aload 1, [], .null, []), (197, .aload 0, [], .null, []), (198, .iload 3, [], .null, []), (199, .aconst_null, [], .int 1, []), (200, .iadd, [], .null, []), (201, .iaload, [], .null, []), (202, .aload 0, [], .null, []), (203, .iload 3, [], .null, []), (204, .aconst_null, [], .int 2, []), (205, .iadd, [], .null, []), (206, .iaload, [], .null, []), (207, .aload 0, [], .null, []), (208, .iload 3, [], .null, []), (209, .aconst_null, [], .int 3, []), (210, .iadd, [], .null, []), (211, .iaload, [], .null, []), (212, .invokevirtual 13, [4, 10, 81], .null, []), (215, .aload 2, [], .null, []), (216, .aload 0, [], .null, []), (217, .iload 3, [], .null, []), (218, .aconst_null, [], .int 1, []), (219, .iadd, [], .null, []), (220, .iaload, [], .null, []), (221, .aload 0, [], .null, []), (222, .iload 3, [], .null, []), (223, .aconst_null, [], .int 2, []), (224, .iadd, [], .null, []), (225, .iaload, [], .null, []), (226, .aload 0, [], .null, []), (227, .iload 3, [], .null, []), (228, .aconst_null, [], .int 3, []), (229, .iadd, [], .null, []), (230, .iaload, [], .null, []), (231, .invokevirtual 17, [4, 11, 152], .null, []), (234, .if_icmp .eq 1084, [1318], .null, []), (237, .aconst_null, [], .int 0, []), (238, .ireturn, [1], .null, [])] := rfl
theorem bL_239 : am_bL 239 = [(239, .aload 1, [], .null, []), (240, .aload 0, [], .null, []), (241, .iload 3, [], .null, []), (242, .aconst_null, [], .int 1, []), (243, .iadd, [], .null, []), (244, .iaload, [], .null, []), (245, .aload 0, [], .null, []), (246, .iload 3, [], .null, []), (247, .aconst_null, [], .int 2, []), (248, .iadd, [], .null, []), (249, .iaload, [], .null, []), (250, .invokevirtual 18, [3, 10, 82], .null, []), (253, .aload 2, [], .null, []), (254, .aload 0, [], .null, []), (255, .iload 3, [], .null, []), (256, .aconst_null, [], .int 1, []), (257, .iadd, [], .null, []), (258, .iaload, [], .null, []), (259, .aload 0, [], .null, []), (260, .iload 3, [], .null, []), (261, .aconst_null, [], .int 2, []), (262, .iadd, [], .null, []), (263, .iaload, [], .null, []), (264, .invokevirtual 22, [3, 11, 154], .null, []), (267, .if_icmp .eq 1051, [1318], .null, []), (270, .aconst_null, [], .int 0, []), (271, .ireturn, [1], .null, [])] := rfl
theorem bL_272 : am_bL 272 = [(272, .aload 1, [], .null, []), (273, .aload 0, [], .null, []), (274, .iload 3, [], .null, []), (275, .aconst_null, [], .int 1, []), (276, .iadd, [], .null, []), (277, .iaload, [], .null, []), (278, .aload 0, [], .null, []), (279, .iload 3, [], .null, []), (280, .aconst_null, [], .int 2, []), (281, .iadd, [], .null, []), (282, .iaload, [], .null, []), (283, .invokevirtual 23, [3, 10, 83], .null, []), (286, .aload 2, [], .null, []), (287, .aload 0, [], .null, []), (288, .iload 3, [], .null, []), (289, .aconst_null, [], .int 1, []), (290, .iadd, [], .null, []), (291, .iaload, [], .null, []), (292, .aload 0, [], .null, []), (293, .iload 3, [], .null, []), (294, .aconst_null, [], .int 2, []), (295, .iadd, [], .null, []), (296, .iaload, [], .null, []), (297, .invokevirtual 26, [3, 11, 156], .null, []), (300, .if_icmp .eq 1018, [1318], .null, []), (303, .aconst_null, [], .int 0, []), (304, .ireturn, [1], .null, [])] := rfl
theorem bL_305 : am_bL 305 = [(305, .aload 1, [], .null, []), (306, .aload 0, [], .null, []), (307, .iload 3, [], .null, []), (308, .aconst_null, [], .int 1, []), (309, .iadd, [], .null, []), (310, .iaload, [], .null, []), (311, .invokevirtual 27, [2, 10, 84], .null, []), (314, .aload 2, [], .null, []), (315, .aload 0, [], .null, []), (316, .iload 3, [], .null, []), (317, .aconst_null, [], .int 1, []), (318, .iadd, [], .null, []), (319, .iaload, [], .null, []), (320, .invokevirtual 31, [2, 11, 157], .null, []), (323, .if_icmp .eq 995, [1318], .null, []), (326, .aconst_null, [], .int 0, []), (327, .ireturn, [1], .null, [])] := rfl
theorem bL_328 : am_bL 328 = [(328, .aload 1, [], .null, []), (329, .aload 0, [], .null, []), (330, .iload 3, [], .null, []), (331, .aconst_null, [], .int 1, []), (332, .iadd, [], .null, []), (333, .iaload, [], .null, []), (334, .invokevirtual 32, [2, 10, 85], .null, []), (337, .aload 2, [], .null, []), (338, .aload 0, [], .null, []), (339, .iload 3, [], .null, []), (340, .aconst_null, [], .int 1, []), (341, .iadd, [], .null, []), (342, .iaload, [], .null, []), (343, .invokevirtual 35, [2, 11, 158], .null, []), (346, .if_icmp .eq 972, [1318], .null, []), (349, .aconst_null, [], .int 0, []), (350, .ireturn, [1], .null, [])] := rfl
theorem bL_351 : am_bL 351 = [(351, .aload 1, [], .null, []), (352, .aload 0, [], .null, []), (353, .iload 3, [], .null, []), (354, .aconst_null, [], .int 1, []), (355, .iadd, [], .null, []), (356, .iaload, [], .null, []), (357, .aload 0, [], .null, []), (358, .iload 3, [], .null, []), (359, .aconst_null, [], .int 2, []), (360, .iadd, [], .null, []), (361, .iaload, [], .null, []), (362, .aload 0, [], .null, []), (363, .iload 3, [], .null, []), (364, .aconst_null, [], .int 3, []), (365, .iadd, [], .null, []), (366, .iaload, [], .null, []), (367, .invokevirtual 36, [4, 10, 86], .null, []), (370, .aload 2, [], .null, []), (371, .aload 0, [], .null, []), (372, .iload 3, [], .null, []), (373, .aconst_null, [], .int 1, []), (374, .iadd, [], .null, []), (375, .iaload, [], .null, []), (376, .aload 0, [], .null, []), (377, .iload 3, [], .null, []), (378, .aconst_null, [], .int 2, []), (379, .iadd, [], .null, []), (380, .iaload, [], .null, []), (381, .aload 0, [], .null, []), (382, .iload 3, [], .null, []), (383, .aconst_null, [], .int 3, []), (384, .iadd, [], .null, []), (385, .iaload, [], .null, []), (386, .invokevirtual 39, [4, 11, 165], .null, []), (389, .if_icmp .eq 929, [1318], .null, []), (392, .aconst_null, [], .int 0, []), (393, .ireturn, [1], .null, [])] := rfl
theorem bL_394 : am_bL 394 = [(394, .aload 1, [], .null, []), (395, .aload 0, [], .null, []), (396, .iload 3, [], .null, []), (397, .aconst_null, [], .int 1, []), (398, .iadd, [], .null, []), (399, .iaload, [], .null, []), (400, .aload 0, [], .null, []), (401, .iload 3, [], .null, []), (402, .aconst_null, [], .int 2, []), (403, .iadd, [], .null, []), (404, .iaload, [], .null, []), (405, .invokevirtual 40, [3, 10, 87], .null, []), (408, .aload 2, [], .null, []), (409, .aload 0, [], .null, []), (410, .iload 3, [], .null, []), (411, .aconst_null, [], .int 1, []), (412, .iadd, [], .null, []), (413, .iaload, [], .null, []), (414, .aload 0, [], .null, []), (415, .iload 3, [], .null, []), (416, .aconst_null, [], .int 2, []), (417, .iadd, [], .null, []), (418, .iaload, [], .null, []), (419, .invokevirtual 43, [3, 11, 166], .null, []), (422, .if_icmp .eq 896, [1318], .null, []), (425, .aconst_null, [], .int 0, []), (426, .ireturn, [1], .null, [])] := rfl
theorem bL_427 : am_bL 427 = [(427, .aload 1, [], .null, []), (428, .aload 0, [], .null, []), (429, .iload 3, [], .null, []), (430, .aconst_null, [], .int 1, []), (431, .iadd, [], .null, []), (432, .iaload, [], .null, []), (433, .aload 0, [], .null, []), (434, .iload 3, [], .null, []), (435, .aconst_null, [], .int 2, []), (436, .iadd, [], .null, []), (437, .iaload, [], .null, []), (438, .invokevirtual 44, [3, 10, 88], .null, []), (441, .aload 2, [], .null, []), (442, .aload 0, [], .null, []), (443, .iload 3, [], .null, []), (444, .aconst_null, [], .int 1, []), (445, .iadd, [], .null, []), (446, .iaload, [], .null, []), (447, .aload 0, [], .null, []), (448, .iload 3, [], .null, []), (449, .aconst_null, [], .int 2, []), (450, .iadd, [], .null, []), (451, .iaload, [], .null, []), (452, .invokevirtual 47, [3, 11, 167], .null, []), (455, .if_icmp .eq 863, [1318], .null, []), (458, .aconst_null, [], .int 0, []), (459, .ireturn, [1], .null, [])] := rfl
theorem bL_460 : am_bL 460 = [(460, .aload 1, [], .null, []), (461, .aload 0, [], .null, []), (462, .iload 3, [], .null, []), (463, .aconst_null, [], .int 1, []), (464, .iadd, [], .null, []), (465, .iaload, [], .null, []), (466, .aload 0, [], .null, []), (467, .iload 3, [], .null, []), (468, .aconst_null, [], .int 2, []), (469, .iadd, [], .null, []), (470, .iaload, [], .null, []), (471, .aload 0, [], .null, []), (472, .iload 3, [], .null, []), (473, .aconst_null, [], .int 3, []), (474, .iadd, [], .null, []), (475, .iaload, [], .null, []), (476, .invokevirtual 48, [4, 10, 89], .null, []), (479, .aload 2, [], .null, []), (480, .aload 0, [], .null, []), (481, .iload 3, [], .null, []), (482, .aconst_null, [], .int 1, []), (483, .iadd, [], .null, []), (484, .iaload, [], .null, []), (485, .aload 0, [], .null, []), (486, .iload 3, [], .null, []), (487, .aconst_null, [], .int 2, []), (488, .iadd, [], .null, []), (489, .iaload, [], .null, []), (490, .aload 0, [], .null, []), (491, .iload 3, [], .null, []), (492, .aconst_null, [], .int 3, []), (493, .iadd, [], .null, []), (494, .iaload, [], .null, []), (495, .invokevirtual 51, [4, 11, 168], .null, []), (498, .if_icmp .eq 820, [1318], .null, []), (501, .aconst_null, [], .int 0, []), (502, .ireturn, [1], .null, [])] := rfl
theorem bL_503 : am_bL 503 = [(503, .aload 1, [], .null, []), (504, .aload 0, [], .null, []), (505, .iload 3, [], .null, []), (506, .aconst_null, [], .int 1, []), (507, .iadd, [], .null, []), (508, .iaload, [], .null, []), (509, .aload 0, [], .null, []), (510, .iload 3, [], .null, []), (511, .aconst_null, [], .int 2, []), (512, .iadd, [], .null, []), (513, .iaload, [], .null, []), (514, .invokevirtual 52, [3, 10, 90], .null, []), (517, .aload 2, [], .null, []), (518, .aload 0, [], .null, []), (519, .iload 3, [], .null, []), (520, .aconst_null, [], .int 1, []), (521, .iadd, [], .null, []), (522, .iaload, [], .null, []), (523, .aload 0, [], .null, []), (524, .iload 3, [], .null, []), (525, .aconst_null, [], .int 2, []), (526, .iadd, [], .null, []), (527, .iaload, [], .null, []), (528, .invokevirtual 55, [3, 11, 169], .null, []), (531, .if_icmp .eq 787, [1318], .null, []), (534, .aconst_null, [], .int 0, []), (535, .ireturn, [1], .null, [])] := rfl
theorem bL_536 : am_bL 536 = [(536, .aload 1, [], .null, []), (537, .aload 0, [], .null, []), (538, .iload 3, [], .null, []), (539, .aconst_null, [], .int 1, []), (540, .iadd, [], .null, []), (541, .iaload, [], .null, []), (542, .aload 0, [], .null, []), (543, .iload 3, [], .null, []), (544, .aconst_null, [], .int 2, []), (545, .iadd, [], .null, []), (546, .iaload, [], .null, []), (547, .invokevirtual 56, [3, 10, 91], .null, []), (550, .aload 2, [], .null, []), (551, .aload 0, [], .null, []), (552, .iload 3, [], .null, []), (553, .aconst_null, [], .int 1, []), (554, .iadd, [], .null, []), (555, .iaload, [], .null, []), (556, .aload 0, [], .null, []), (557, .iload 3, [], .null, []), (558, .aconst_null, [], .int 2, []), (559, .iadd, [], .null, []), (560, .iaload, [], .null, []), (561, .invokevirtual 59, [3, 11, 171], .null, []), (564, .if_icmp .eq 754, [1318], .null, []), (567, .aconst_null, [], .int 0, []), (568, .ireturn, [1], .null, [])] := rfl
theorem bL_569 : am_bL 569 = [(569, .aload 1, [], .null, []), (570, .aload 0, [], .null, []), (571, .iload 3, [], .null, []), (572, .aconst_null, [], .int 1, []), (573, .iadd, [], .null, []), (574, .iaload, [], .null, []), (575, .invokevirtual 60, [2, 10, 92], .null, []), (578, .aload 2, [], .null, []), (579, .aload 0, [], .null, []), (580, .iload 3, [], .null, []), (581, .aconst_null, [], .int 1, []), (582, .iadd, [], .null, []), (583, .iaload, [], .null, []), (584, .invokevirtual 63, [2, 11, 181], .null, []), (587, .if_icmp .eq 731, [1318], .null, []), (590, .aconst_null, [], .int 0, []), (591, .ireturn, [1], .null, [])] := rfl
theorem bL_592 : am_bL 592 = [(592, .aload 1, [], .null, []), (593, .aload 0, [], .null, []), (594, .iload 3, [], .null, []), (595, .aconst_null, [], .int 1, []), (596, .iadd, [], .null, []), (597, .iaload, [], .null, []), (598, .aload 0, [], .null, []), (599, .iload 3, [], .null, []), (600, .aconst_null, [], .int 2, []), (601, .iadd, [], .null, []), (602, .iaload, [], .null, []), (603, .aload 0, [], .null, []), (604, .iload 3, [], .null, []), (605, .aconst_null, [], .int 3, []), (606, .iadd, [], .null, []), (607, .iaload, [], .null, []), (608, .invokevirtual 64, [4, 10, 93], .null, []), (611, .aload 2, [], .null, []), (612, .aload 0, [], .null, []), (613, .iload 3, [], .null, []), (614, .aconst_null, [], .int 1, []), (615, .iadd, [], .null, []), (616, .iaload, [], .null, []), (617, .aload 0, [], .null, []), (618, .iload 3, [], .null, []), (619, .aconst_null, [], .int 2, []), (620, .iadd, [], .null, []), (621, .iaload, [], .null, []), (622, .aload 0, [], .null, []), (623, .iload 3, [], .null, []), (624, .aconst_null, [], .int 3, []), (625, .iadd, [], .null, []), (626, .iaload, [], .null, []), (627, .invokevirtual 67, [4, 11, 186], .null, []), (630, .if_icmp .eq 688, [1318], .null, []), (633, .aconst_null, [], .int 0, []), (634, .ireturn, [1], .null, [])] := rfl
theorem bL_635 : am_bL 635 = [(635, .aload 1, [], .null, []), (636, .aload 0, [], .null, []), (637, .iload 3, [], .null, []), (638, .aconst_null, [], .int 1, []), (639, .iadd, [], .null, []), (640, .iaload, [], .null, []), (641, .aload 0, [], .null, []), (642, .iload 3, [], .null, []), (643, .aconst_null, [], .int 2, []), (644, .iadd, [], .null, []), (645, .iaload, [], .null, []), (646, .invokevirtual 68, [3, 10, 94], .null, []), (649, .aload 2, [], .null, []), (650, .aload 0, [], .null, []), (651, .iload 3, [], .null, []), (652, .aconst_null, [], .int 1, []), (653, .iadd, [], .null, []), (654, .iaload, [], .null, []), (655, .aload 0, [], .null, []), (656, .iload 3, [], .null, []), (657, .aconst_null, [], .int 2, []), (658, .iadd, [], .null, []), (659, .iaload, [], .null, []), (660, .invokevirtual 71, [3, 11, 187], .null, []), (663, .if_icmp .eq 655, [1318], .null, []), (666, .aconst_null, [], .int 0, []), (667, .ireturn, [1], .null, [])] := rfl
theorem bL_668 : am_bL 668 = [(668, .aload 1, [], .null, []), (669, .aload 0, [], .null, []), (670, .iload 3, [], .null, []), (671, .aconst_null, [], .int 1, []), (672, .iadd, [], .null, []), (673, .iaload, [], .null, []), (674, .invokevirtual 72, [2, 10, 95], .null, []), (677, .aload 2, [], .null, []), (678, .aload 0, [], .null, []), (679, .iload 3, [], .null, []), (680, .aconst_null, [], .int 1, []), (681, .iadd, [], .null, []), (682, .iaload, [], .null, []), (683, .invokevirtual 75, [2, 11, 190], .null, []), (686, .if_icmp .eq 632, [1318], .null, []), (689, .aconst_null, [], .int 0, []), (690, .ireturn, [1], .null, [])] := rfl
theorem bL_691 : am_bL 691 = [(691, .aload 1, [], .null, []), (692, .aload 0, [], .null, []), (693, .iload 3, [], .null, []), (694, .aconst_null, [], .int 1, []), (695, .iadd, [], .null, []), (696, .iaload, [], .null, []), (697, .invokevirtual 76, [2, 10, 96], .null, []), (700, .aload 2, [], .null, []), (701, .aload 0, [], .null, []), (702, .iload 3, [], .null, []), (703, .aconst_null, [], .int 1, []), (704, .iadd, [], .null, []), (705, .iaload, [], .null, []), (706, .invokevirtual 79, [2, 11, 191], .null, []), (709, .if_icmp .eq 609, [1318], .null, []), (712, .aconst_null, [], .int 0, []), (713, .ireturn, [1], .null, [])] := rfl
theorem bL_714 : am_bL 714 = [(714, .aload 1, [], .null, []), (715, .aload 0, [], .null, []), (716, .iload 3, [], .null, []), (717, .aconst_null, [], .int 1, []), (718, .iadd, [], .null, []), (719, .iaload, [], .null, []), (720, .aload 0, [], .null, []), (721, .iload 3, [], .null, []), (722, .aconst_null, [], .int 2, []), (723, .iadd, [], .null, []), (724, .iaload, [], .null, []), (725, .invokevirtual 80, [3, 10, 97], .null, []), (728, .aload 2, [], .null, []), (729, .aload 0, [], .null, []), (730, .iload 3, [], .null, []), (731, .aconst_null, [], .int 1, []), (732, .iadd, [], .null, []), (733, .iaload, [], .null, []), (734, .aload 0, [], .null, []), (735, .iload 3, [], .null, []), (736, .aconst_null, [], .int 2, []), (737, .iadd, [], .null, []), (738, .iaload, [], .null, []), (739, .invokevirtual 83, [3, 11, 192], .null, []), (742, .if_icmp .eq 576, [1318], .null, []), (745, .aconst_null, [], .int 0, []), (746, .ireturn, [1], .null, [])] := rfl
theorem bL_747 : am_bL 747 = [(747, .aload 1, [], .null, []), (748, .aload 0, [], .null, []), (749, .iload 3, [], .null, []), (750, .aconst_null, [], .int 1, []), (751, .iadd, [], .null, []), (752, .iaload, [], .null, []), (753, .aload 0, [], .null, []), (754, .iload 3, [], .null, []), (755, .aconst_null, [], .int 2, []), (756, .iadd, [], .null, []), (757, .iaload, [], .null, []), (758, .invokevirtual 84, [3, 10, 98], .null, []), (761, .aload 2, [], .null, []), (762, .aload 0, [], .null, []), (763, .iload 3, [], .null, []), (764, .aconst_null, [], .int 1, []), (765, .iadd, [], .null, []), (766, .iaload, [], .null, []), (767, .aload 0, [], .null, []), (768, .iload 3, [], .null, []), (769, .aconst_null, [], .int 2, []), (770, .iadd, [], .null, []), (771, .iaload, [], .null, []), (772, .invokevirtual 87, [3, 11, 194], .null, []), (775, .if_icmp .eq 543, [1318], .null, []), (778, .aconst_null, [], .int 0, []), (779, .ireturn, [1], .null, [])] := rfl
theorem bL_780 : am_bL 780 = [(780, .aload 1, [], .null, []), (781, .aload 0, [], .null, []), (782, .iload 3, [], .null, []), (783, .aconst_null, [], .int 1, []), (784, .iadd, [], .null, []), (785, .iaload, [], .null, []), (786, .aload 0, [], .null, []), (787, .iload 3, [], .null, []), (788, .aconst_null, [], .int 2, []), (789, .iadd, [], .null, []), (790, .iaload, [], .null, []), (791, .invokevirtual 88, [3, 10, 99], .null, []), (794, .aload 2, [], .null, []), (795, .aload 0, [], .null, []), (796, .iload 3, [], .null, []), (797, .aconst_null, [], .int 1, []), (798, .iadd, [], .null, []), (799, .iaload, [], .null, []), (800, .aload 0, [], .null, []), (801, .iload 3, [], .null, []), (802, .aconst_null, [], .int 2, []), (803, .iadd, [], .null, []), (804, .iaload, [], .null, []), (805, .invokevirtual 91, [3, 11, 195], .null, []), (808, .if_icmp .eq 510, [1318], .null, []), (811, .aconst_null, [], .int 0, []), (812, .ireturn, [1], .null, [])] := rfl
theorem bL_813 : am_bL 813 = [(813, .aload 1, [], .null, []), (814, .aload 0, [], .null, []), (815, .iload 3, [], .null, []), (816, .aconst_null, [], .int 1, []), (817, .iadd, [], .null, []), (818, .iaload, [], .null, []), (819, .invokevirtual 92, [2, 10, 100], .null, []), (822, .aload 2, [], .null, []), (823, .aload 0, [], .null, []), (824, .iload 3, [], .null, []), (825, .aconst_null, [], .int 1, []), (826, .iadd, [], .null, []), (827, .iaload, [], .null, []), (828, .invokevirtual 95, [2, 11, 196], .null, []), (831, .if_icmp .eq 487, [1318], .null, []), (834, .aconst_null, [], .int 0, []), (835, .ireturn, [1], .null, [])] := rfl
theorem bL_836 : am_bL 836 = [(836, .aload 1, [], .null, []), (837, .aload 0, [], .null, []), (838, .iload 3, [], .null, []), (839, .aconst_null, [], .int 1, []), (840, .iadd, [], .null, []), (841, .iaload, [], .null, []), (842, .invokevirtual 96, [2, 10, 101], .null, []), (845, .aload 2, [], .null, []), (846, .aload 0, [], .null, []), (847, .iload 3, [], .null, []), (848, .aconst_null, [], .int 1, []), (849, .iadd, [], .null, []), (850, .iaload, [], .null, []), (851, .invokevirtual 99, [2, 11, 197], .null, []), (854, .if_icmp .eq 464, [1318], .null, []), (857, .aconst_null, [], .int 0, []), (858, .ireturn, [1], .null, [])] := rfl
theorem bL_859 : am_bL 859 = [(859, .aload 1, [], .null, []), (860, .aload 0, [], .null, []), (861, .iload 3, [], .null, []), (862, .aconst_null, [], .int 1, []), (863, .iadd, [], .null, []), (864, .iaload, [], .null, []), (865, .invokevirtual 100, [2, 10, 102], .null, []), (868, .aload 2, [], .null, []), (869, .aload 0, [], .null, []), (870, .iload 3, [], .null, []), (871, .aconst_null, [], .int 1, []), (872, .iadd, [], .null, []), (873, .iaload, [], .null, []), (874, .invokevirtual 103, [2, 11, 198], .null, []), (877, .if_icmp .eq 441, [1318], .null, []), (880, .aconst_null, [], .int 0, []), (881, .ireturn, [1], .null, [])] := rfl
theorem bL_882 : am_bL 882 = [(882, .aload 1, [], .null, []), (883, .aload 0, [], .null, []), (884, .iload 3, [], .null, []), (885, .aconst_null, [], .int 1, []), (886, .iadd, [], .null, []), (887, .iaload, [], .null, []), (888, .invokevirtual 104, [2, 10, 103], .null, []), (891, .aload 2, [], .null, []), (892, .aload 0, [], .null, []), (893, .iload 3, [], .null, []), (894, .aconst_null, [], .int 1, []), (895, .iadd, [], .null, []), (896, .iaload, [], .null, []), (897, .invokevirtual 107, [2, 11, 199], .null, []), (900, .if_icmp .eq 418, [1318], .null, []), (903, .aconst_null, [], .int 0, []), (904, .ireturn, [1], .null, [])] := rfl
theorem bL_905 : am_bL 905 = [(905, .aload 1, [], .null, []), (906, .aload 0, [], .null, []), (907, .iload 3, [], .null, []), (908, .aconst_null, [], .int 1, []), (909, .iadd, [], .null, []), (910, .iaload, [], .null, []), (911, .aload 0, [], .null, []), (912, .iload 3, [], .null, []), (913, .aconst_null, [], .int 2, []), (914, .iadd, [], .null, []), (915, .iaload, [], .null, []), (916, .invokevirtual 108, [3, 10, 104], .null, []), (919, .aload 2, [], .null, []), (920, .aload 0, [], .null, []), (921, .iload 3, [], .null, []), (922, .aconst_null, [], .int 1, []), (923, .iadd, [], .null, []), (924, .iaload, [], .null, []), (925, .aload 0, [], .null, []), (926, .iload 3, [], .null, []), (927, .aconst_null, [], .int 2, []), (928, .iadd, [], .null, []), (929, .iaload, [], .null, []), (930, .invokevirtual 111, [3, 11, 200], .null, []), (933, .if_icmp .eq 385, [1318], .null, []), (936, .aconst_null, [], .int 0, []), (937, .ireturn, [1], .null, [])] := rfl
theorem bL_938 : am_bL 938 = [(938, .aload 1, [], .null, []), (939, .invokevirtual 112, [1, 10, 105], .null, []), (942, .aload 2, [], .null, []), (943, .invokevirtual 116, [1, 11, 201], .null, []), (946, .if_icmp .eq 372, [1318], .null, []), (949, .aconst_null, [], .int 0, []), (950, .ireturn, [1], .null, [])] := rfl
theorem bL_951 : am_bL 951 = [(951, .aload 1, [], .null, []), (952, .invokevirtual 117, [1, 10, 106], .null, []), (955, .aload 2, [], .null, []), (956, .invokevirtual 120, [1, 11, 214], .null, []), (959, .if_icmp .eq 359, [1318], .null, []), (962, .aconst_null, [], .int 0, []), (963, .ireturn, [1], .null, [])] := rfl
theorem bL_964 : am_bL 964 = [(964, .aload 1, [], .null, []), (965, .aload 0, [], .null, []), (966, .iload 3, [], .null, []), (967, .aconst_null, [], .int 1, []), (968, .iadd, [], .null, []), (969, .iaload, [], .null, []), (970, .aload 0, [], .null, []), (971, .iload 3, [], .null, []), (972, .aconst_null, [], .int 2, []), (973, .iadd, [], .null, []), (974, .iaload, [], .null, []), (975, .aload 0, [], .null, []), (976, .iload 3, [], .null, []), (977, .aconst_null, [], .int 3, []), (978, .iadd, [], .null, []), (979, .iaload, [], .null, []), (980, .invokevirtual 121, [4, 10, 107], .null, []), (983, .aload 2, [], .null, []), (984, .aload 0, [], .null, []), (985, .iload 3, [], .null, []), (986, .aconst_null, [], .int 1, []), (987, .iadd, [], .null, []), (988, .iaload, [], .null, []), (989, .aload 0, [], .null, []), (990, .iload 3, [], .null, []), (991, .aconst_null, [], .int 2, []), (992, .iadd, [], .null, []), (993, .iaload, [], .null, []), (994, .aload 0, [], .null, []), (995, .iload 3, [], .null, []), (996, .aconst_null, [], .int 3, []), (997, .iadd, [], .null, []), (998, .iaload, [], .null, []), (999, .invokevirtual 124, [4, 11, 216], .null, []), (1002, .if_icmp .eq 316, [1318], .null, []), (1005, .aconst_null, [], .int 0, []), (1006, .ireturn, [1], .null, [])] := rfl
theorem bL_1007 : am_bL 1007 = [(1007, .aload 1, [], .null, []), (1008, .aload 0, [], .null, []), (1009, .iload 3, [], .null, []), (1010, .aconst_null, [], .int 1, []), (1011, .iadd, [], .null, []), (1012, .iaload, [], .null, []), (1013, .aload 0, [], .null, []), (1014, .iload 3, [], .null, []), (1015, .aconst_null, [], .int 2, []), (1016, .iadd, [], .null, []), (1017, .iaload, [], .null, []), (1018, .aload 0, [], .null, []), (1019, .iload 3, [], .null, []), (1020, .aconst_null, [], .int 3, []), (1021, .iadd, [], .null, []), (1022, .iaload, [], .null, []), (1023, .i2l, [], .null, []), (1024, .aconst_null, [], .int 32, []), (1026, .lshl, [], .null, []), (1027, .aload 0, [], .null, []), (1028, .iload 3, [], .null, []), (1029, .aconst_null, [], .int 4, []), (1030, .iadd, [], .null, []), (1031, .iaload, [], .null, []), (1032, .i2l, [], .null, []), (1033, .aconst_null, [], .long 4294967295, []), (1036, .land, [], .null, []), (1037, .lor, [], .null, []), (1038, .invokevirtual 127, [4, 10, 108], .null, []), (1041, .aload 2, [], .null, []), (1042, .aload 0, [], .null, []), (1043, .iload 3, [], .null, []), (1044, .aconst_null, [], .int 1, []), (1045, .iadd, [], .null, []), (1046, .iaload, [], .null, []), (1047, .aload 0, [], .null, []), (1048, .iload 3, [], .null, []), (1049, .aconst_null, [], .int 2, []), (1050, .iadd, [], .null, []), (1051, .iaload, [], .null, []), (1052, .aload 0, [], .null, []), (1053, .iload 3, [], .null, []), (1054, .aconst_null, [], .int 3, []), (1055, .iadd, [], .null, []), (1056, .iaload, [], .null, []), (1057, .i2l, [], .null, []), (1058, .aconst_null, [], .int 32, []), (1060, .lshl, [], .null, []), (1061, .aload 0, [], .null, []), (1062, .iload 3, [], .null, []), (1063, .aconst_null, [], .int 4, []), (1064, .iadd, [], .null, []), (1065, .iaload, [], .null, []), (1066, .i2l, [], .null, []), (1067, .aconst_null, [], .long 4294967295, []), (1070, .land, [], .null, []), (1071, .lor, [], .null, []), (1072, .invokevirtual 131, [4, 11, 219], .null, []), (1075, .lcmp, [], .null, []), (1076, .ifCond .eq 242, [1318], .null, []), (1079, .aconst_null, [], .int 0, []), (1080, .ireturn, [1], .null, [])] := rfl
theorem bL_1081 : am_bL 1081 = [(1081, .aload 1, [], .null, []), (1082, .aload 0, [], .null, []), (1083, .iload 3, [], .null, []), (1084, .aconst_null, [], .int 1, []), (1085, .iadd, [], .null, []), (1086, .iaload, [], .null, []), (1087, .aload 0, [], .null, []), (1088, .iload 3, [], .null, []), (1089, .aconst_null, [], .int 2, []), (1090, .iadd, [], .null, []), (1091, .iaload, [], .null, []), (1092, .aload 0, [], .null, []), (1093, .iload 3, [], .null, []), (1094, .aconst_null, [], .int 3, []), (1095, .iadd, [], .null, []), (1096, .iaload, [], .null, []), (1097, .aload 0, [], .null, []), (1098, .iload 3, [], .null, []), (1099, .aconst_null, [], .int 4, []), (1100, .iadd, [], .null, []), (1101, .iaload, [], .null, []), (1102, .aload 0, [], .null, []), (1103, .iload 3, [], .null, []), (1104, .aconst_null, [], .int 5, []), (1105, .iadd, [], .null, []), (1106, .iaload, [], .null, []), (1107, .invokevirtual 132, [6, 10, 109], .null, []), (1110, .aload 2, [], .null, []), (1111, .aload 0, [], .null, []), (1112, .iload 3, [], .null, []), (1113, .aconst_null, [], .int 1, []), (1114, .iadd, [], .null, []), (1115, .iaload, [], .null, []), (1116, .aload 0, [], .null, []), (1117, .iload 3, [], .null, []), (1118, .aconst_null, [], .int 2, []), (1119, .iadd, [], .null, []), (1120, .iaload, [], .null, []), (1121, .aload 0, [], .null, []), (1122, .iload 3, [], .null, []), (1123, .aconst_null, [], .int 3, []), (1124, .iadd, [], .null, []), (1125, .iaload, [], .null, []), (1126, .aload 0, [], .null, []), (1127, .iload 3, [], .null, []), (1128, .aconst_null, [], .int 4, []), (1129, .iadd, [], .null, []), (1130, .iaload, [], .null, []), (1131, .aload 0, [], .null, []), (1132, .iload 3, [], .null, []), (1133, .aconst_null, [], .int 5, []), (1134, .iadd, [], .null, []), (1135, .iaload, [], .null, []), (1136, .invokevirtual 136, [6, 11, 220], .null, []), (1139, .if_icmp .eq 179, [1318], .null, []), (1142, .aconst_null, [], .int 0, []), (1143, .ireturn, [1], .null, [])] := rfl
theorem bL_1144 : am_bL 1144 = [(1144, .aload 1, [], .null, []), (1145, .aload 0, [], .null, []), (1146, .iload 3, [], .null, []), (1147, .aconst_null, [], .int 1, []), (1148, .iadd, [], .null, []), (1149, .iaload, [], .null, []), (1150, .invokevirtual 137, [2, 10, 110], .null, []), (1153, .aload 2, [], .null, []), (1154, .aload 0, [], .null, []), (1155, .iload 3, [], .null, []), (1156, .aconst_null, [], .int 1, []), (1157, .iadd, [], .null, []), (1158, .iaload, [], .null, []), (1159, .invokevirtual 140, [2, 11, 221], .null, []), (1162, .if_icmp .eq 156, [1318], .null, []), (1165, .aconst_null, [], .int 0, []), (1166, .ireturn, [1], .null, [])] := rfl
theorem bL_1167 : am_bL 1167 = [(1167, .aload 1, [], .null, []), (1168, .aload 0, [], .null, []), (1169, .iload 3, [], .null, []), (1170, .aconst_null, [], .int 1, []), (1171, .iadd, [], .null, []), (1172, .iaload, [], .null, []), (1173, .aload 0, [], .null, []), (1174, .iload 3, [], .null, []), (1175, .aconst_null, [], .int 2, []), (1176, .iadd, [], .null, []), (1177, .iaload, [], .null, []), (1178, .invokevirtual 141, [3, 10, 111], .null, []), (1181, .aload 2, [], .null, []), (1182, .aload 0, [], .null, []), (1183, .iload 3, [], .null, []), (1184, .aconst_null, [], .int 1, []), (1185, .iadd, [], .null, []), (1186, .iaload, [], .null, []), (1187, .aload 0, [], .null, []), (1188, .iload 3, [], .null, []), (1189, .aconst_null, [], .int 2, []), (1190, .iadd, [], .null, []), (1191, .iaload, [], .null, []), (1192, .invokevirtual 144, [3, 11, 222], .null, []), (1195, .if_icmp .eq 123, [1318], .null, []), (1198, .aconst_null, [], .int 0, []), (1199, .ireturn, [1], .null, [])] := rfl
theorem bL_1200 : am_bL 1200 = [(1200, .aload 1, [], .null, []), (1201, .aload 0, [], .null, []), (1202, .iload 3, [], .null, []), (1203, .aconst_null, [], .int 1, []), (1204, .iadd, [], .null, []), (1205, .iaload, [], .null, []), (1206, .aload 0, [], .null, []), (1207, .iload 3, [], .null, []), (1208, .aconst_null, [], .int 2, []), (1209, .iadd, [], .null, []), (1210, .iaload, [], .null, []), (1211, .invokevirtual 145, [3, 10, 112], .null, []), (1214, .aload 2, [], .null, []), (1215, .aload 0, [], .null, []), (1216, .iload 3, [], .null, []), (1217, .aconst_null, [], .int 1, []), (1218, .iadd, [], .null, []), (1219, .iaload, [], .null, []), (1220, .aload 0, [], .null, []), (1221, .iload 3, [], .null, []), (1222, .aconst_null, [], .int 2, []), (1223, .iadd, [], .null, []), (1224, .iaload, [], .null, []), (1225, .invokevirtual 148, [3, 11, 224], .null, []), (1228, .if_icmp .eq 90, [1318], .null, []), (1231, .aconst_null, [], .int 0, []), (1232, .ireturn, [1], .null, [])] := rfl
theorem bL_1233 : am_bL 1233 = [(1233, .aload 1, [], .null, []), (1234, .invokevirtual 149, [1, 10, 113], .null, []), (1237, .aload 2, [], .null, []), (1238, .invokevirtual 152, [1, 11, 225], .null, []), (1241, .if_icmp .eq 77, [1318], .null, []), (1244, .aconst_null, [], .int 0, []), (1245, .ireturn, [1], .null, [])] := rfl
theorem bL_1246 : am_bL 1246 = [(1246, .aload 1, [], .null, []), (1247, .invokevirtual 153, [1, 10, 114], .null, []), (1250, .aload 2, [], .null, []), (1251, .invokevirtual 156, [1, 11, 226], .null, []), (1254, .if_icmp .eq 64, [1318], .null, []), (1257, .aconst_null, [], .int 0, []), (1258, .ireturn, [1], .null, [])] := rfl
theorem bL_1259 : am_bL 1259 = [(1259, .aload 1, [], .null, []), (1260, .invokevirtual 157, [1, 10, 115], .null, []), (1263, .aload 2, [], .null, []), (1264, .invokevirtual 160, [1, 11, 227], .null, []), (1267, .if_icmp .eq 51, [1318], .null, []), (1270, .aconst_null, [], .int 0, []), (1271, .ireturn, [1], .null, [])] := rfl
theorem bL_1272 : am_bL 1272 = [(1272, .aload 1, [], .null, []), (1273, .aload 0, [], .null, []), (1274, .iload 3, [], .null, []), (1275, .aconst_null, [], .int 1, []), (1276, .iadd, [], .null, []), (1277, .iaload, [], .null, []), (1278, .invokevirtual 161, [2, 10, 116], .null, []), (1281, .aload 2, [], .null, []), (1282, .aload 0, [], .null, []), (1283, .iload 3, [], .null, []), (1284, .aconst_null, [], .int 1, []), (1285, .iadd, [], .null, []), (1286, .iaload, [], .null, []), (1287, .invokevirtual 164, [2, 11, 229], .null, []), (1290, .if_icmp .eq 28, [1318], .null, []), (1293, .aconst_null, [], .int 0, []), (1294, .ireturn, [1], .null, [])] := rfl
theorem bL_1295 : am_bL 1295 = [(1295, .aload 1, [], .null, []), (1296, .aload 0, [], .null, []), (1297, .iload 3, [], .null, []), (1298, .aconst_null, [], .int 1, []), (1299, .iadd, [], .null, []), (1300, .iaload, [], .null, []), (1301, .invokevirtual 165, [2, 10, 117], .null, []), (1304, .aload 2, [], .null, []), (1305, .aload 0, [], .null, []), (1306, .iload 3, [], .null, []), (1307, .aconst_null, [], .int 1, []), (1308, .iadd, [], .null, []), (1309, .iaload, [], .null, []), (1310, .invokevirtual 168, [2, 11, 230], .null, []), (1313, .if_icmp .eq 5, [1318], .null, []), (1316, .aconst_null, [], .int 0, []), (1317, .ireturn, [1], .null, [])] := rfl
theorem bL_1318 : am_bL 1318 = [(1318, .iinc 3 6, [], .int 6, []), (1321, .goto (-1303), [18], .null, [])] := rfl
theorem bL_1324 : am_bL 1324 = [(1324, .aconst_null, [], .int 1, []), (1325, .ireturn, [1], .null, [])] := rfl
/-- the texts of the claim: mole digger carrier retired master hurrier dug secret -/
def am_str : List (List Int32) := [[109, 111, 108, 101], [100, 105, 103, 103, 101, 114], [99, 97, 114, 114, 105, 101, 114], [114, 101, 116, 105, 114, 101, 100], [109, 97, 115, 116, 101, 114], [104, 117, 114, 114, 105, 101, 114], [100, 117, 103], [115, 101, 99, 114, 101, 116]]
