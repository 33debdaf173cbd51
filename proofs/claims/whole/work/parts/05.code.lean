/-! ===== printed by wip/gen/emit.py: the methods as abstract operations, block by block ===== -/
abbrev m_M_status : Nat := 0
def o_M_status : Ops := [(0, [.aload 0, .getfield 0, .ireturn])]
abbrev m_M_top : Nat := 1
def o_M_top : Ops := [(0, [.aload 0, .getfield 1, .lreturn])]
abbrev m_M_bottom : Nat := 2
def o_M_bottom : Ops := [(0, [.aload 0, .getfield 2, .lreturn])]
abbrev m_M_tray : Nat := 3
def o_M_tray : Ops := [(0, [.aload 0, .goto_w 3, .iload 1, .invokeinterface 4 4, .ifCond .eq 30, .iload 2, .ifCond .lt 30, .iload 2, .sipush 3, .if_icmp .gt 30, .iload 3, .ifCond .lt 30, .iload 3, .sipush 60, .if_icmp .le 36, .jsr 30]),
  (30, [.aload 0, .sipush 1, .invokeinterface 5 4, .freturn]),
  (36, [.aload 0, .goto_w 3, .iload 1, .iload 2, .iload 3, .invokeinterface 6 9, .aload 0, .invokeinterface 7 2, .freturn])]
abbrev m_Trays_isOne : Nat := 4
def o_Trays_isOne : Ops := [(0, [.iload 1, .ifCond .lt 13, .iload 1, .sipush 4, .if_icmp .ge 13, .sipush 1, .goto 14]),
  (13, [.sipush 0, .jsr 14]),
  (14, [.freturn])]
abbrev m_M_deny : Nat := 5
def o_M_deny : Ops := [(0, [.aload 0, .iload 1, .putfield 0, .sipush 0, .freturn])]
abbrev m_Trays_lay : Nat := 6
def o_Trays_lay : Ops := [(0, [.aload 0, .goto_w 1, .iload 1, .iload 2, .iastore, .aload 0, .goto_w 2, .iload 1, .iload 3, .iastore, .sipush 0, .istore 4, .jsr 17]),
  (17, [.iload 4, .sipush 60, .if_icmp .ge 43, .aload 0, .goto_w 3, .iload 1, .sipush 60, .imul, .iload 4, .iadd, .bipush 0, .lastore, .iinc 4 1, .goto 17]),
  (43, [.return_])]
abbrev m_M_grant : Nat := 7
def o_M_grant : Ops := [(0, [.aload 0, .sipush 0, .putfield 0, .sipush 1, .freturn])]
abbrev m_M_write : Nat := 8
def o_M_write : Ops := [(0, [.aload 0, .goto_w 3, .iload 1, .iload 2, .invokeinterface 9 6, .istore 5, .iload 5, .ifCond .eq 23, .aload 0, .iload 5, .invokeinterface 5 4, .freturn]),
  (23, [.aload 0, .goto_w 3, .iload 1, .iload 2, .lload 3, .invokeinterface 11 9, .aload 0, .invokeinterface 7 2, .freturn])]
abbrev m_Trays_problemAt : Nat := 9
def o_Trays_problemAt : Ops := [(0, [.aload 0, .iload 1, .invokeinterface 4 4, .ifCond .ne 10, .sipush 1, .ireturn]),
  (10, [.aload 0, .iload 1, .invokeinterface 10 4, .ifCond .eq 20, .sipush 2, .ireturn]),
  (20, [.iload 2, .ifCond .lt 38, .iload 2, .aload 0, .goto_w 2, .iload 1, .iaload, .if_icmp .ge 38, .sipush 0, .goto 39]),
  (38, [.sipush 3, .jsr 39]),
  (39, [.ireturn])]
abbrev m_Trays_isMissing : Nat := 10
def o_Trays_isMissing : Ops := [(0, [.aload 0, .goto_w 1, .iload 1, .iaload, .sipush (-1), .if_icmp .ne 14, .sipush 1, .goto 15]),
  (14, [.sipush 0, .jsr 15]),
  (15, [.freturn])]
abbrev m_Trays_put : Nat := 11
def o_Trays_put : Ops := [(0, [.aload 0, .goto_w 3, .iload 1, .sipush 60, .imul, .iload 2, .iadd, .aload 0, .goto_w 1, .iload 1, .iaload, .lload 3, .invokeinterface 12 4, .lastore, .return_])]
abbrev m_Trays_cut : Nat := 12
def o_Trays_cut : Ops := [(0, [.iload 0, .lookupswitch 42 #[(0, 28), (1, 33), (2, 38)]]),
  (28, [.lload 1, .l2i, .i2b, .i2l, .lreturn]),
  (33, [.lload 1, .l2i, .i2s, .i2l, .lreturn]),
  (38, [.lload 1, .l2i, .i2l, .lreturn]),
  (42, [.lload 1, .lreturn])]
abbrev m_M_read : Nat := 13
def o_M_read : Ops := [(0, [.aload 0, .goto_w 3, .iload 1, .iload 2, .invokeinterface 9 6, .istore 3, .iload 3, .ifCond .eq 21, .aload 0, .iload 3, .invokeinterface 14 4, .i2l, .lreturn]),
  (21, [.aload 0, .sipush 0, .putfield 0, .aload 0, .goto_w 3, .goto_w 3, .iload 1, .sipush 60, .imul, .iload 2, .iadd, .laload, .lreturn])]
abbrev m_M_fail : Nat := 14
def o_M_fail : Ops := [(0, [.aload 0, .iload 1, .putfield 0, .sipush (-1), .ireturn])]
abbrev m_M_pour : Nat := 15
def o_M_pour : Ops := [(0, [.aload 0, .goto_w 3, .iload 1, .invokeinterface 4 4, .ifCond .eq 36, .aload 0, .goto_w 3, .iload 3, .invokeinterface 4 4, .ifCond .eq 36, .iload 2, .ifCond .lt 36, .iload 4, .ifCond .lt 36, .iload 5, .ifCond .ge 42, .jsr 36]),
  (36, [.aload 0, .sipush 1, .invokeinterface 5 4, .freturn]),
  (42, [.aload 0, .goto_w 3, .iload 1, .invokeinterface 10 4, .ifCond .ne 64, .aload 0, .goto_w 3, .iload 3, .invokeinterface 10 4, .ifCond .eq 70, .jsr 64]),
  (64, [.aload 0, .sipush 2, .invokeinterface 5 4, .freturn]),
  (70, [.aload 0, .goto_w 3, .goto_w 1, .iload 1, .iaload, .aload 0, .goto_w 3, .goto_w 1, .iload 3, .iaload, .if_icmp .eq 98, .aload 0, .sipush 8, .invokeinterface 5 4, .freturn]),
  (98, [.aload 0, .goto_w 3, .iload 1, .iload 2, .iload 5, .invokeinterface 16 8, .ifCond .eq 127, .aload 0, .goto_w 3, .iload 3, .iload 4, .iload 5, .invokeinterface 16 8, .ifCond .ne 133, .jsr 127]),
  (127, [.aload 0, .sipush 3, .invokeinterface 5 4, .freturn]),
  (133, [.aload 0, .goto_w 3, .iload 1, .iload 2, .iload 3, .iload 4, .iload 5, .invokeinterface 17 13, .aload 0, .invokeinterface 7 2, .freturn])]
abbrev m_Trays_reaches : Nat := 16
def o_Trays_reaches : Ops := [(0, [.iload 2, .i2l, .iload 3, .i2l, .ladd, .aload 0, .goto_w 2, .iload 1, .iaload, .i2l, .lcmp, .ifCond .gt 20, .sipush 1, .goto 21]),
  (20, [.sipush 0, .jsr 21]),
  (21, [.freturn])]
abbrev m_Trays_move : Nat := 17
def o_Trays_move : Ops := [(0, [.aload 0, .goto_w 3, .iload 1, .sipush 60, .imul, .iload 2, .iadd, .aload 0, .goto_w 3, .iload 3, .sipush 60, .imul, .iload 4, .iadd, .iload 5, .aastore, .return_])]
abbrev m_M_feed : Nat := 18
def o_M_feed : Ops := [(0, [.aload 0, .goto_w 7, .getfield 1, .sipush 20, .iadd, .sipush 900, .if_icmp .le 18, .sipush (-1), .ireturn]),
  (18, [.aload 0, .goto_w 7, .iload 1, .invokeinterface 19 5, .aload 0, .goto_w 7, .iload 2, .invokeinterface 19 5, .aload 0, .goto_w 7, .iload 3, .invokeinterface 19 5, .aload 0, .goto_w 7, .iload 4, .invokeinterface 19 5, .aload 0, .goto_w 7, .iload 5, .invokeinterface 19 5, .aload 0, .goto_w 7, .getfield 1, .ireturn])]
abbrev m_Tokens_append : Nat := 19
def o_Tokens_append : Ops := [(0, [.sipush 24, .istore 2, .jsr 3]),
  (3, [.iload 2, .ifCond .lt 46, .aload 0, .getfield 1, .sipush 900, .if_icmp .ge 46, .aload 0, .goto_w 1, .aload 0, .getfield 1, .iload 1, .iload 2, .ishr, .i2b, .bastore, .aload 0, .dup, .getfield 1, .sipush 1, .iadd, .putfield 1, .iinc 2 (-8), .goto 3]),
  (46, [.return_])]
abbrev m_M_hall : Nat := 20
def o_M_hall : Ops := [(0, [.iload 1, .ifCond .lt 15, .iload 1, .aload 0, .goto_w 7, .getfield 1, .if_icmp .le 21, .jsr 15]),
  (15, [.aload 0, .sipush 1, .invokeinterface 14 4, .ireturn]),
  (21, [.aload 0, .goto_w 7, .iload 1, .invokeinterface 21 5, .aload 0, .goto_w 9, .aload 0, .goto_w 57, .invokeinterface 22 4, .istore 2, .iload 2, .ifCond .ne 52, .aload 0, .sipush 9, .invokeinterface 14 4, .ireturn]),
  (52, [.aload 0, .goto_w 37, .aload 0, .goto_w 57, .invokeinterface 68 5, .aload 0, .aload 0, .goto_w 37, .getfield 4, .invokeinterface 70 4, .ireturn])]
abbrev m_Tokens_begin : Nat := 21
def o_Tokens_begin : Ops := [(0, [.aload 0, .sipush 0, .putfield 1, .aload 0, .iload 1, .putfield 2, .aload 0, .sipush 0, .putfield 3, .aload 0, .sipush 0, .putfield 8, .aload 0, .sipush (-1), .putfield 9, .return_])]
abbrev m_HallReader_readInto : Nat := 22
def o_HallReader_readInto : Ops := [(0, [.aload 1, .invokeinterface 23 3, .aload 0, .sipush 0, .putstatic 1, .sipush 0, .istore 2, .jsr 11]),
  (11, [.iload 2, .sipush 900, .if_icmp .gt 62, .aload 0, .goto_w (-2), .invokeinterface 25 3, .aload 0, .goto_w (-2), .getfield 4, .ifCond .ne 46, .aload 1, .sipush (-1), .aload 1, .goto_w 11, .invokeinterface 30 7, .sipush 1, .freturn]),
  (46, [.aload 0, .aload 1, .invokeinterface 34 4, .ifCond .ne 56, .sipush 0, .freturn]),
  (56, [.iinc 2 1, .goto 11]),
  (62, [.aload 0, .goto_w (-2), .sipush 2, .invokeinterface 37 4, .freturn])]
abbrev m_Hall_clear : Nat := 23
def o_Hall_clear : Ops := [(0, [.aload 0, .sipush 4, .putfield 0, .aload 0, .sipush 0, .putfield 1, .aload 0, .sipush 0, .putfield 2, .aload 0, .sipush 0, .putfield 3, .aload 0, .sipush 0, .putfield 4, .aload 0, .sipush 0, .putfield 5, .aload 0, .sipush 0, .putstatic 6, .aload 0, .goto_w 12, .invokeinterface 24 3, .return_])]
abbrev m_Steps_clear : Nat := 24
def o_Steps_clear : Ops := [(0, [.aload 0, .sipush 0, .putstatic 0, .aload 0, .sipush 0, .putfield 1, .aload 0, .sipush 0, .putfield 2, .return_])]
abbrev m_Tokens_advance : Nat := 25
def o_Tokens_advance : Ops := [(0, [.aload 0, .getfield 3, .aload 0, .getfield 2, .if_icmp .ge 52, .aload 0, .goto_w 1, .aload 0, .getfield 3, .baload, .sipush 10, .if_icmp .eq 39, .aload 0, .goto_w 1, .aload 0, .getfield 3, .baload, .sipush 32, .if_icmp .ne 52, .jsr 39]),
  (39, [.aload 0, .dup, .getfield 3, .sipush 1, .iadd, .putfield 3, .goto 0]),
  (52, [.aload 0, .aload 0, .getfield 3, .putfield 5, .aload 0, .getfield 3, .aload 0, .getfield 2, .if_icmp .lt 77, .aload 0, .sipush 0, .putfield 4, .return_]),
  (77, [.aload 0, .aload 0, .goto_w 1, .aload 0, .getfield 3, .baload, .putfield 6, .aload 0, .aload 0, .getfield 6, .invokeinterface 26 2, .putfield 4, .aload 0, .dup, .getfield 3, .sipush 1, .iadd, .putfield 3, .aload 0, .getfield 4, .sipush 1, .if_icmp .ne 134, .aload 0, .invokeinterface 27 3, .aload 0, .aload 0, .invokeinterface 28 2, .putfield 6, .goto 146]),
  (134, [.aload 0, .getfield 4, .sipush 2, .if_icmp .ne 146, .aload 0, .invokeinterface 29 3, .jsr 146]),
  (146, [.return_])]
abbrev m_Tokens_kindOf : Nat := 26
def o_Tokens_kindOf : Ops := [(0, [.iload 0, .sipush 97, .if_icmp .lt 14, .iload 0, .sipush 122, .if_icmp .gt 14, .sipush 1, .ireturn]),
  (14, [.iload 0, .sipush 48, .if_icmp .lt 28, .iload 0, .sipush 57, .if_icmp .gt 28, .sipush 2, .ireturn]),
  (28, [.iload 0, .sipush 59, .if_icmp .eq 52, .iload 0, .sipush 60, .if_icmp .eq 52, .iload 0, .sipush 62, .if_icmp .eq 52, .iload 0, .sipush 61, .if_icmp .ne 56, .jsr 52]),
  (52, [.sipush 3, .goto 57]),
  (56, [.sipush 4, .jsr 57]),
  (57, [.ireturn])]
abbrev m_Tokens_readLetters : Nat := 27
def o_Tokens_readLetters : Ops := [(0, [.aload 0, .aload 0, .goto_w 1, .aload 0, .getfield 5, .baload, .i2l, .putfield 7, .jsr 14]),
  (14, [.aload 0, .getfield 3, .aload 0, .getfield 2, .if_icmp .ge 88, .aload 0, .goto_w 1, .aload 0, .getfield 3, .baload, .sipush 97, .if_icmp .lt 88, .aload 0, .goto_w 1, .aload 0, .getfield 3, .baload, .sipush 122, .if_icmp .gt 88, .aload 0, .aload 0, .getfield 7, .sipush 8, .lshl, .aload 0, .goto_w 1, .aload 0, .getfield 3, .baload, .i2l, .lor, .putfield 7, .aload 0, .dup, .getfield 3, .sipush 1, .iadd, .putfield 3, .goto 14]),
  (88, [.return_])]
abbrev m_Tokens_wordNumber : Nat := 28
def o_Tokens_wordNumber : Ops := [(0, [.sipush 0, .istore 1, .jsr 2]),
  (2, [.iload 1, .getstatic 0, .fneg, .if_icmp .ge 45, .aload 0, .getfield 3, .aload 0, .getfield 5, .isub, .sipush 8, .if_icmp .gt 45, .getstatic 0, .iload 1, .faload, .aload 0, .getfield 7, .lcmp, .ifCond .ne 39, .iload 1, .ireturn]),
  (39, [.iinc 1 1, .goto 2]),
  (45, [.sipush (-1), .ireturn])]
abbrev m_Tokens_readDigits : Nat := 29
def o_Tokens_readDigits : Ops := [(0, [.aload 0, .aload 0, .goto_w 1, .aload 0, .getfield 5, .baload, .sipush 48, .isub, .putfield 6, .jsr 16]),
  (16, [.aload 0, .getfield 3, .aload 0, .getfield 2, .if_icmp .ge 105, .aload 0, .goto_w 1, .aload 0, .getfield 3, .baload, .sipush 48, .if_icmp .lt 105, .aload 0, .goto_w 1, .aload 0, .getfield 3, .baload, .sipush 57, .if_icmp .gt 105, .aload 0, .getfield 3, .aload 0, .getfield 5, .isub, .sipush 4, .if_icmp .ge 92, .aload 0, .aload 0, .getfield 6, .sipush 10, .imul, .aload 0, .goto_w 1, .aload 0, .getfield 3, .baload, .sipush 48, .isub, .iadd, .putfield 6, .jsr 92]),
  (92, [.aload 0, .dup, .getfield 3, .sipush 1, .iadd, .putfield 3, .goto 16]),
  (105, [.aload 0, .getfield 3, .aload 0, .getfield 5, .isub, .sipush 4, .if_icmp .le 123, .aload 0, .sipush 4, .putfield 4, .jsr 123]),
  (123, [.return_])]
abbrev m_Hall_measure : Nat := 30
def o_Hall_measure : Ops := [(0, [.aload 2, .sipush 10000000, .invokeinterface 31 5, .sipush 0, .istore 3, .jsr 8]),
  (8, [.iload 3, .aload 0, .getfield 1, .if_icmp .ge 31, .aload 2, .iload 3, .sipush 7, .imul, .iload 3, .iadd, .sipush 0, .iastore, .iinc 3 1, .goto 8]),
  (31, [.sipush 0, .istore 3, .jsr 33]),
  (33, [.iload 3, .aload 0, .getfield 2, .if_icmp .ge 119, .iload 3, .iload 1, .if_icmp .eq 113, .aload 0, .goto_w 3, .iload 3, .iaload, .sipush 1000, .imul, .aload 0, .goto_w 4, .iload 3, .iaload, .iadd, .istore 4, .aload 2, .aload 0, .goto_w 2, .sipush 2, .iload 3, .imul, .iaload, .aload 0, .goto_w 2, .sipush 2, .iload 3, .imul, .sipush 1, .iadd, .iaload, .iload 4, .invokeinterface 32 9, .aload 2, .aload 0, .goto_w 2, .sipush 2, .iload 3, .imul, .sipush 1, .iadd, .iaload, .aload 0, .goto_w 2, .sipush 2, .iload 3, .imul, .iaload, .iload 4, .invokeinterface 32 9, .jsr 113]),
  (113, [.iinc 3 1, .goto 33]),
  (119, [.sipush 0, .istore 3, .jsr 121]),
  (121, [.iload 3, .aload 0, .getfield 1, .if_icmp .ge 141, .aload 0, .iload 3, .aload 2, .invokeinterface 33 7, .iinc 3 1, .goto 121]),
  (141, [.return_])]
abbrev m_Arrays_fill : Nat := 31
def o_Arrays_fill : Ops := [(0, [.sipush 0, .istore 2, .aload 0, .arraylength, .istore 3, .jsr 5]),
  (5, [.iload 2, .iload 3, .if_icmp .ge 20, .aload 0, .iload 2, .iload 1, .iastore, .iinc 2 1, .goto 5]),
  (20, [.return_])]
abbrev m_Hall_shorten : Nat := 32
def o_Hall_shorten : Ops := [(0, [.iload 1, .sipush 7, .imul, .iload 2, .iadd, .istore 4, .iload 3, .aload 0, .iload 4, .iaload, .if_icmp .ge 21, .aload 0, .iload 4, .iload 3, .iastore, .jsr 21]),
  (21, [.return_])]
abbrev m_Hall_measureBy : Nat := 33
def o_Hall_measureBy : Ops := [(0, [.sipush 0, .istore 3, .jsr 2]),
  (2, [.iload 3, .aload 0, .getfield 1, .if_icmp .ge 70, .aload 2, .iload 3, .sipush 7, .imul, .iload 1, .iadd, .iaload, .istore 4, .sipush 0, .istore 5, .jsr 23]),
  (23, [.iload 4, .sipush 10000000, .if_icmp .ge 64, .iload 5, .aload 0, .getfield 1, .if_icmp .ge 64, .aload 2, .iload 3, .iload 5, .iload 4, .aload 2, .iload 1, .sipush 7, .imul, .iload 5, .iadd, .iaload, .iadd, .invokeinterface 32 9, .iinc 5 1, .goto 23]),
  (64, [.iinc 3 1, .goto 2]),
  (70, [.return_])]
abbrev m_HallReader_readPart : Nat := 34
def o_HallReader_readPart : Ops := [(0, [.aload 0, .goto_w (-2), .invokeinterface 35 2, .lookupswitch 102 #[(0, 60), (1, 66), (2, 72), (3, 102), (4, 102), (5, 78), (6, 102), (7, 84), (8, 90), (9, 96)]]),
  (60, [.aload 0, .aload 1, .invokeinterface 36 4, .freturn]),
  (66, [.aload 0, .aload 1, .invokeinterface 42 4, .freturn]),
  (72, [.aload 0, .aload 1, .invokeinterface 51 4, .freturn]),
  (78, [.aload 0, .aload 1, .invokeinterface 55 4, .freturn]),
  (84, [.aload 0, .aload 1, .invokeinterface 57 4, .freturn]),
  (90, [.aload 0, .aload 1, .invokeinterface 59 4, .freturn]),
  (96, [.aload 0, .aload 1, .invokeinterface 63 4, .freturn]),
  (102, [.aload 0, .goto_w (-2), .sipush 2, .invokeinterface 37 4, .freturn])]
abbrev m_Tokens_word : Nat := 35
def o_Tokens_word : Ops := [(0, [.aload 0, .getfield 4, .sipush 1, .if_icmp .ne 15, .aload 0, .getfield 6, .goto 16]),
  (15, [.sipush (-1), .jsr 16]),
  (16, [.ireturn])]
abbrev m_HallReader_readOdds : Nat := 36
def o_HallReader_readOdds : Ops := [(0, [.aload 0, .getfield 1, .ifCond .eq 16, .aload 0, .goto_w (-2), .sipush 5, .invokeinterface 37 4, .freturn]),
  (16, [.aload 0, .goto_w (-2), .sipush 0, .sipush 16, .invokeinterface 38 6, .ifCond .ne 31, .sipush 0, .freturn]),
  (31, [.aload 0, .sipush 1, .putstatic 1, .aload 1, .aload 0, .goto_w (-2), .getfield 6, .putfield 0, .aload 0, .goto_w (-2), .invokeinterface 40 2, .freturn])]
abbrev m_Tokens_refuse : Nat := 37
def o_Tokens_refuse : Ops := [(0, [.aload 0, .aload 0, .getfield 4, .sipush 4, .if_icmp .ne 13, .sipush 1, .goto 14]),
  (13, [.iload 1, .jsr 14]),
  (14, [.putfield 8, .aload 0, .aload 0, .getfield 5, .putfield 9, .sipush 0, .freturn])]
abbrev m_Tokens_numberNext : Nat := 38
def o_Tokens_numberNext : Ops := [(0, [.aload 0, .invokeinterface 25 3, .aload 0, .iload 1, .iload 2, .invokeinterface 39 6, .freturn])]
abbrev m_Tokens_numberHere : Nat := 39
def o_Tokens_numberHere : Ops := [(0, [.aload 0, .getfield 4, .sipush 2, .if_icmp .eq 14, .aload 0, .sipush 2, .invokeinterface 37 4, .freturn]),
  (14, [.aload 0, .getfield 6, .iload 1, .if_icmp .lt 30, .aload 0, .getfield 6, .iload 2, .if_icmp .le 38, .jsr 30]),
  (30, [.aload 0, .sipush 4, .invokeinterface 37 4, .ifCond .eq 42, .jsr 38]),
  (38, [.sipush 1, .goto 43]),
  (42, [.sipush 0, .jsr 43]),
  (43, [.freturn])]
abbrev m_Tokens_closeNext : Nat := 40
def o_Tokens_closeNext : Ops := [(0, [.aload 0, .invokeinterface 25 3, .aload 0, .invokeinterface 41 2, .freturn])]
abbrev m_Tokens_closeHere : Nat := 41
def o_Tokens_closeHere : Ops := [(0, [.aload 0, .getfield 4, .sipush 3, .if_icmp .ne 17, .aload 0, .getfield 6, .sipush 59, .if_icmp .eq 25, .jsr 17]),
  (17, [.aload 0, .sipush 2, .invokeinterface 37 4, .ifCond .eq 29, .jsr 25]),
  (25, [.sipush 1, .goto 30]),
  (29, [.sipush 0, .jsr 30]),
  (30, [.freturn])]
abbrev m_HallReader_readPlace : Nat := 42
def o_HallReader_readPlace : Ops := [(0, [.aload 1, .getfield 1, .sipush 7, .if_icmp .lt 19, .aload 0, .goto_w (-2), .sipush 6, .invokeinterface 37 4, .freturn]),
  (19, [.aload 0, .aload 1, .invokeinterface 43 4, .ifCond .ne 29, .sipush 0, .freturn]),
  (29, [.aload 1, .aload 0, .goto_w (-2), .getfield 7, .invokeinterface 50 5, .aload 0, .goto_w (-2), .invokeinterface 40 2, .freturn])]
abbrev m_HallReader_newNameNext : Nat := 43
def o_HallReader_newNameNext : Ops := [(0, [.aload 0, .goto_w (-2), .invokeinterface 44 2, .ifCond .ne 12, .sipush 0, .freturn]),
  (12, [.aload 1, .aload 0, .goto_w (-2), .getfield 7, .invokeinterface 45 4, .ifCond .eq 37, .aload 0, .goto_w (-2), .sipush 3, .invokeinterface 37 4, .ifCond .eq 41, .jsr 37]),
  (37, [.sipush 1, .goto 42]),
  (41, [.sipush 0, .jsr 42]),
  (42, [.freturn])]
abbrev m_Tokens_nameNext : Nat := 44
def o_Tokens_nameNext : Ops := [(0, [.aload 0, .invokeinterface 25 3, .aload 0, .getfield 4, .sipush 1, .if_icmp .ne 38, .aload 0, .getfield 6, .sipush (-1), .if_icmp .ne 38, .aload 0, .getfield 3, .aload 0, .getfield 5, .isub, .sipush 8, .if_icmp .gt 38, .sipush 1, .goto 39]),
  (38, [.sipush 0, .jsr 39]),
  (39, [.istore 1, .iload 1, .ifCond .ne 52, .aload 0, .sipush 2, .invokeinterface 37 4, .ifCond .eq 56, .jsr 52]),
  (52, [.sipush 1, .goto 57]),
  (56, [.sipush 0, .jsr 57]),
  (57, [.freturn])]
abbrev m_Hall_isTaken : Nat := 45
def o_Hall_isTaken : Ops := [(0, [.aload 0, .lload 1, .invokeinterface 46 4, .sipush (-1), .if_icmp .ne 27, .aload 0, .lload 1, .invokeinterface 48 4, .sipush (-1), .if_icmp .ne 27, .aload 0, .lload 1, .invokeinterface 49 4, .sipush (-1), .if_icmp .eq 31, .jsr 27]),
  (27, [.sipush 1, .goto 32]),
  (31, [.sipush 0, .jsr 32]),
  (32, [.freturn])]
abbrev m_Hall_placeNamed : Nat := 46
def o_Hall_placeNamed : Ops := [(0, [.aload 0, .lload 1, .sipush 0, .aload 0, .getfield 1, .invokeinterface 47 8, .ireturn])]
abbrev m_Hall_indexOf : Nat := 47
def o_Hall_indexOf : Ops := [(0, [.sipush 0, .istore 5, .jsr 3]),
  (3, [.iload 5, .iload 4, .if_icmp .ge 33, .aload 0, .goto_w 1, .iload 3, .iload 5, .iadd, .laload, .lload 1, .lcmp, .ifCond .ne 27, .iload 5, .ireturn]),
  (27, [.iinc 5 1, .goto 3]),
  (33, [.sipush (-1), .ireturn])]
abbrev m_Hall_slateNamed : Nat := 48
def o_Hall_slateNamed : Ops := [(0, [.aload 0, .lload 1, .sipush 7, .aload 0, .getfield 3, .invokeinterface 47 8, .ireturn])]
abbrev m_Hall_callerNamed : Nat := 49
def o_Hall_callerNamed : Ops := [(0, [.aload 0, .lload 1, .sipush 11, .aload 0, .getfield 4, .invokeinterface 47 8, .ireturn])]
abbrev m_Hall_addPlace : Nat := 50
def o_Hall_addPlace : Ops := [(0, [.aload 0, .goto_w 1, .aload 0, .getfield 1, .lload 1, .lastore, .aload 0, .dup, .getfield 1, .sipush 1, .iadd, .putfield 1, .return_])]
abbrev m_HallReader_readWay : Nat := 51
def o_HallReader_readWay : Ops := [(0, [.aload 1, .getfield 2, .sipush 10, .if_icmp .lt 19, .aload 0, .goto_w (-2), .sipush 6, .invokeinterface 37 4, .freturn]),
  (19, [.aload 0, .aload 1, .invokeinterface 52 4, .istore 2, .iload 2, .sipush (-1), .if_icmp .ne 34, .sipush (-1), .goto 39]),
  (34, [.aload 0, .aload 1, .invokeinterface 52 4, .jsr 39]),
  (39, [.istore 3, .iload 3, .sipush (-1), .if_icmp .ne 47, .sipush 0, .freturn]),
  (47, [.iload 2, .iload 3, .if_icmp .ne 61, .aload 0, .goto_w (-2), .sipush 5, .invokeinterface 37 4, .freturn]),
  (61, [.aload 0, .goto_w (-2), .sipush 3, .invokeinterface 53 4, .ifCond .eq 85, .aload 0, .goto_w (-2), .sipush 1, .sipush 9, .invokeinterface 38 6, .ifCond .ne 87, .jsr 85]),
  (85, [.sipush 0, .freturn]),
  (87, [.aload 0, .goto_w (-2), .getfield 6, .istore 4, .sipush 0, .istore 5, .aload 0, .goto_w (-2), .invokeinterface 25 3, .aload 0, .goto_w (-2), .invokeinterface 35 2, .sipush 4, .if_icmp .ne 148, .aload 0, .goto_w (-2), .sipush 0, .sipush 9, .invokeinterface 38 6, .ifCond .ne 132, .sipush 0, .freturn]),
  (132, [.aload 0, .goto_w (-2), .getfield 6, .istore 5, .aload 0, .goto_w (-2), .invokeinterface 25 3, .jsr 148]),
  (148, [.aload 1, .iload 2, .iload 3, .iload 4, .iload 5, .invokeinterface 54 11, .aload 0, .goto_w (-2), .invokeinterface 41 2, .freturn])]
abbrev m_HallReader_placeNext : Nat := 52
def o_HallReader_placeNext : Ops := [(0, [.aload 0, .goto_w (-2), .invokeinterface 44 2, .ifCond .ne 12, .sipush (-1), .ireturn]),
  (12, [.aload 1, .aload 0, .goto_w (-2), .getfield 7, .invokeinterface 46 4, .istore 2, .iload 2, .sipush (-1), .if_icmp .ne 38, .aload 0, .goto_w (-2), .sipush 3, .invokeinterface 37 4, .pop, .jsr 38]),
  (38, [.iload 2, .ireturn])]
abbrev m_Tokens_wordNext : Nat := 53
def o_Tokens_wordNext : Ops := [(0, [.aload 0, .invokeinterface 25 3, .aload 0, .invokeinterface 35 2, .iload 1, .if_icmp .eq 20, .aload 0, .sipush 2, .invokeinterface 37 4, .ifCond .eq 24, .jsr 20]),
  (20, [.sipush 1, .goto 25]),
  (24, [.sipush 0, .jsr 25]),
  (25, [.freturn])]
abbrev m_Hall_addWay : Nat := 54
def o_Hall_addWay : Ops := [(0, [.aload 0, .goto_w 2, .sipush 2, .aload 0, .getfield 2, .imul, .iload 1, .iastore, .aload 0, .goto_w 2, .sipush 2, .aload 0, .getfield 2, .imul, .sipush 1, .iadd, .iload 2, .iastore, .aload 0, .goto_w 3, .aload 0, .getfield 2, .iload 3, .iastore, .aload 0, .goto_w 4, .aload 0, .getfield 2, .iload 4, .iastore, .aload 0, .dup, .getfield 2, .sipush 1, .iadd, .putfield 2, .return_])]
abbrev m_HallReader_readSlate : Nat := 55
def o_HallReader_readSlate : Ops := [(0, [.aload 1, .getfield 3, .sipush 4, .if_icmp .lt 18, .aload 0, .goto_w (-2), .sipush 6, .invokeinterface 37 4, .freturn]),
  (18, [.aload 0, .aload 1, .invokeinterface 43 4, .ifCond .ne 28, .sipush 0, .freturn]),
  (28, [.aload 0, .goto_w (-2), .getfield 7, .lstore 2, .aload 0, .goto_w (-2), .sipush 6, .invokeinterface 53 4, .ifCond .eq 56, .aload 0, .aload 1, .invokeinterface 52 4, .goto 57]),
  (56, [.sipush (-1), .jsr 57]),
  (57, [.istore 4, .iload 4, .sipush (-1), .if_icmp .ne 67, .sipush 0, .freturn]),
  (67, [.aload 1, .lload 2, .iload 4, .invokeinterface 56 7, .aload 0, .goto_w (-2), .invokeinterface 40 2, .freturn])]
abbrev m_Hall_addSlate : Nat := 56
def o_Hall_addSlate : Ops := [(0, [.aload 0, .goto_w 1, .sipush 7, .aload 0, .getfield 3, .iadd, .lload 1, .lastore, .aload 0, .goto_w 5, .aload 0, .getfield 3, .iload 3, .iastore, .aload 0, .dup, .getfield 3, .sipush 1, .iadd, .putfield 3, .return_])]
abbrev m_HallReader_readCaller : Nat := 57
def o_HallReader_readCaller : Ops := [(0, [.aload 1, .getfield 4, .sipush 5, .if_icmp .lt 18, .aload 0, .goto_w (-2), .sipush 6, .invokeinterface 37 4, .freturn]),
  (18, [.aload 0, .aload 1, .invokeinterface 43 4, .ifCond .ne 28, .sipush 0, .freturn]),
  (28, [.aload 0, .goto_w (-2), .getfield 7, .lstore 2, .aload 0, .goto_w (-2), .sipush 6, .invokeinterface 53 4, .ifCond .eq 56, .aload 0, .aload 1, .invokeinterface 52 4, .goto 57]),
  (56, [.sipush (-1), .jsr 57]),
  (57, [.istore 4, .iload 4, .sipush (-1), .if_icmp .ne 67, .sipush 0, .freturn]),
  (67, [.aload 1, .lload 2, .iload 4, .invokeinterface 58 7, .aload 0, .goto_w (-2), .invokeinterface 40 2, .freturn])]
abbrev m_Hall_addCaller : Nat := 58
def o_Hall_addCaller : Ops := [(0, [.aload 0, .goto_w 1, .sipush 11, .aload 0, .getfield 4, .iadd, .lload 1, .lastore, .aload 0, .goto_w 6, .aload 0, .getfield 4, .iload 3, .iastore, .aload 0, .goto_w 7, .aload 0, .getfield 4, .sipush 0, .iastore, .aload 0, .dup, .getfield 4, .sipush 1, .iadd, .putfield 4, .return_])]
abbrev m_HallReader_readCry : Nat := 59
def o_HallReader_readCry : Ops := [(0, [.aload 0, .aload 1, .invokeinterface 60 4, .istore 2, .iload 2, .sipush (-1), .if_icmp .ne 13, .sipush 0, .freturn]),
  (13, [.aload 1, .goto_w 7, .iload 2, .iaload, .sipush 3, .if_icmp .lt 33, .aload 0, .goto_w (-2), .sipush 6, .invokeinterface 37 4, .freturn]),
  (33, [.aload 0, .goto_w (-2), .sipush 1, .sipush 99, .invokeinterface 38 6, .ifCond .ne 48, .sipush 0, .freturn]),
  (48, [.aload 0, .goto_w (-2), .getfield 6, .istore 3, .aload 0, .invokeinterface 61 2, .istore 4, .iload 4, .ifCond .le 74, .aload 0, .invokeinterface 61 2, .goto 75]),
  (74, [.sipush 0, .jsr 75]),
  (75, [.istore 5, .iload 4, .sipush (-1), .if_icmp .eq 89, .iload 5, .sipush (-1), .if_icmp .ne 91, .jsr 89]),
  (89, [.sipush 0, .freturn]),
  (91, [.aload 1, .iload 2, .iload 3, .iload 4, .iload 5, .invokeinterface 62 10, .pop, .iload 5, .ifCond .le 117, .aload 0, .goto_w (-2), .invokeinterface 40 2, .goto 124]),
  (117, [.aload 0, .goto_w (-2), .invokeinterface 41 2, .jsr 124]),
  (124, [.freturn])]
abbrev m_HallReader_callerNext : Nat := 60
def o_HallReader_callerNext : Ops := [(0, [.aload 0, .goto_w (-2), .invokeinterface 44 2, .ifCond .ne 12, .sipush (-1), .ireturn]),
  (12, [.aload 1, .aload 0, .goto_w (-2), .getfield 7, .invokeinterface 49 4, .istore 2, .iload 2, .sipush (-1), .if_icmp .ne 38, .aload 0, .goto_w (-2), .sipush 3, .invokeinterface 37 4, .pop, .jsr 38]),
  (38, [.iload 2, .ireturn])]
abbrev m_HallReader_perhapsNumberNext : Nat := 61
def o_HallReader_perhapsNumberNext : Ops := [(0, [.aload 0, .goto_w (-2), .invokeinterface 25 3, .aload 0, .goto_w (-2), .getfield 4, .sipush 2, .if_icmp .eq 20, .sipush 0, .ireturn]),
  (20, [.aload 0, .goto_w (-2), .sipush 1, .sipush 99, .invokeinterface 39 6, .ifCond .eq 43, .aload 0, .goto_w (-2), .getfield 6, .goto 44]),
  (43, [.sipush (-1), .jsr 44]),
  (44, [.ireturn])]
abbrev m_Hall_addCry : Nat := 62
def o_Hall_addCry : Ops := [(0, [.aload 0, .goto_w 7, .iload 1, .iaload, .istore 5, .iload 1, .sipush 3, .imul, .iload 5, .iadd, .sipush 3, .imul, .istore 6, .aload 0, .goto_w 8, .iload 6, .iload 2, .iastore, .aload 0, .goto_w 8, .iload 6, .sipush 1, .iadd, .iload 3, .iastore, .aload 0, .goto_w 8, .iload 6, .sipush 2, .iadd, .iload 4, .iastore, .aload 0, .goto_w 7, .iload 1, .iload 5, .sipush 1, .iadd, .iastore, .iload 5, .ireturn])]
abbrev m_HallReader_readCall : Nat := 63
def o_HallReader_readCall : Ops := [(0, [.aload 1, .getfield 5, .sipush 8, .if_icmp .lt 19, .aload 0, .goto_w (-2), .sipush 6, .invokeinterface 37 4, .freturn]),
  (19, [.aload 0, .aload 1, .invokeinterface 60 4, .istore 2, .iload 2, .sipush (-1), .if_icmp .eq 49, .aload 0, .goto_w (-2), .sipush 0, .aload 1, .goto_w 7, .iload 2, .iaload, .sipush 1, .isub, .invokeinterface 38 6, .ifCond .ne 51, .jsr 49]),
  (49, [.sipush 0, .freturn]),
  (51, [.aload 0, .goto_w (-2), .getfield 6, .istore 3, .aload 0, .goto_w (-2), .sipush 6, .invokeinterface 53 4, .ifCond .eq 84, .aload 0, .goto_w (-2), .sipush 0, .sipush 20, .invokeinterface 38 6, .ifCond .ne 86, .jsr 84]),
  (84, [.sipush 0, .freturn]),
  (86, [.aload 1, .iload 2, .iload 3, .aload 0, .goto_w (-2), .getfield 6, .invokeinterface 64 8, .ifCond .eq 111, .aload 0, .goto_w (-2), .sipush 5, .invokeinterface 37 4, .freturn]),
  (111, [.aload 0, .goto_w (-2), .invokeinterface 40 2, .freturn])]
abbrev m_Hall_addCall : Nat := 64
def o_Hall_addCall : Ops := [(0, [.aload 0, .iload 1, .iload 2, .invokeinterface 65 6, .ifCond .ne 11, .sipush 1, .ireturn]),
  (11, [.aload 0, .getfield 5, .sipush 8, .if_icmp .lt 22, .sipush 4, .ireturn]),
  (22, [.iload 1, .iload 2, .iload 3, .invokeinterface 66 6, .istore 4, .aload 0, .iload 4, .invokeinterface 67 4, .ifCond .eq 42, .sipush 7, .ireturn]),
  (42, [.aload 0, .goto_w 9, .aload 0, .getfield 5, .iload 4, .iastore, .aload 0, .dup, .getfield 5, .sipush 1, .iadd, .putfield 5, .sipush 0, .ireturn])]
abbrev m_Hall_hasCry : Nat := 65
def o_Hall_hasCry : Ops := [(0, [.iload 1, .ifCond .lt 30, .iload 1, .aload 0, .getfield 4, .if_icmp .ge 30, .iload 2, .ifCond .lt 30, .iload 2, .aload 0, .goto_w 7, .iload 1, .iaload, .if_icmp .ge 30, .sipush 1, .goto 31]),
  (30, [.sipush 0, .jsr 31]),
  (31, [.freturn])]
abbrev m_Hall_callNumber : Nat := 66
def o_Hall_callNumber : Ops := [(0, [.iload 0, .sipush 3, .imul, .iload 1, .iadd, .sipush 21, .imul, .iload 2, .iadd, .ireturn])]
abbrev m_Hall_isSpoken : Nat := 67
def o_Hall_isSpoken : Ops := [(0, [.sipush 0, .istore 2, .jsr 2]),
  (2, [.iload 2, .aload 0, .getfield 5, .if_icmp .ge 28, .aload 0, .goto_w 9, .iload 2, .iaload, .iload 1, .if_icmp .ne 22, .sipush 1, .freturn]),
  (22, [.iinc 2 1, .goto 2]),
  (28, [.sipush 0, .freturn])]
abbrev m_Hall_takeFrom : Nat := 68
def o_Hall_takeFrom : Ops := [(0, [.aload 0, .aload 1, .getfield 0, .putfield 0, .aload 0, .aload 1, .getfield 1, .putfield 1, .aload 0, .aload 1, .getfield 2, .putfield 2, .aload 0, .aload 1, .getfield 3, .putfield 3, .aload 0, .aload 1, .getfield 4, .putfield 4, .aload 0, .aload 1, .getfield 5, .putfield 5, .aload 0, .aload 1, .getfield 6, .putstatic 6, .aload 1, .goto_w 1, .sipush 0, .aload 0, .goto_w 1, .sipush 0, .aload 0, .goto_w 1, .arraylength, .aastore, .aload 1, .goto_w 2, .sipush 0, .aload 0, .goto_w 2, .sipush 0, .aload 0, .goto_w 2, .arraylength, .aastore, .aload 1, .goto_w 3, .sipush 0, .aload 0, .goto_w 3, .sipush 0, .aload 0, .goto_w 3, .arraylength, .aastore, .aload 1, .goto_w 4, .sipush 0, .aload 0, .goto_w 4, .sipush 0, .aload 0, .goto_w 4, .arraylength, .aastore, .aload 1, .goto_w 5, .sipush 0, .aload 0, .goto_w 5, .sipush 0, .aload 0, .goto_w 5, .arraylength, .aastore, .aload 1, .goto_w 6, .sipush 0, .aload 0, .goto_w 6, .sipush 0, .aload 0, .goto_w 6, .arraylength, .aastore, .aload 1, .goto_w 7, .sipush 0, .aload 0, .goto_w 7, .sipush 0, .aload 0, .goto_w 7, .arraylength, .aastore, .aload 1, .goto_w 8, .sipush 0, .aload 0, .goto_w 8, .sipush 0, .aload 0, .goto_w 8, .arraylength, .aastore, .aload 1, .goto_w 9, .sipush 0, .aload 0, .goto_w 9, .sipush 0, .aload 0, .goto_w 9, .arraylength, .aastore, .aload 1, .goto_w 10, .sipush 0, .aload 0, .goto_w 10, .sipush 0, .aload 0, .goto_w 10, .arraylength, .aastore, .aload 1, .goto_w 11, .sipush 0, .aload 0, .goto_w 11, .sipush 0, .aload 0, .goto_w 11, .arraylength, .aastore, .aload 0, .goto_w 12, .aload 1, .goto_w 12, .invokeinterface 69 5, .return_])]
abbrev m_Steps_takeFrom : Nat := 69
def o_Steps_takeFrom : Ops := [(0, [.aload 0, .aload 1, .getfield 0, .putstatic 0, .aload 0, .aload 1, .getfield 1, .putfield 1, .aload 0, .aload 1, .getfield 2, .putfield 2, .aload 1, .goto_w 1, .sipush 0, .aload 0, .goto_w 1, .sipush 0, .aload 0, .goto_w 1, .arraylength, .aastore, .aload 1, .goto_w 2, .sipush 0, .aload 0, .goto_w 2, .sipush 0, .aload 0, .goto_w 2, .arraylength, .aastore, .aload 1, .goto_w 3, .sipush 0, .aload 0, .goto_w 3, .sipush 0, .aload 0, .goto_w 3, .arraylength, .aastore, .aload 1, .goto_w 4, .sipush 0, .aload 0, .goto_w 4, .sipush 0, .aload 0, .goto_w 4, .arraylength, .aastore, .aload 1, .goto_w 5, .sipush 0, .aload 0, .goto_w 5, .sipush 0, .aload 0, .goto_w 5, .arraylength, .aastore, .aload 1, .goto_w 6, .sipush 0, .aload 0, .goto_w 6, .sipush 0, .aload 0, .goto_w 6, .arraylength, .aastore, .aload 1, .goto_w 7, .sipush 0, .aload 0, .goto_w 7, .sipush 0, .aload 0, .goto_w 7, .arraylength, .aastore, .return_])]
abbrev m_M_pass : Nat := 70
def o_M_pass : Ops := [(0, [.aload 0, .sipush 0, .putfield 0, .iload 1, .ireturn])]
abbrev m_M_mornings : Nat := 71
def o_M_mornings : Ops := [(0, [.iload 1, .ifCond .lt 22, .iload 1, .aload 0, .goto_w 7, .getfield 1, .if_icmp .gt 22, .iload 1, .sipush 300, .if_icmp .le 28, .jsr 22]),
  (22, [.aload 0, .sipush 1, .invokeinterface 14 4, .ireturn]),
  (28, [.aload 0, .goto_w 7, .iload 1, .invokeinterface 21 5, .aload 0, .goto_w 10, .aload 0, .goto_w 57, .goto_w 12, .aload 0, .goto_w 37, .invokeinterface 72 6, .istore 2, .iload 2, .ifCond .ne 66, .aload 0, .sipush 9, .invokeinterface 14 4, .ireturn]),
  (66, [.aload 0, .goto_w 37, .goto_w 12, .aload 0, .goto_w 57, .goto_w 12, .invokeinterface 69 5, .aload 0, .aload 0, .goto_w 37, .goto_w 12, .getfield 1, .invokeinterface 70 4, .ireturn])]
abbrev m_MorningsReader_readInto : Nat := 72
def o_MorningsReader_readInto : Ops := [(0, [.aload 1, .invokeinterface 24 3, .aload 0, .sipush 0, .putfield 2, .sipush 0, .istore 3, .jsr 11]),
  (11, [.iload 3, .sipush 300, .if_icmp .gt 143, .aload 0, .goto_w (-3), .invokeinterface 25 3, .aload 0, .goto_w (-3), .getfield 4, .ifCond .ne 64, .aload 1, .sipush 1, .putstatic 0, .aload 0, .getfield 2, .ifCond .eq 58, .aload 0, .goto_w (-3), .sipush 2, .invokeinterface 37 4, .ifCond .eq 62, .jsr 58]),
  (58, [.sipush 1, .goto 63]),
  (62, [.sipush 0, .jsr 63]),
  (63, [.freturn]),
  (64, [.aload 0, .goto_w (-3), .invokeinterface 35 2, .sipush 19, .if_icmp .ne 80, .sipush 1, .goto 81]),
  (80, [.sipush 0, .jsr 81]),
  (81, [.istore 4, .iload 4, .ifCond .eq 96, .aload 0, .aload 1, .invokeinterface 73 4, .goto 118]),
  (96, [.aload 0, .aload 1, .invokeinterface 74 4, .ifCond .eq 117, .aload 0, .aload 1, .aload 2, .invokeinterface 76 6, .ifCond .eq 117, .sipush 1, .goto 118]),
  (117, [.sipush 0, .jsr 118]),
  (118, [.istore 5, .iload 5, .ifCond .eq 135, .aload 0, .goto_w (-3), .invokeinterface 40 2, .ifCond .ne 137, .jsr 135]),
  (135, [.sipush 0, .freturn]),
  (137, [.iinc 3 1, .goto 11]),
  (143, [.aload 0, .goto_w (-3), .sipush 2, .invokeinterface 37 4, .freturn])]
abbrev m_MorningsReader_readEnd : Nat := 73
def o_MorningsReader_readEnd : Ops := [(0, [.aload 0, .getfield 2, .ifCond .gt 16, .aload 0, .goto_w (-3), .sipush 2, .invokeinterface 37 4, .freturn]),
  (16, [.aload 0, .dup, .getfield 2, .sipush 1, .isub, .putfield 2, .aload 1, .getfield 2, .istore 2, .aload 1, .goto_w 1, .iload 2, .sipush 19, .iastore, .aload 1, .goto_w 7, .iload 2, .aload 0, .goto_w 1, .aload 0, .getfield 2, .iaload, .iastore, .aload 1, .goto_w 7, .aload 0, .goto_w 1, .aload 0, .getfield 2, .iaload, .iload 2, .iastore, .aload 1, .dup, .getfield 2, .sipush 1, .iadd, .putfield 2, .sipush 1, .freturn])]
abbrev m_MorningsReader_beginStep : Nat := 74
def o_MorningsReader_beginStep : Ops := [(0, [.aload 0, .goto_w (-3), .invokeinterface 35 2, .istore 2, .iload 2, .sipush 15, .if_icmp .eq 20, .iload 2, .sipush 18, .if_icmp .ne 24, .jsr 20]),
  (20, [.sipush 1, .goto 25]),
  (24, [.sipush 0, .jsr 25]),
  (25, [.istore 3, .iload 3, .ifCond .ne 46, .iload 2, .invokeinterface 75 2, .ifCond .ne 46, .aload 0, .goto_w (-3), .sipush 2, .invokeinterface 37 4, .freturn]),
  (46, [.aload 1, .getfield 1, .sipush 30, .if_icmp .lt 65, .aload 0, .goto_w (-3), .sipush 6, .invokeinterface 37 4, .freturn]),
  (65, [.iload 3, .ifCond .eq 87, .aload 0, .getfield 2, .sipush 3, .if_icmp .lt 87, .aload 0, .goto_w (-3), .sipush 7, .invokeinterface 37 4, .freturn]),
  (87, [.aload 1, .getfield 2, .istore 4, .aload 1, .goto_w 1, .iload 4, .iload 2, .iastore, .aload 1, .dup, .getfield 2, .sipush 1, .iadd, .putfield 2, .aload 1, .dup, .getfield 1, .sipush 1, .iadd, .putfield 1, .iload 3, .ifCond .eq 146, .aload 0, .goto_w 1, .aload 0, .getfield 2, .iload 4, .iastore, .aload 0, .dup, .getfield 2, .sipush 1, .iadd, .putfield 2, .jsr 146]),
  (146, [.sipush 1, .freturn])]
abbrev m_MorningsReader_isPlainStep : Nat := 75
def o_MorningsReader_isPlainStep : Ops := [(0, [.iload 0, .lookupswitch 62 #[(10, 60), (11, 60), (12, 60), (13, 60), (14, 60), (15, 62), (16, 62), (17, 62), (18, 62), (19, 62), (20, 60)]]),
  (60, [.sipush 1, .freturn]),
  (62, [.sipush 0, .freturn])]
abbrev m_MorningsReader_readRest : Nat := 76
def o_MorningsReader_readRest : Ops := [(0, [.aload 1, .getfield 2, .sipush 1, .isub, .istore 3, .aload 0, .goto_w (-3), .invokeinterface 35 2, .lookupswitch 146 #[(10, 64), (11, 146), (12, 102), (13, 146), (14, 146), (15, 128), (16, 146), (17, 146), (18, 136)]]),
  (64, [.aload 0, .aload 1, .iload 3, .aload 2, .invokeinterface 77 8, .ifCond .eq 100, .aload 0, .aload 1, .iload 3, .sipush 2, .invokeinterface 78 8, .ifCond .eq 100, .aload 0, .aload 1, .iload 3, .sipush 0, .sipush 20, .invokeinterface 79 10, .ifCond .eq 100, .sipush 1, .goto 101]),
  (100, [.sipush 0, .jsr 101]),
  (101, [.freturn]),
  (102, [.aload 0, .aload 1, .iload 3, .aload 2, .invokeinterface 77 8, .ifCond .eq 126, .aload 0, .aload 1, .iload 3, .aload 2, .invokeinterface 80 8, .ifCond .eq 126, .sipush 1, .goto 127]),
  (126, [.sipush 0, .jsr 127]),
  (127, [.freturn]),
  (128, [.aload 0, .aload 1, .iload 3, .aload 2, .invokeinterface 81 8, .freturn]),
  (136, [.aload 0, .aload 1, .iload 3, .sipush 1, .sipush 99, .invokeinterface 79 10, .freturn]),
  (146, [.sipush 1, .freturn])]
abbrev m_MorningsReader_readCaller : Nat := 77
def o_MorningsReader_readCaller : Ops := [(0, [.aload 0, .goto_w (-3), .invokeinterface 44 2, .ifCond .ne 12, .sipush 0, .freturn]),
  (12, [.aload 1, .goto_w 3, .iload 2, .aload 3, .aload 0, .goto_w (-3), .getfield 7, .invokeinterface 49 4, .iastore, .aload 1, .goto_w 3, .iload 2, .iaload, .sipush (-1), .if_icmp .ne 50, .aload 0, .goto_w (-3), .sipush 3, .invokeinterface 37 4, .ifCond .eq 54, .jsr 50]),
  (50, [.sipush 1, .goto 55]),
  (54, [.sipush 0, .jsr 55]),
  (55, [.freturn])]
abbrev m_MorningsReader_readWhere : Nat := 78
def o_MorningsReader_readWhere : Ops := [(0, [.aload 0, .goto_w (-3), .sipush 0, .iload 3, .invokeinterface 38 6, .ifCond .ne 14, .sipush 0, .freturn]),
  (14, [.aload 1, .goto_w 4, .iload 2, .aload 0, .goto_w (-3), .getfield 6, .iastore, .sipush 1, .freturn])]
abbrev m_MorningsReader_readNumber : Nat := 79
def o_MorningsReader_readNumber : Ops := [(0, [.aload 0, .goto_w (-3), .iload 3, .iload 4, .invokeinterface 38 6, .ifCond .ne 15, .sipush 0, .freturn]),
  (15, [.aload 1, .goto_w 6, .iload 2, .aload 0, .goto_w (-3), .getfield 6, .iastore, .sipush 1, .freturn])]
abbrev m_MorningsReader_readPlace : Nat := 80
def o_MorningsReader_readPlace : Ops := [(0, [.aload 0, .goto_w (-3), .invokeinterface 44 2, .ifCond .ne 12, .sipush 0, .freturn]),
  (12, [.aload 1, .goto_w 4, .iload 2, .aload 3, .aload 0, .goto_w (-3), .getfield 7, .invokeinterface 46 4, .iastore, .aload 1, .goto_w 4, .iload 2, .iaload, .sipush (-1), .if_icmp .ne 50, .aload 0, .goto_w (-3), .sipush 3, .invokeinterface 37 4, .ifCond .eq 54, .jsr 50]),
  (50, [.sipush 1, .goto 55]),
  (54, [.sipush 0, .jsr 55]),
  (55, [.freturn])]
abbrev m_MorningsReader_readTest : Nat := 81
def o_MorningsReader_readTest : Ops := [(0, [.aload 0, .goto_w (-3), .invokeinterface 25 3, .aload 1, .goto_w 2, .iload 2, .aload 0, .goto_w (-3), .invokeinterface 35 2, .iastore, .aload 1, .goto_w 2, .iload 2, .iaload, .lookupswitch 162 #[(6, 109), (16, 60), (17, 135)]]),
  (60, [.aload 0, .aload 1, .iload 2, .aload 3, .invokeinterface 82 8, .ifCond .eq 107, .aload 0, .aload 1, .iload 2, .sipush 90, .invokeinterface 78 8, .ifCond .eq 107, .aload 0, .aload 1, .iload 2, .invokeinterface 83 6, .ifCond .eq 107, .aload 0, .aload 1, .iload 2, .sipush 0, .sipush 999, .invokeinterface 79 10, .ifCond .eq 107, .sipush 1, .goto 108]),
  (107, [.sipush 0, .jsr 108]),
  (108, [.freturn]),
  (109, [.aload 0, .aload 1, .iload 2, .aload 3, .invokeinterface 77 8, .ifCond .eq 133, .aload 0, .aload 1, .iload 2, .aload 3, .invokeinterface 80 8, .ifCond .eq 133, .sipush 1, .goto 134]),
  (133, [.sipush 0, .jsr 134]),
  (134, [.freturn]),
  (135, [.aload 0, .aload 1, .iload 2, .invokeinterface 83 6, .ifCond .eq 160, .aload 0, .aload 1, .iload 2, .sipush 0, .sipush 8, .invokeinterface 79 10, .ifCond .eq 160, .sipush 1, .goto 161]),
  (160, [.sipush 0, .jsr 161]),
  (161, [.freturn]),
  (162, [.aload 0, .goto_w (-3), .sipush 2, .invokeinterface 37 4, .freturn])]
abbrev m_MorningsReader_readSlate : Nat := 82
def o_MorningsReader_readSlate : Ops := [(0, [.aload 0, .goto_w (-3), .invokeinterface 44 2, .ifCond .ne 12, .sipush 0, .freturn]),
  (12, [.aload 1, .goto_w 3, .iload 2, .aload 3, .aload 0, .goto_w (-3), .getfield 7, .invokeinterface 48 4, .iastore, .aload 1, .goto_w 3, .iload 2, .iaload, .sipush (-1), .if_icmp .ne 50, .aload 0, .goto_w (-3), .sipush 3, .invokeinterface 37 4, .ifCond .eq 54, .jsr 50]),
  (50, [.sipush 1, .goto 55]),
  (54, [.sipush 0, .jsr 55]),
  (55, [.freturn])]
abbrev m_MorningsReader_readSign : Nat := 83
def o_MorningsReader_readSign : Ops := [(0, [.aload 0, .goto_w (-3), .invokeinterface 84 2, .ifCond .ne 12, .sipush 0, .freturn]),
  (12, [.aload 1, .goto_w 5, .iload 2, .aload 0, .goto_w (-3), .getfield 6, .iastore, .sipush 1, .freturn])]
abbrev m_Tokens_compareNext : Nat := 84
def o_Tokens_compareNext : Ops := [(0, [.aload 0, .invokeinterface 25 3, .aload 0, .getfield 4, .sipush 3, .if_icmp .ne 21, .aload 0, .getfield 6, .sipush 59, .if_icmp .ne 29, .jsr 21]),
  (21, [.aload 0, .sipush 2, .invokeinterface 37 4, .ifCond .eq 33, .jsr 29]),
  (29, [.sipush 1, .goto 34]),
  (33, [.sipush 0, .jsr 34]),
  (34, [.freturn])]
abbrev m_M_fault : Nat := 85
def o_M_fault : Ops := [(0, [.iload 1, .ifCond .ne 12, .aload 0, .goto_w 7, .getfield 8, .ireturn]),
  (12, [.iload 1, .sipush 1, .if_icmp .ne 27, .aload 0, .goto_w 7, .getfield 9, .goto 28]),
  (27, [.sipush (-1), .jsr 28]),
  (28, [.ireturn])]
abbrev m_M_told : Nat := 86
def o_M_told : Ops := [(0, [.iload 1, .lookupswitch 152 #[(0, 48), (1, 60), (2, 72), (3, 84), (4, 96), (5, 108), (6, 120), (7, 140)]]),
  (48, [.aload 0, .aload 0, .goto_w 37, .getfield 1, .invokeinterface 70 4, .ireturn]),
  (60, [.aload 0, .aload 0, .goto_w 37, .getfield 2, .invokeinterface 70 4, .ireturn]),
  (72, [.aload 0, .aload 0, .goto_w 37, .getfield 3, .invokeinterface 70 4, .ireturn]),
  (84, [.aload 0, .aload 0, .goto_w 37, .getfield 4, .invokeinterface 70 4, .ireturn]),
  (96, [.aload 0, .aload 0, .goto_w 37, .getfield 5, .invokeinterface 70 4, .ireturn]),
  (108, [.aload 0, .aload 0, .goto_w 37, .getfield 0, .invokeinterface 70 4, .ireturn]),
  (120, [.aload 0, .aload 0, .goto_w 37, .getfield 6, .ifCond .eq 135, .sipush 1, .goto 136]),
  (135, [.sipush 0, .jsr 136]),
  (136, [.invokeinterface 70 4, .ireturn]),
  (140, [.aload 0, .aload 0, .goto_w 37, .invokeinterface 87 2, .invokeinterface 70 4, .ireturn]),
  (152, [.aload 0, .sipush 1, .invokeinterface 14 4, .ireturn])]
abbrev m_Hall_allCries : Nat := 87
def o_Hall_allCries : Ops := [(0, [.sipush 0, .istore 1, .sipush 0, .istore 2, .jsr 4]),
  (4, [.iload 2, .aload 0, .getfield 4, .if_icmp .ge 27, .iload 1, .aload 0, .goto_w 7, .iload 2, .iaload, .iadd, .istore 1, .iinc 2 1, .goto 4]),
  (27, [.iload 1, .ireturn])]
abbrev m_M_way : Nat := 88
def o_M_way : Ops := [(0, [.aload 0, .goto_w 37, .iload 1, .invokeinterface 89 4, .ifCond .ne 17, .aload 0, .sipush 1, .invokeinterface 14 4, .ireturn]),
  (17, [.iload 2, .lookupswitch 110 #[(0, 48), (1, 64), (2, 82), (3, 96)]]),
  (48, [.aload 0, .aload 0, .goto_w 37, .goto_w 2, .sipush 2, .iload 1, .imul, .iaload, .invokeinterface 70 4, .ireturn]),
  (64, [.aload 0, .aload 0, .goto_w 37, .goto_w 2, .sipush 2, .iload 1, .imul, .sipush 1, .iadd, .iaload, .invokeinterface 70 4, .ireturn]),
  (82, [.aload 0, .aload 0, .goto_w 37, .goto_w 3, .iload 1, .iaload, .invokeinterface 70 4, .ireturn]),
  (96, [.aload 0, .aload 0, .goto_w 37, .goto_w 4, .iload 1, .iaload, .invokeinterface 70 4, .ireturn]),
  (110, [.aload 0, .sipush 1, .invokeinterface 14 4, .ireturn])]
abbrev m_Hall_hasWay : Nat := 89
def o_Hall_hasWay : Ops := [(0, [.iload 1, .ifCond .lt 16, .iload 1, .aload 0, .getfield 2, .if_icmp .ge 16, .sipush 1, .goto 17]),
  (16, [.sipush 0, .jsr 17]),
  (17, [.freturn])]
abbrev m_M_slate : Nat := 90
def o_M_slate : Ops := [(0, [.aload 0, .goto_w 37, .iload 1, .invokeinterface 91 4, .ifCond .eq 27, .aload 0, .aload 0, .goto_w 37, .goto_w 5, .iload 1, .iaload, .invokeinterface 70 4, .goto 32]),
  (27, [.aload 0, .sipush 1, .invokeinterface 14 4, .jsr 32]),
  (32, [.ireturn])]
abbrev m_Hall_hasSlate : Nat := 91
def o_Hall_hasSlate : Ops := [(0, [.iload 1, .ifCond .lt 16, .iload 1, .aload 0, .getfield 3, .if_icmp .ge 16, .sipush 1, .goto 17]),
  (16, [.sipush 0, .jsr 17]),
  (17, [.freturn])]
abbrev m_M_caller : Nat := 92
def o_M_caller : Ops := [(0, [.aload 0, .goto_w 37, .iload 1, .invokeinterface 93 4, .ifCond .eq 20, .iload 2, .ifCond .lt 20, .iload 2, .sipush 1, .if_icmp .le 26, .jsr 20]),
  (20, [.aload 0, .sipush 1, .invokeinterface 14 4, .ireturn]),
  (26, [.aload 0, .iload 2, .ifCond .ne 43, .aload 0, .goto_w 37, .goto_w 6, .iload 1, .iaload, .goto 52]),
  (43, [.aload 0, .goto_w 37, .goto_w 7, .iload 1, .iaload, .jsr 52]),
  (52, [.invokeinterface 70 4, .ireturn])]
abbrev m_Hall_hasCaller : Nat := 93
def o_Hall_hasCaller : Ops := [(0, [.iload 1, .ifCond .lt 16, .iload 1, .aload 0, .getfield 4, .if_icmp .ge 16, .sipush 1, .goto 17]),
  (16, [.sipush 0, .jsr 17]),
  (17, [.freturn])]
abbrev m_M_cry : Nat := 94
def o_M_cry : Ops := [(0, [.aload 0, .goto_w 37, .iload 1, .iload 2, .invokeinterface 65 6, .ifCond .eq 16, .iload 3, .ifCond .ge 22, .jsr 16]),
  (16, [.aload 0, .sipush 1, .invokeinterface 14 4, .ireturn]),
  (22, [.iload 3, .sipush 3, .if_icmp .ge 43, .aload 0, .goto_w 37, .iload 1, .sipush 3, .imul, .iload 2, .iadd, .iload 3, .invokeinterface 95 6, .goto 44]),
  (43, [.sipush 0, .jsr 44]),
  (44, [.istore 4, .iload 4, .ifCond .le 60, .aload 0, .iload 4, .invokeinterface 70 4, .goto 66]),
  (60, [.aload 0, .sipush 6, .invokeinterface 14 4, .jsr 66]),
  (66, [.ireturn])]
abbrev m_Hall_numberOf : Nat := 95
def o_Hall_numberOf : Ops := [(0, [.aload 0, .goto_w 8, .iload 1, .sipush 3, .imul, .iload 2, .iadd, .iaload, .ireturn])]
abbrev m_M_call : Nat := 96
def o_M_call : Ops := [(0, [.aload 0, .goto_w 37, .iload 1, .invokeinterface 97 4, .ifCond .ne 17, .aload 0, .sipush 1, .invokeinterface 14 4, .ireturn]),
  (17, [.iload 2, .lookupswitch 85 #[(0, 44), (1, 57), (2, 72)]]),
  (44, [.aload 0, .aload 0, .goto_w 37, .iload 1, .invokeinterface 98 4, .invokeinterface 70 4, .ireturn]),
  (57, [.aload 0, .aload 0, .goto_w 37, .iload 1, .invokeinterface 99 4, .sipush 3, .irem, .invokeinterface 70 4, .ireturn]),
  (72, [.aload 0, .aload 0, .goto_w 37, .iload 1, .invokeinterface 100 4, .invokeinterface 70 4, .ireturn]),
  (85, [.aload 0, .sipush 1, .invokeinterface 14 4, .ireturn])]
abbrev m_Hall_hasCall : Nat := 97
def o_Hall_hasCall : Ops := [(0, [.iload 1, .ifCond .lt 16, .iload 1, .aload 0, .getfield 5, .if_icmp .ge 16, .sipush 1, .goto 17]),
  (16, [.sipush 0, .jsr 17]),
  (17, [.freturn])]
abbrev m_Hall_callerOf : Nat := 98
def o_Hall_callerOf : Ops := [(0, [.aload 0, .iload 1, .invokeinterface 99 4, .sipush 3, .idiv, .ireturn])]
abbrev m_Hall_kindOf : Nat := 99
def o_Hall_kindOf : Ops := [(0, [.aload 0, .goto_w 9, .iload 1, .iaload, .sipush 21, .idiv, .ireturn])]
abbrev m_Hall_startOf : Nat := 100
def o_Hall_startOf : Ops := [(0, [.aload 0, .goto_w 9, .iload 1, .iaload, .sipush 21, .irem, .ireturn])]
abbrev m_M_say : Nat := 101
def o_M_say : Ops := [(0, [.iload 3, .ifCond .lt 10, .iload 3, .sipush 20, .if_icmp .le 16, .jsr 10]),
  (10, [.aload 0, .sipush 1, .invokeinterface 14 4, .ireturn]),
  (16, [.aload 0, .goto_w 37, .iload 1, .iload 2, .iload 3, .invokeinterface 64 8, .istore 4, .iload 4, .ifCond .ne 47, .aload 0, .aload 0, .goto_w 37, .getfield 5, .invokeinterface 70 4, .goto 53]),
  (47, [.aload 0, .iload 4, .invokeinterface 14 4, .jsr 53]),
  (53, [.ireturn])]
abbrev m_M_hush : Nat := 102
def o_M_hush : Ops := [(0, [.aload 0, .goto_w 37, .iload 1, .invokeinterface 97 4, .ifCond .ne 17, .aload 0, .sipush 1, .invokeinterface 14 4, .ireturn]),
  (17, [.aload 0, .goto_w 37, .iload 1, .invokeinterface 103 5, .aload 0, .aload 0, .goto_w 37, .getfield 5, .invokeinterface 70 4, .ireturn])]
abbrev m_Hall_strike : Nat := 103
def o_Hall_strike : Ops := [(0, [.iload 1, .istore 2, .jsr 2]),
  (2, [.iload 2, .sipush 1, .iadd, .aload 0, .getfield 5, .if_icmp .ge 32, .aload 0, .goto_w 9, .iload 2, .aload 0, .goto_w 9, .iload 2, .sipush 1, .iadd, .iaload, .iastore, .iinc 2 1, .goto 2]),
  (32, [.aload 0, .dup, .getfield 5, .sipush 1, .isub, .putfield 5, .return_])]
abbrev m_M_walk : Nat := 104
def o_M_walk : Ops := [(0, [.aload 0, .goto_w 37, .iload 1, .invokeinterface 93 4, .ifCond .eq 22, .aload 0, .goto_w 37, .iload 2, .invokeinterface 105 4, .ifCond .ne 28, .jsr 22]),
  (22, [.aload 0, .sipush 1, .invokeinterface 14 4, .ireturn]),
  (28, [.aload 0, .goto_w 37, .goto_w 6, .iload 1, .iaload, .istore 3, .iload 3, .iload 2, .if_icmp .ne 50, .aload 0, .sipush 7, .invokeinterface 14 4, .ireturn]),
  (50, [.aload 0, .goto_w 37, .goto_w 6, .iload 1, .iload 2, .iastore, .aload 0, .iload 3, .invokeinterface 70 4, .ireturn])]
abbrev m_Hall_hasPlace : Nat := 105
def o_Hall_hasPlace : Ops := [(0, [.iload 1, .ifCond .lt 16, .iload 1, .aload 0, .getfield 1, .if_icmp .ge 16, .sipush 1, .goto 17]),
  (16, [.sipush 0, .jsr 17]),
  (17, [.freturn])]
abbrev m_M_hang : Nat := 106
def o_M_hang : Ops := [(0, [.aload 0, .goto_w 37, .iload 1, .invokeinterface 91 4, .ifCond .eq 22, .aload 0, .goto_w 37, .iload 2, .invokeinterface 105 4, .ifCond .ne 28, .jsr 22]),
  (22, [.aload 0, .sipush 1, .invokeinterface 14 4, .ireturn]),
  (28, [.aload 0, .goto_w 37, .goto_w 5, .iload 1, .iaload, .istore 3, .iload 3, .iload 2, .if_icmp .ne 50, .aload 0, .sipush 7, .invokeinterface 14 4, .ireturn]),
  (50, [.aload 0, .goto_w 37, .goto_w 5, .iload 1, .iload 2, .iastore, .aload 0, .iload 3, .invokeinterface 70 4, .ireturn])]
abbrev m_M_pave : Nat := 107
def o_M_pave : Ops := [(0, [.iload 2, .sipush 1, .if_icmp .lt 15, .iload 2, .sipush 9, .if_icmp .gt 15, .sipush 1, .goto 16]),
  (15, [.sipush 0, .jsr 16]),
  (16, [.istore 4, .iload 3, .ifCond .lt 32, .iload 3, .sipush 9, .if_icmp .gt 32, .sipush 1, .goto 33]),
  (32, [.sipush 0, .jsr 33]),
  (33, [.istore 5, .aload 0, .goto_w 37, .iload 1, .invokeinterface 89 4, .ifCond .eq 56, .iload 4, .ifCond .eq 56, .iload 5, .ifCond .ne 62, .jsr 56]),
  (56, [.aload 0, .sipush 1, .invokeinterface 5 4, .freturn]),
  (62, [.aload 0, .goto_w 37, .goto_w 3, .iload 1, .iload 2, .iastore, .aload 0, .goto_w 37, .goto_w 4, .iload 1, .iload 3, .iastore, .aload 0, .goto_w 37, .sipush (-1), .aload 0, .goto_w 37, .goto_w 11, .invokeinterface 30 7, .aload 0, .invokeinterface 7 2, .freturn])]
abbrev m_M_teach : Nat := 108
def o_M_teach : Ops := [(0, [.iload 3, .ifCond .ne 13, .iload 4, .ifCond .eq 13, .sipush 1, .goto 14]),
  (13, [.sipush 0, .jsr 14]),
  (14, [.istore 5, .aload 0, .goto_w 37, .iload 1, .invokeinterface 93 4, .ifCond .eq 57, .iload 2, .sipush 1, .invokeinterface 109 4, .ifCond .eq 57, .iload 3, .sipush 0, .invokeinterface 109 4, .ifCond .eq 57, .iload 4, .sipush 0, .invokeinterface 109 4, .ifCond .eq 57, .iload 5, .ifCond .eq 63, .jsr 57]),
  (57, [.aload 0, .sipush 1, .invokeinterface 14 4, .ireturn]),
  (63, [.aload 0, .goto_w 37, .goto_w 7, .iload 1, .iaload, .sipush 3, .if_icmp .lt 82, .aload 0, .sipush 4, .invokeinterface 14 4, .ireturn]),
  (82, [.aload 0, .aload 0, .goto_w 37, .iload 1, .iload 2, .iload 3, .iload 4, .invokeinterface 62 10, .invokeinterface 70 4, .ireturn])]
abbrev m_M_isNumber : Nat := 109
def o_M_isNumber : Ops := [(0, [.iload 0, .iload 1, .if_icmp .lt 15, .iload 0, .sipush 99, .if_icmp .gt 15, .sipush 1, .goto 16]),
  (15, [.sipush 0, .jsr 16]),
  (16, [.freturn])]
abbrev m_M_rule : Nat := 110
def o_M_rule : Ops := [(0, [.iload 1, .ifCond .lt 10, .iload 1, .sipush 16, .if_icmp .le 16, .jsr 10]),
  (10, [.aload 0, .sipush 1, .invokeinterface 5 4, .freturn]),
  (16, [.aload 0, .goto_w 37, .iload 1, .putfield 0, .aload 0, .invokeinterface 7 2, .freturn])]
abbrev m_M_record : Nat := 111
def o_M_record : Ops := [(0, [.aload 0, .goto_w 37, .invokeinterface 112 3, .aload 0, .aload 0, .goto_w 37, .invokeinterface 120 2, .invokeinterface 70 4, .ireturn])]
abbrev m_Hall_keepSums : Nat := 112
def o_Hall_keepSums : Ops := [(0, [.aload 0, .aload 0, .goto_w 10, .invokeinterface 113 5, .aload 0, .sipush 1, .putstatic 6, .return_])]
abbrev m_Hall_writeSums : Nat := 113
def o_Hall_writeSums : Ops := [(0, [.aload 1, .sipush 0, .invokeinterface 31 5, .sipush 0, .istore 2, .jsr 7]),
  (7, [.iload 2, .aload 0, .getfield 5, .if_icmp .ge 114, .sipush 0, .istore 3, .jsr 17]),
  (17, [.iload 3, .aload 0, .getfield 3, .if_icmp .ge 108, .aload 0, .aload 0, .iload 2, .invokeinterface 98 4, .iload 3, .invokeinterface 114 6, .istore 4, .aload 0, .iload 2, .invokeinterface 100 4, .iload 4, .invokeinterface 116 2, .iadd, .istore 5, .sipush 0, .istore 6, .jsr 53]),
  (53, [.iload 6, .sipush 3, .if_icmp .ge 102, .iload 4, .sipush 10000000, .if_icmp .ge 102, .aload 1, .iload 3, .iload 5, .iload 6, .iadd, .invokeinterface 117 4, .dup2, .iaload, .aload 0, .aload 0, .iload 2, .invokeinterface 99 4, .iload 6, .iload 4, .invokeinterface 118 2, .invokeinterface 119 8, .iadd, .iastore, .iinc 6 1, .goto 53]),
  (102, [.iinc 3 1, .goto 17]),
  (108, [.iinc 2 1, .goto 7]),
  (114, [.return_])]
abbrev m_Hall_distanceToSlate : Nat := 114
def o_Hall_distanceToSlate : Ops := [(0, [.aload 0, .aload 0, .goto_w 6, .iload 1, .iaload, .aload 0, .goto_w 5, .iload 2, .iaload, .invokeinterface 115 6, .ireturn])]
abbrev m_Hall_distance : Nat := 115
def o_Hall_distance : Ops := [(0, [.aload 0, .goto_w 11, .iload 1, .sipush 7, .imul, .iload 2, .iadd, .iaload, .ireturn])]
abbrev m_Hall_beatsOf : Nat := 116
def o_Hall_beatsOf : Ops := [(0, [.iload 0, .sipush 1000, .idiv, .ireturn])]
abbrev m_Hall_cellOf : Nat := 117
def o_Hall_cellOf : Ops := [(0, [.iload 1, .sipush 4, .imul, .iload 0, .iadd, .ireturn])]
abbrev m_Hall_lossOf : Nat := 118
def o_Hall_lossOf : Ops := [(0, [.iload 0, .sipush 1000, .irem, .ireturn])]
abbrev m_Hall_amount : Nat := 119
def o_Hall_amount : Ops := [(0, [.sipush 0, .aload 0, .iload 1, .iload 2, .invokeinterface 95 6, .iload 3, .isub, .fadd, .ireturn])]
abbrev m_Hall_total : Nat := 120
def o_Hall_total : Ops := [(0, [.sipush 0, .istore 1, .sipush 0, .istore 2, .jsr 4]),
  (4, [.iload 2, .aload 0, .getfield 3, .if_icmp .ge 26, .iload 1, .aload 0, .iload 2, .invokeinterface 121 4, .iadd, .istore 1, .iinc 2 1, .goto 4]),
  (26, [.iload 1, .ireturn])]
abbrev m_Hall_totalOn : Nat := 121
def o_Hall_totalOn : Ops := [(0, [.sipush 0, .istore 2, .sipush 0, .istore 3, .jsr 4]),
  (4, [.iload 3, .aload 0, .getfield 5, .if_icmp .ge 27, .iload 2, .aload 0, .iload 3, .iload 1, .invokeinterface 122 6, .iadd, .istore 2, .iinc 3 1, .goto 4]),
  (27, [.iload 2, .ireturn])]
abbrev m_Hall_allOfCall : Nat := 122
def o_Hall_allOfCall : Ops := [(0, [.aload 0, .aload 0, .iload 1, .invokeinterface 98 4, .iload 2, .invokeinterface 114 6, .istore 3, .iload 3, .sipush 10000000, .if_icmp .lt 19, .sipush 0, .ireturn]),
  (19, [.sipush 0, .istore 4, .sipush 0, .istore 5, .jsr 25]),
  (25, [.iload 5, .sipush 3, .if_icmp .ge 57, .iload 4, .aload 0, .aload 0, .iload 1, .invokeinterface 99 4, .iload 5, .iload 3, .invokeinterface 118 2, .invokeinterface 119 8, .iadd, .istore 4, .iinc 5 1, .goto 25]),
  (57, [.iload 4, .ireturn])]
abbrev m_M_scrawl : Nat := 123
def o_M_scrawl : Ops := [(0, [.aload 0, .goto_w 37, .iload 1, .invokeinterface 91 4, .ifCond .eq 29, .iload 2, .invokeinterface 124 2, .ifCond .eq 29, .iload 3, .ifCond .lt 29, .iload 3, .sipush 999, .if_icmp .le 35, .jsr 29]),
  (29, [.aload 0, .sipush 1, .invokeinterface 14 4, .ireturn]),
  (35, [.aload 0, .goto_w 37, .getfield 6, .ifCond .ne 52, .aload 0, .sipush 6, .invokeinterface 14 4, .ireturn]),
  (52, [.iload 1, .iload 2, .invokeinterface 117 4, .istore 4, .aload 0, .goto_w 37, .goto_w 10, .iload 4, .iaload, .istore 5, .aload 0, .goto_w 37, .goto_w 10, .iload 4, .iload 3, .iastore, .aload 0, .iload 5, .invokeinterface 70 4, .ireturn])]
abbrev m_M_isBeat : Nat := 124
def o_M_isBeat : Ops := [(0, [.iload 0, .ifCond .lt 14, .iload 0, .sipush 90, .if_icmp .gt 14, .sipush 1, .goto 15]),
  (14, [.sipush 0, .jsr 15]),
  (15, [.freturn])]
abbrev m_M_far : Nat := 125
def o_M_far : Ops := [(0, [.aload 0, .goto_w 37, .iload 1, .invokeinterface 105 4, .ifCond .eq 22, .aload 0, .goto_w 37, .iload 2, .invokeinterface 105 4, .ifCond .ne 28, .jsr 22]),
  (22, [.aload 0, .sipush 1, .invokeinterface 14 4, .ireturn]),
  (28, [.aload 0, .goto_w 37, .iload 1, .iload 2, .invokeinterface 115 6, .istore 3, .iload 3, .sipush 10000000, .if_icmp .ge 56, .aload 0, .iload 3, .invokeinterface 116 2, .invokeinterface 70 4, .goto 62]),
  (56, [.aload 0, .sipush 6, .invokeinterface 14 4, .jsr 62]),
  (62, [.ireturn])]
abbrev m_M_lost : Nat := 126
def o_M_lost : Ops := [(0, [.aload 0, .goto_w 37, .iload 1, .invokeinterface 105 4, .ifCond .eq 22, .aload 0, .goto_w 37, .iload 2, .invokeinterface 105 4, .ifCond .ne 28, .jsr 22]),
  (22, [.aload 0, .sipush 1, .invokeinterface 14 4, .ireturn]),
  (28, [.aload 0, .goto_w 37, .iload 1, .iload 2, .invokeinterface 115 6, .istore 3, .iload 3, .sipush 10000000, .if_icmp .ge 56, .aload 0, .iload 3, .invokeinterface 118 2, .invokeinterface 70 4, .goto 62]),
  (56, [.aload 0, .sipush 6, .invokeinterface 14 4, .jsr 62]),
  (62, [.ireturn])]
abbrev m_M_heard : Nat := 127
def o_M_heard : Ops := [(0, [.aload 0, .goto_w 37, .iload 1, .invokeinterface 91 4, .ifCond .eq 18, .iload 2, .invokeinterface 124 2, .ifCond .ne 24, .jsr 18]),
  (18, [.aload 0, .sipush 1, .invokeinterface 14 4, .ireturn]),
  (24, [.aload 0, .aload 0, .goto_w 37, .iload 1, .iload 2, .invokeinterface 128 6, .invokeinterface 70 4, .ireturn])]
abbrev m_Hall_sumAt : Nat := 128
def o_Hall_sumAt : Ops := [(0, [.sipush 0, .istore 3, .sipush 0, .istore 4, .jsr 5]),
  (5, [.iload 4, .aload 0, .getfield 5, .if_icmp .ge 31, .iload 3, .aload 0, .iload 4, .iload 1, .iload 2, .invokeinterface 129 8, .iadd, .istore 3, .iinc 4 1, .goto 5]),
  (31, [.iload 3, .ireturn])]
abbrev m_Hall_amountAt : Nat := 129
def o_Hall_amountAt : Ops := [(0, [.aload 0, .aload 0, .iload 1, .invokeinterface 98 4, .iload 2, .invokeinterface 114 6, .istore 4, .iload 3, .aload 0, .iload 1, .invokeinterface 100 4, .isub, .iload 4, .invokeinterface 116 2, .isub, .istore 5, .iload 4, .sipush 10000000, .if_icmp .ge 45, .iload 5, .ifCond .lt 45, .iload 5, .sipush 3, .if_icmp .lt 47, .jsr 45]),
  (45, [.sipush 0, .ireturn]),
  (47, [.aload 0, .aload 0, .iload 1, .invokeinterface 99 4, .iload 5, .iload 4, .invokeinterface 118 2, .invokeinterface 119 8, .ireturn])]
abbrev m_M_from : Nat := 130
def o_M_from : Ops := [(0, [.aload 0, .goto_w 37, .iload 1, .invokeinterface 91 4, .ifCond .eq 18, .iload 2, .invokeinterface 124 2, .ifCond .ne 24, .jsr 18]),
  (18, [.aload 0, .sipush 1, .invokeinterface 14 4, .ireturn]),
  (24, [.sipush 0, .istore 3, .sipush 0, .istore 4, .jsr 29]),
  (29, [.iload 4, .aload 0, .goto_w 37, .getfield 5, .if_icmp .ge 68, .aload 0, .goto_w 37, .iload 4, .iload 1, .iload 2, .invokeinterface 129 8, .ifCond .le 62, .iload 3, .sipush 1, .iload 4, .ishl, .ior, .istore 3, .jsr 62]),
  (62, [.iinc 4 1, .goto 29]),
  (68, [.aload 0, .iload 3, .invokeinterface 70 4, .ireturn])]
abbrev m_M_first : Nat := 131
def o_M_first : Ops := [(0, [.aload 0, .goto_w 37, .iload 1, .invokeinterface 91 4, .ifCond .ne 17, .aload 0, .sipush 1, .invokeinterface 14 4, .ireturn]),
  (17, [.aload 0, .goto_w 37, .aload 0, .goto_w 2, .invokeinterface 113 5, .sipush 0, .istore 2, .jsr 30]),
  (30, [.iload 2, .sipush 90, .if_icmp .gt 61, .aload 0, .goto_w 2, .iload 1, .iload 2, .invokeinterface 117 4, .iaload, .ifCond .le 55, .aload 0, .iload 2, .invokeinterface 70 4, .ireturn]),
  (55, [.iinc 2 1, .goto 30]),
  (61, [.aload 0, .sipush 6, .invokeinterface 14 4, .ireturn])]
abbrev m_M_last : Nat := 132
def o_M_last : Ops := [(0, [.aload 0, .goto_w 37, .iload 1, .invokeinterface 91 4, .ifCond .ne 17, .aload 0, .sipush 1, .invokeinterface 14 4, .ireturn]),
  (17, [.aload 0, .goto_w 37, .aload 0, .goto_w 2, .invokeinterface 113 5, .sipush 90, .istore 2, .jsr 31]),
  (31, [.iload 2, .ifCond .lt 60, .aload 0, .goto_w 2, .iload 1, .iload 2, .invokeinterface 117 4, .iaload, .ifCond .le 54, .aload 0, .iload 2, .invokeinterface 70 4, .ireturn]),
  (54, [.iinc 2 (-1), .goto 31]),
  (60, [.aload 0, .sipush 6, .invokeinterface 14 4, .ireturn])]
abbrev m_M_loudest : Nat := 133
def o_M_loudest : Ops := [(0, [.aload 0, .goto_w 37, .iload 1, .invokeinterface 91 4, .ifCond .ne 17, .aload 0, .sipush 1, .invokeinterface 14 4, .ireturn]),
  (17, [.aload 0, .goto_w 37, .aload 0, .goto_w 2, .invokeinterface 113 5, .sipush (-1), .istore 2, .sipush 0, .istore 3, .sipush 0, .istore 4, .jsr 35]),
  (35, [.iload 4, .sipush 90, .if_icmp .gt 73, .aload 0, .goto_w 2, .iload 1, .iload 4, .invokeinterface 117 4, .iaload, .istore 5, .iload 5, .iload 3, .if_icmp .le 67, .iload 5, .istore 3, .iload 4, .istore 2, .jsr 67]),
  (67, [.iinc 4 1, .goto 35]),
  (73, [.iload 2, .sipush (-1), .if_icmp .ne 87, .aload 0, .sipush 6, .invokeinterface 14 4, .goto 92]),
  (87, [.aload 0, .iload 2, .invokeinterface 70 4, .jsr 92]),
  (92, [.ireturn])]
abbrev m_M_all : Nat := 134
def o_M_all : Ops := [(0, [.aload 0, .goto_w 37, .iload 1, .invokeinterface 91 4, .ifCond .eq 26, .aload 0, .aload 0, .goto_w 37, .iload 1, .invokeinterface 121 4, .invokeinterface 70 4, .goto 31]),
  (26, [.aload 0, .sipush 1, .invokeinterface 14 4, .jsr 31]),
  (31, [.ireturn])]
abbrev m_M_recorded : Nat := 135
def o_M_recorded : Ops := [(0, [.aload 0, .goto_w 37, .iload 1, .invokeinterface 91 4, .ifCond .eq 18, .iload 2, .invokeinterface 124 2, .ifCond .ne 24, .jsr 18]),
  (18, [.aload 0, .sipush 1, .invokeinterface 14 4, .ireturn]),
  (24, [.aload 0, .goto_w 37, .getfield 6, .ifCond .eq 54, .aload 0, .aload 0, .goto_w 37, .goto_w 10, .iload 1, .iload 2, .invokeinterface 117 4, .iaload, .invokeinterface 70 4, .goto 60]),
  (54, [.aload 0, .sipush 6, .invokeinterface 14 4, .jsr 60]),
  (60, [.ireturn])]
abbrev m_M_differs : Nat := 136
def o_M_differs : Ops := [(0, [.aload 0, .goto_w 37, .getfield 6, .ifCond .ne 17, .aload 0, .sipush 6, .invokeinterface 14 4, .ireturn]),
  (17, [.aload 0, .goto_w 37, .aload 0, .goto_w 2, .invokeinterface 113 5, .sipush 0, .istore 1, .sipush 0, .istore 2, .jsr 32]),
  (32, [.iload 2, .sipush 364, .if_icmp .ge 66, .aload 0, .goto_w 2, .iload 2, .iaload, .aload 0, .goto_w 37, .goto_w 10, .iload 2, .iaload, .if_icmp .eq 60, .iinc 1 1, .jsr 60]),
  (60, [.iinc 2 1, .goto 32]),
  (66, [.aload 0, .iload 1, .invokeinterface 70 4, .ireturn])]
abbrev m_M_copyHeard : Nat := 137
def o_M_copyHeard : Ops := [(0, [.aload 0, .goto_w 37, .iload 1, .invokeinterface 91 4, .ifCond .eq 33, .aload 0, .goto_w 3, .iload 2, .invokeinterface 4 4, .ifCond .eq 33, .iload 3, .invokeinterface 124 2, .ifCond .eq 33, .sipush 1, .goto 34]),
  (33, [.sipush 0, .jsr 34]),
  (34, [.istore 5, .iload 5, .ifCond .eq 62, .iload 4, .ifCond .lt 62, .iload 4, .sipush 60, .if_icmp .gt 62, .iload 3, .iload 4, .iadd, .sipush 91, .if_icmp .le 68, .jsr 62]),
  (62, [.aload 0, .sipush 1, .invokeinterface 14 4, .ireturn]),
  (68, [.aload 0, .goto_w 3, .iload 2, .invokeinterface 10 4, .ifCond .eq 85, .aload 0, .sipush 2, .invokeinterface 14 4, .ireturn]),
  (85, [.aload 0, .goto_w 3, .iload 2, .sipush 0, .iload 4, .invokeinterface 16 8, .ifCond .ne 105, .aload 0, .sipush 3, .invokeinterface 14 4, .ireturn]),
  (105, [.aload 0, .goto_w 37, .aload 0, .goto_w 2, .invokeinterface 113 5, .sipush 0, .istore 6, .sipush 0, .istore 7, .jsr 122]),
  (122, [.iload 7, .iload 4, .if_icmp .ge 170, .aload 0, .goto_w 2, .iload 1, .iload 3, .iload 7, .iadd, .invokeinterface 117 4, .iaload, .istore 8, .aload 0, .goto_w 3, .iload 2, .iload 7, .iload 8, .i2l, .invokeinterface 11 9, .iload 6, .iload 8, .iadd, .istore 6, .iinc 7 1, .goto 122]),
  (170, [.aload 0, .iload 6, .invokeinterface 70 4, .ireturn])]
abbrev m_M_answers : Nat := 138
def o_M_answers : Ops := [(0, [.aload 0, .iload 1, .sipush 4, .invokeinterface 139 6, .istore 2, .iload 2, .ifCond .eq 17, .aload 0, .iload 2, .invokeinterface 14 4, .ireturn]),
  (17, [.aload 0, .goto_w 14, .aload 0, .goto_w 37, .iload 1, .sipush (-1), .invokeinterface 140 9, .aload 0, .aload 0, .goto_w 14, .getfield 0, .invokeinterface 70 4, .ireturn])]
abbrev m_M_problemOfGuess : Nat := 139
def o_M_problemOfGuess : Ops := [(0, [.iload 1, .ifCond .lt 9, .iload 1, .iload 2, .if_icmp .le 11, .jsr 9]),
  (9, [.sipush 1, .ireturn]),
  (11, [.aload 0, .goto_w 37, .getfield 6, .ifCond .eq 25, .sipush 0, .goto 27]),
  (25, [.sipush 6, .jsr 27]),
  (27, [.ireturn])]
abbrev m_Guess_findAnswers : Nat := 140
def o_Guess_findAnswers : Ops := [(0, [.aload 0, .aload 1, .invokeinterface 141 5, .aload 0, .sipush 0, .putfield 0, .aload 0, .sipush 0, .putfield 1, .aload 0, .sipush 5, .putfield 2, .aload 0, .sipush (-1), .putfield 3, .aload 0, .iload 2, .putfield 5, .aload 0, .iload 3, .putfield 6, .aload 0, .sipush 0, .sipush 0, .sipush (-1), .invokeinterface 144 9, .return_])]
abbrev m_Guess_listen : Nat := 141
def o_Guess_listen : Ops := [(0, [.aload 1, .goto_w 10, .sipush 0, .aload 0, .goto_w 4, .sipush 0, .sipush 364, .aastore, .aload 0, .aload 1, .invokeinterface 142 2, .putfield 7, .aload 0, .sipush 0, .putfield 8, .sipush 0, .istore 2, .jsr 31]),
  (31, [.iload 2, .sipush 15, .if_icmp .ge 128, .aload 0, .goto_w 8, .iload 2, .sipush 0, .iastore, .sipush 0, .istore 3, .aload 1, .iload 2, .sipush 3, .idiv, .iload 2, .sipush 3, .irem, .invokeinterface 65 6, .istore 4, .sipush 0, .istore 5, .jsr 61]),
  (61, [.iload 5, .sipush 4, .if_icmp .ge 110, .aload 0, .goto_w 7, .iload 2, .sipush 4, .imul, .iload 5, .iadd, .sipush (-1), .iastore, .iload 4, .ifCond .eq 104, .iload 5, .aload 1, .getfield 3, .if_icmp .ge 104, .iload 3, .aload 0, .aload 1, .iload 2, .iload 5, .invokeinterface 143 8, .iadd, .istore 3, .jsr 104]),
  (104, [.iinc 5 1, .goto 61]),
  (110, [.aload 0, .aload 0, .getfield 8, .iload 3, .fadd, .putfield 8, .iinc 2 1, .goto 31]),
  (128, [.return_])]
abbrev m_Hall_totalKept : Nat := 142
def o_Hall_totalKept : Ops := [(0, [.sipush 0, .istore 1, .sipush 0, .istore 2, .jsr 4]),
  (4, [.iload 2, .sipush 364, .if_icmp .ge 26, .iload 1, .aload 0, .goto_w 10, .iload 2, .iaload, .iadd, .istore 1, .iinc 2 1, .goto 4]),
  (26, [.iload 1, .ireturn])]
abbrev m_Guess_listenOn : Nat := 143
def o_Guess_listenOn : Ops := [(0, [.aload 1, .iload 2, .sipush 3, .idiv, .iload 3, .invokeinterface 114 6, .istore 4, .iload 4, .sipush 10000000, .if_icmp .lt 19, .sipush 0, .ireturn]),
  (19, [.sipush 0, .istore 5, .iload 2, .sipush 4, .imul, .iload 3, .iadd, .istore 6, .aload 0, .goto_w 6, .iload 6, .iload 4, .invokeinterface 116 2, .iastore, .sipush 2, .istore 7, .jsr 44]),
  (44, [.iload 7, .ifCond .lt 114, .aload 1, .iload 2, .iload 7, .iload 4, .invokeinterface 118 2, .invokeinterface 119 8, .istore 8, .aload 0, .goto_w 5, .iload 6, .sipush 3, .imul, .iload 7, .iadd, .iload 8, .iastore, .iload 5, .iload 8, .iadd, .istore 5, .iload 8, .ifCond .le 108, .aload 0, .goto_w 7, .iload 6, .iload 7, .iastore, .aload 0, .goto_w 8, .iload 2, .dup2, .iaload, .sipush 1, .iadd, .iastore, .jsr 108]),
  (108, [.iinc 7 (-1), .goto 44]),
  (114, [.iload 5, .ireturn])]
abbrev m_Guess_search : Nat := 144
def o_Guess_search : Ops := [(0, [.aload 0, .getfield 7, .ifCond .ne 13, .aload 0, .iload 1, .invokeinterface 145 5, .return_]),
  (13, [.iload 1, .aload 0, .getfield 5, .if_icmp .ge 39, .aload 0, .getfield 5, .iload 1, .isub, .aload 0, .getfield 8, .imul, .aload 0, .getfield 7, .if_icmp .ge 40, .jsr 39]),
  (39, [.return_]),
  (40, [.aload 0, .iload 2, .invokeinterface 148 4, .istore 4, .iload 4, .iload 2, .if_icmp .ne 59, .iload 3, .sipush 1, .iadd, .goto 60]),
  (59, [.sipush 0, .jsr 60]),
  (60, [.istore 5, .jsr 62]),
  (62, [.iload 5, .sipush 15, .if_icmp .ge 145, .aload 0, .iload 5, .iload 4, .invokeinterface 149 6, .istore 6, .iload 6, .sipush (-1), .if_icmp .eq 139, .aload 0, .iload 5, .iload 6, .invokeinterface 150 6, .ifCond .eq 139, .aload 0, .goto_w 2, .iload 1, .iload 5, .sipush 21, .imul, .iload 6, .iadd, .iastore, .aload 0, .iload 5, .iload 6, .sipush 1, .invokeinterface 151 9, .aload 0, .iload 1, .sipush 1, .iadd, .iload 4, .iload 5, .invokeinterface 144 9, .aload 0, .iload 5, .iload 6, .sipush (-1), .invokeinterface 151 9, .jsr 139]),
  (139, [.iinc 5 1, .goto 62]),
  (145, [.return_])]
abbrev m_Guess_note : Nat := 145
def o_Guess_note : Ops := [(0, [.aload 0, .dup, .getfield 0, .sipush 1, .iadd, .putfield 0, .aload 0, .aload 0, .getfield 2, .iload 1, .fmul, .putfield 2, .aload 0, .iload 1, .invokeinterface 146 5, .sipush 0, .istore 2, .jsr 29]),
  (29, [.iload 2, .iload 1, .if_icmp .ge 63, .aload 0, .goto_w 3, .iload 2, .iaload, .aload 0, .getfield 6, .if_icmp .ne 57, .aload 0, .dup, .getfield 1, .sipush 1, .iadd, .putfield 1, .jsr 57]),
  (57, [.iinc 2 1, .goto 29]),
  (63, [.aload 0, .getfield 3, .sipush (-1), .if_icmp .eq 79, .aload 0, .iload 1, .invokeinterface 147 4, .ifCond .eq 98, .jsr 79]),
  (79, [.aload 0, .iload 1, .putfield 3, .aload 0, .goto_w 3, .sipush 0, .aload 0, .goto_w 1, .sipush 0, .iload 1, .aastore, .jsr 98]),
  (98, [.return_])]
abbrev m_Guess_sortChosen : Nat := 146
def o_Guess_sortChosen : Ops := [(0, [.sipush 0, .istore 2, .jsr 2]),
  (2, [.iload 2, .iload 1, .if_icmp .ge 68, .iload 2, .istore 3, .jsr 9]),
  (9, [.iload 3, .ifCond .le 50, .aload 0, .goto_w 3, .iload 3, .sipush 1, .isub, .iaload, .aload 0, .goto_w 2, .iload 2, .iaload, .if_icmp .le 50, .aload 0, .goto_w 3, .iload 3, .aload 0, .goto_w 3, .iload 3, .sipush 1, .isub, .iaload, .iastore, .iinc 3 (-1), .goto 9]),
  (50, [.aload 0, .goto_w 3, .iload 3, .aload 0, .goto_w 2, .iload 2, .iaload, .iastore, .iinc 2 1, .goto 2]),
  (68, [.return_])]
abbrev m_Guess_comesFirst : Nat := 147
def o_Guess_comesFirst : Ops := [(0, [.sipush 0, .istore 2, .jsr 2]),
  (2, [.iload 2, .iload 1, .if_icmp .ge 57, .iload 2, .aload 0, .getfield 3, .if_icmp .ge 57, .aload 0, .goto_w 3, .iload 2, .iaload, .aload 0, .goto_w 1, .iload 2, .iaload, .if_icmp .eq 51, .aload 0, .goto_w 3, .iload 2, .iaload, .aload 0, .goto_w 1, .iload 2, .iaload, .if_icmp .ge 49, .sipush 1, .goto 50]),
  (49, [.sipush 0, .jsr 50]),
  (50, [.freturn]),
  (51, [.iinc 2 1, .goto 2]),
  (57, [.iload 1, .aload 0, .getfield 3, .if_icmp .ge 69, .sipush 1, .goto 70]),
  (69, [.sipush 0, .jsr 70]),
  (70, [.freturn])]
abbrev m_Guess_firstLeft : Nat := 148
def o_Guess_firstLeft : Ops := [(0, [.iload 1, .istore 2, .jsr 2]),
  (2, [.iload 2, .sipush 364, .if_icmp .ge 26, .aload 0, .goto_w 4, .iload 2, .iaload, .ifCond .le 20, .iload 2, .ireturn]),
  (20, [.iinc 2 1, .goto 2]),
  (26, [.sipush 364, .ireturn])]
abbrev m_Guess_beginFor : Nat := 149
def o_Guess_beginFor : Ops := [(0, [.iload 1, .sipush 4, .imul, .iload 2, .sipush 4, .irem, .iadd, .istore 3, .iload 2, .sipush 364, .if_icmp .ge 25, .aload 0, .goto_w 7, .iload 3, .iaload, .sipush (-1), .if_icmp .ne 27, .jsr 25]),
  (25, [.sipush (-1), .ireturn]),
  (27, [.iload 2, .sipush 4, .idiv, .aload 0, .goto_w 6, .iload 3, .iaload, .isub, .aload 0, .goto_w 7, .iload 3, .iaload, .isub, .istore 4, .iload 4, .ifCond .lt 63, .iload 4, .sipush 20, .if_icmp .gt 63, .iload 4, .goto 64]),
  (63, [.sipush (-1), .jsr 64]),
  (64, [.ireturn])]
abbrev m_Guess_fits : Nat := 150
def o_Guess_fits : Ops := [(0, [.sipush 0, .istore 3, .jsr 2]),
  (2, [.iload 3, .sipush 4, .if_icmp .ge 84, .iload 1, .sipush 4, .imul, .iload 3, .iadd, .istore 4, .aload 0, .goto_w 7, .iload 4, .iaload, .istore 5, .jsr 23]),
  (23, [.iload 5, .ifCond .lt 78, .iload 5, .sipush 3, .if_icmp .ge 78, .aload 0, .goto_w 4, .iload 3, .iload 2, .aload 0, .goto_w 6, .iload 4, .iaload, .iadd, .iload 5, .iadd, .invokeinterface 117 4, .iaload, .aload 0, .goto_w 5, .iload 4, .sipush 3, .imul, .iload 5, .iadd, .iaload, .if_icmp .ge 72, .sipush 0, .freturn]),
  (72, [.iinc 5 1, .goto 23]),
  (78, [.iinc 3 1, .goto 2]),
  (84, [.sipush 1, .freturn])]
abbrev m_Guess_take : Nat := 151
def o_Guess_take : Ops := [(0, [.sipush 0, .istore 4, .jsr 3]),
  (3, [.iload 4, .sipush 4, .if_icmp .ge 103, .iload 1, .sipush 4, .imul, .iload 4, .iadd, .istore 5, .aload 0, .goto_w 7, .iload 5, .iaload, .istore 6, .jsr 26]),
  (26, [.iload 6, .ifCond .lt 97, .iload 6, .sipush 3, .if_icmp .ge 97, .iload 3, .aload 0, .goto_w 5, .iload 5, .sipush 3, .imul, .iload 6, .iadd, .iaload, .imul, .istore 7, .aload 0, .goto_w 4, .iload 4, .iload 2, .aload 0, .goto_w 6, .iload 5, .iaload, .iadd, .iload 6, .iadd, .invokeinterface 117 4, .dup2, .iaload, .iload 7, .isub, .iastore, .aload 0, .dup, .getfield 7, .iload 7, .isub, .putfield 7, .iinc 6 1, .goto 26]),
  (97, [.iinc 4 1, .goto 3]),
  (103, [.return_])]
abbrev m_M_answerAt : Nat := 152
def o_M_answerAt : Ops := [(0, [.iload 2, .ifCond .ge 8, .sipush 1, .goto 14]),
  (8, [.aload 0, .iload 1, .sipush 4, .invokeinterface 139 6, .jsr 14]),
  (14, [.istore 3, .iload 3, .ifCond .eq 25, .aload 0, .iload 3, .invokeinterface 14 4, .ireturn]),
  (25, [.aload 0, .goto_w 14, .aload 0, .goto_w 37, .iload 1, .sipush (-1), .invokeinterface 140 9, .iload 2, .aload 0, .goto_w 14, .getfield 3, .if_icmp .ge 65, .aload 0, .aload 0, .goto_w 14, .goto_w 1, .iload 2, .iaload, .invokeinterface 70 4, .goto 71]),
  (65, [.aload 0, .sipush 6, .invokeinterface 14 4, .jsr 71]),
  (71, [.ireturn])]
abbrev m_M_with : Nat := 153
def o_M_with : Ops := [(0, [.aload 0, .goto_w 37, .iload 2, .iload 3, .invokeinterface 65 6, .ifCond .eq 28, .iload 4, .ifCond .lt 28, .iload 4, .sipush 20, .if_icmp .gt 28, .sipush 1, .goto 29]),
  (28, [.sipush 0, .jsr 29]),
  (29, [.istore 5, .iload 5, .ifCond .eq 45, .aload 0, .iload 1, .sipush 4, .invokeinterface 139 6, .goto 46]),
  (45, [.sipush 1, .jsr 46]),
  (46, [.istore 6, .iload 6, .ifCond .eq 60, .aload 0, .iload 6, .invokeinterface 14 4, .ireturn]),
  (60, [.aload 0, .goto_w 14, .aload 0, .goto_w 37, .iload 1, .iload 2, .iload 3, .iload 4, .invokeinterface 66 6, .invokeinterface 140 9, .aload 0, .aload 0, .goto_w 14, .getfield 1, .invokeinterface 70 4, .ireturn])]
abbrev m_M_fewest : Nat := 154
def o_M_fewest : Ops := [(0, [.aload 0, .goto_w 37, .getfield 6, .ifCond .ne 17, .aload 0, .sipush 6, .invokeinterface 14 4, .ireturn]),
  (17, [.aload 0, .goto_w 14, .aload 0, .goto_w 37, .sipush 4, .sipush (-1), .invokeinterface 140 9, .aload 0, .goto_w 14, .getfield 0, .ifCond .le 54, .aload 0, .aload 0, .goto_w 14, .getfield 2, .invokeinterface 70 4, .goto 60]),
  (54, [.aload 0, .sipush 6, .invokeinterface 14 4, .jsr 60]),
  (60, [.ireturn])]
abbrev m_M_slips : Nat := 155
def o_M_slips : Ops := [(0, [.aload 0, .iload 1, .sipush 2, .invokeinterface 139 6, .istore 2, .iload 2, .ifCond .eq 17, .aload 0, .iload 2, .invokeinterface 14 4, .ireturn]),
  (17, [.aload 0, .goto_w 14, .aload 0, .goto_w 37, .iload 1, .invokeinterface 156 7, .aload 0, .aload 0, .goto_w 14, .getfield 0, .invokeinterface 70 4, .ireturn])]
abbrev m_Guess_findSlips : Nat := 156
def o_Guess_findSlips : Ops := [(0, [.aload 0, .aload 1, .invokeinterface 141 5, .aload 0, .sipush 0, .putfield 3, .aload 0, .sipush 0, .putfield 0, .sipush 0, .istore 3, .jsr 17]),
  (17, [.iload 3, .sipush 364, .if_icmp .ge 53, .aload 0, .dup, .getfield 0, .aload 0, .goto_w 4, .iload 3, .iaload, .ifCond .eq 42, .sipush 1, .goto 43]),
  (42, [.sipush 0, .jsr 43]),
  (43, [.iadd, .putfield 0, .iinc 3 1, .goto 17]),
  (53, [.aload 0, .getfield 0, .istore 3, .aload 0, .invokeinterface 157 2, .istore 4, .sipush 0, .istore 5, .jsr 67]),
  (67, [.iload 2, .ifCond .le 185, .iload 5, .sipush 315, .if_icmp .ge 185, .aload 0, .goto_w 8, .iload 5, .sipush 21, .idiv, .iaload, .ifCond .ne 95, .goto 179]),
  (95, [.iload 3, .aload 0, .goto_w 9, .iload 5, .iaload, .iadd, .aload 0, .getfield 0, .if_icmp .ge 137, .aload 0, .iload 3, .aload 0, .goto_w 9, .iload 5, .iaload, .iadd, .putfield 0, .aload 0, .sipush 1, .putfield 3, .aload 0, .goto_w 1, .sipush 0, .iload 5, .iastore, .jsr 137]),
  (137, [.iload 2, .sipush 1, .if_icmp .le 179, .iload 3, .aload 0, .goto_w 9, .iload 5, .iaload, .iadd, .iload 4, .iadd, .aload 0, .goto_w 8, .iload 5, .sipush 21, .idiv, .iaload, .isub, .aload 0, .getfield 0, .if_icmp .ge 179, .aload 0, .iload 5, .iload 3, .invokeinterface 159 7, .jsr 179]),
  (179, [.iinc 5 1, .goto 67]),
  (185, [.return_])]
abbrev m_Guess_weighEach : Nat := 157
def o_Guess_weighEach : Ops := [(0, [.sipush 0, .istore 1, .sipush 0, .istore 2, .jsr 4]),
  (4, [.iload 2, .sipush 315, .if_icmp .ge 51, .aload 0, .goto_w 8, .iload 2, .sipush 21, .idiv, .iaload, .ifCond .le 45, .aload 0, .goto_w 9, .iload 2, .aload 0, .iload 2, .invokeinterface 158 4, .iastore, .iload 1, .aload 0, .goto_w 9, .iload 2, .iaload, .fmul, .istore 1, .jsr 45]),
  (45, [.iinc 2 1, .goto 4]),
  (51, [.iload 1, .ireturn])]
abbrev m_Guess_changeBy : Nat := 158
def o_Guess_changeBy : Ops := [(0, [.iload 1, .sipush 21, .idiv, .istore 2, .sipush 0, .istore 3, .sipush 0, .istore 4, .jsr 10]),
  (10, [.iload 4, .sipush 4, .if_icmp .ge 128, .iload 2, .sipush 4, .imul, .iload 4, .iadd, .istore 5, .aload 0, .goto_w 7, .iload 5, .iaload, .istore 6, .jsr 33]),
  (33, [.iload 6, .ifCond .lt 122, .iload 6, .sipush 3, .if_icmp .ge 122, .aload 0, .goto_w 5, .iload 5, .sipush 3, .imul, .iload 6, .iadd, .iaload, .istore 7, .aload 0, .goto_w 4, .iload 4, .iload 1, .sipush 21, .irem, .aload 0, .goto_w 6, .iload 5, .iaload, .iadd, .iload 6, .iadd, .invokeinterface 117 4, .iaload, .istore 8, .iload 7, .ifCond .le 101, .iload 8, .ifCond .ne 101, .iinc 3 1, .goto 116]),
  (101, [.iload 7, .ifCond .le 116, .iload 8, .iload 7, .if_icmp .ne 116, .iinc 3 (-1), .jsr 116]),
  (116, [.iinc 6 1, .goto 33]),
  (122, [.iinc 4 1, .goto 10]),
  (128, [.iload 3, .ireturn])]
abbrev m_Guess_findSecond : Nat := 159
def o_Guess_findSecond : Ops := [(0, [.iload 1, .sipush 21, .idiv, .istore 3, .aload 0, .iload 3, .iload 1, .sipush 21, .irem, .sipush 1, .invokeinterface 151 9, .iload 2, .aload 0, .goto_w 9, .iload 1, .iaload, .iadd, .istore 4, .iload 1, .sipush 1, .iadd, .istore 5, .jsr 30]),
  (30, [.iload 5, .sipush 315, .if_icmp .ge 139, .aload 0, .goto_w 8, .iload 3, .iaload, .aload 0, .goto_w 8, .iload 5, .sipush 21, .idiv, .iaload, .fmul, .istore 6, .iload 6, .ifCond .eq 133, .iload 4, .aload 0, .goto_w 9, .iload 5, .iaload, .iadd, .iload 6, .isub, .aload 0, .getfield 0, .if_icmp .lt 87, .goto 133]),
  (87, [.iload 4, .aload 0, .iload 5, .invokeinterface 158 4, .iadd, .istore 7, .iload 7, .aload 0, .getfield 0, .if_icmp .ge 133, .aload 0, .iload 7, .putfield 0, .aload 0, .sipush 2, .putfield 3, .aload 0, .goto_w 1, .sipush 0, .iload 1, .iastore, .aload 0, .goto_w 1, .sipush 1, .iload 5, .iastore, .jsr 133]),
  (133, [.iinc 5 1, .goto 30]),
  (139, [.aload 0, .iload 3, .iload 1, .sipush 21, .irem, .sipush (-1), .invokeinterface 151 9, .return_])]
abbrev m_M_slipsAt : Nat := 160
def o_M_slipsAt : Ops := [(0, [.iload 2, .ifCond .ge 8, .sipush 1, .goto 14]),
  (8, [.aload 0, .iload 1, .sipush 2, .invokeinterface 139 6, .jsr 14]),
  (14, [.istore 3, .iload 3, .ifCond .eq 25, .aload 0, .iload 3, .invokeinterface 14 4, .ireturn]),
  (25, [.aload 0, .goto_w 14, .aload 0, .goto_w 37, .iload 1, .invokeinterface 156 7, .iload 2, .aload 0, .goto_w 14, .getfield 3, .if_icmp .ge 64, .aload 0, .aload 0, .goto_w 14, .goto_w 1, .iload 2, .iaload, .invokeinterface 70 4, .goto 70]),
  (64, [.aload 0, .sipush 6, .invokeinterface 14 4, .jsr 70]),
  (70, [.ireturn])]
abbrev m_M_moved : Nat := 161
def o_M_moved : Ops := [(0, [.aload 0, .goto_w 37, .getfield 6, .ifCond .ne 17, .aload 0, .sipush 6, .invokeinterface 14 4, .ireturn]),
  (17, [.aload 0, .goto_w 24, .aload 0, .goto_w 37, .sipush (-1), .invokeinterface 162 7, .aload 0, .aload 0, .goto_w 24, .getfield 0, .invokeinterface 70 4, .ireturn])]
abbrev m_Moves_find : Nat := 162
def o_Moves_find : Ops := [(0, [.aload 0, .sipush 0, .putfield 0, .aload 1, .goto_w 10, .sipush 0, .aload 0, .goto_w 2, .sipush 0, .sipush 364, .aastore, .aload 0, .aload 1, .invokeinterface 142 2, .putfield 4, .sipush 0, .istore 3, .jsr 31]),
  (31, [.iload 3, .aload 1, .getfield 2, .if_icmp .ge 84, .aload 1, .iload 3, .aload 0, .goto_w 1, .invokeinterface 30 7, .aload 0, .aload 1, .aload 1, .goto_w 2, .sipush 2, .iload 3, .imul, .iaload, .aload 1, .goto_w 2, .sipush 2, .iload 3, .imul, .sipush 1, .iadd, .iaload, .invokeinterface 163 9, .aload 0, .aload 1, .iload 3, .iload 2, .invokeinterface 164 9, .iinc 3 1, .goto 31]),
  (84, [.return_])]
abbrev m_Moves_measurePairs : Nat := 163
def o_Moves_measurePairs : Ops := [(0, [.sipush 0, .istore 4, .jsr 3]),
  (3, [.iload 4, .aload 1, .getfield 5, .if_icmp .ge 150, .aload 1, .goto_w 6, .aload 1, .iload 4, .invokeinterface 98 4, .iaload, .sipush 7, .imul, .istore 5, .sipush 0, .istore 6, .jsr 31]),
  (31, [.iload 6, .aload 1, .getfield 3, .if_icmp .ge 144, .aload 1, .goto_w 5, .iload 6, .iaload, .istore 7, .aload 0, .goto_w 1, .iload 5, .iload 2, .iadd, .iaload, .aload 0, .goto_w 1, .iload 3, .sipush 7, .imul, .iload 7, .iadd, .iaload, .iadd, .istore 8, .aload 0, .goto_w 1, .iload 5, .iload 3, .iadd, .iaload, .aload 0, .goto_w 1, .iload 2, .sipush 7, .imul, .iload 7, .iadd, .iaload, .iadd, .istore 9, .aload 0, .goto_w 5, .iload 4, .sipush 4, .imul, .iload 6, .iadd, .aload 0, .goto_w 1, .iload 5, .iload 7, .iadd, .iaload, .iastore, .aload 0, .goto_w 6, .iload 4, .sipush 4, .imul, .iload 6, .iadd, .iload 8, .iload 9, .fmul, .iastore, .iinc 6 1, .goto 31]),
  (144, [.iinc 4 1, .goto 3]),
  (150, [.return_])]
abbrev m_Moves_findOf : Nat := 164
def o_Moves_findOf : Ops := [(0, [.aload 0, .aload 1, .sipush 10000000, .invokeinterface 165 6, .istore 4, .sipush 1, .istore 5, .jsr 12]),
  (12, [.iload 5, .sipush 9, .if_icmp .gt 124, .sipush 0, .istore 6, .jsr 22]),
  (22, [.iload 6, .sipush 9, .if_icmp .gt 118, .iload 5, .aload 1, .goto_w 3, .iload 2, .iaload, .if_icmp .ne 55, .iload 6, .aload 1, .goto_w 4, .iload 2, .iaload, .if_icmp .ne 55, .sipush 1, .goto 56]),
  (55, [.sipush 0, .jsr 56]),
  (56, [.istore 7, .iload 5, .sipush 1000, .imul, .iload 6, .iadd, .istore 8, .iload 7, .ifCond .ne 112, .aload 0, .aload 1, .iload 8, .invokeinterface 168 6, .ifCond .eq 97, .aload 0, .aload 1, .iload 8, .invokeinterface 165 6, .ifCond .eq 112, .goto 102]),
  (97, [.iload 4, .ifCond .eq 112, .jsr 102]),
  (102, [.aload 0, .iload 2, .iload 5, .iload 6, .iload 3, .invokeinterface 169 11, .jsr 112]),
  (112, [.iinc 6 1, .goto 22]),
  (118, [.iinc 5 1, .goto 12]),
  (124, [.return_])]
abbrev m_Moves_explains : Nat := 165
def o_Moves_explains : Ops := [(0, [.aload 0, .sipush 0, .putfield 5, .sipush 1, .istore 3, .sipush 0, .istore 4, .jsr 10]),
  (10, [.iload 3, .ifCond .eq 108, .iload 4, .aload 1, .getfield 5, .if_icmp .ge 108, .sipush 0, .istore 5, .jsr 26]),
  (26, [.iload 3, .ifCond .eq 102, .iload 5, .aload 1, .getfield 3, .if_icmp .ge 102, .iload 4, .sipush 4, .imul, .iload 5, .iadd, .istore 6, .aload 0, .goto_w 5, .iload 6, .iaload, .aload 0, .goto_w 6, .iload 6, .iaload, .iload 2, .iadd, .fmul, .istore 7, .iload 7, .sipush 10000000, .if_icmp .ge 90, .aload 0, .aload 1, .iload 4, .iload 5, .iload 7, .invokeinterface 166 10, .ifCond .eq 94, .jsr 90]),
  (90, [.sipush 1, .goto 95]),
  (94, [.sipush 0, .jsr 95]),
  (95, [.istore 3, .iinc 5 1, .goto 26]),
  (102, [.iinc 4 1, .goto 10]),
  (108, [.iload 3, .ifCond .eq 123, .aload 0, .getfield 4, .ifCond .ne 123, .sipush 1, .goto 124]),
  (123, [.sipush 0, .jsr 124]),
  (124, [.istore 4, .aload 0, .invokeinterface 167 3, .iload 4, .freturn])]
abbrev m_Moves_takes : Nat := 166
def o_Moves_takes : Ops := [(0, [.aload 1, .iload 2, .invokeinterface 100 4, .iload 4, .invokeinterface 116 2, .iadd, .istore 5, .sipush 1, .istore 6, .sipush 0, .istore 7, .jsr 19]),
  (19, [.iload 7, .sipush 3, .if_icmp .ge 137, .aload 1, .aload 1, .iload 2, .invokeinterface 99 4, .iload 7, .iload 4, .invokeinterface 118 2, .invokeinterface 119 8, .istore 8, .iload 3, .iload 5, .iload 7, .iadd, .invokeinterface 117 4, .istore 9, .aload 0, .goto_w 2, .iload 9, .dup2, .iaload, .iload 8, .isub, .iastore, .aload 0, .dup, .getfield 4, .iload 8, .isub, .putfield 4, .aload 0, .goto_w 3, .aload 0, .getfield 5, .iload 9, .iastore, .aload 0, .goto_w 4, .aload 0, .getfield 5, .iload 8, .iastore, .aload 0, .dup, .getfield 5, .sipush 1, .iadd, .putfield 5, .iload 6, .ifCond .eq 128, .aload 0, .goto_w 2, .iload 9, .iaload, .ifCond .lt 128, .sipush 1, .goto 129]),
  (128, [.sipush 0, .jsr 129]),
  (129, [.istore 6, .iinc 7 1, .goto 19]),
  (137, [.iload 6, .freturn])]
abbrev m_Moves_giveBack : Nat := 167
def o_Moves_giveBack : Ops := [(0, [.sipush 0, .istore 1, .jsr 2]),
  (2, [.iload 1, .aload 0, .getfield 5, .if_icmp .ge 51, .aload 0, .goto_w 2, .aload 0, .goto_w 3, .iload 1, .iaload, .dup2, .iaload, .aload 0, .goto_w 4, .iload 1, .iaload, .iadd, .iastore, .aload 0, .dup, .getfield 4, .aload 0, .goto_w 4, .iload 1, .iaload, .iadd, .putfield 4, .iinc 1 1, .goto 2]),
  (51, [.return_])]
abbrev m_Moves_isUsed : Nat := 168
def o_Moves_isUsed : Ops := [(0, [.sipush 0, .istore 3, .jsr 2]),
  (2, [.iload 3, .aload 1, .getfield 5, .if_icmp .ge 63, .sipush 0, .istore 4, .jsr 13]),
  (13, [.iload 4, .aload 1, .getfield 3, .if_icmp .ge 57, .iload 3, .sipush 4, .imul, .iload 4, .iadd, .istore 5, .aload 0, .goto_w 6, .iload 5, .iaload, .iload 2, .iadd, .aload 0, .goto_w 5, .iload 5, .iaload, .if_icmp .ge 51, .sipush 1, .freturn]),
  (51, [.iinc 4 1, .goto 13]),
  (57, [.iinc 3 1, .goto 2]),
  (63, [.sipush 0, .freturn])]
abbrev m_Moves_note : Nat := 169
def o_Moves_note : Ops := [(0, [.aload 0, .getfield 0, .iload 4, .if_icmp .ne 24, .aload 0, .iload 1, .putfield 1, .aload 0, .iload 2, .putfield 2, .aload 0, .iload 3, .putfield 3, .jsr 24]),
  (24, [.aload 0, .dup, .getfield 0, .sipush 1, .iadd, .putfield 0, .return_])]
abbrev m_M_movedAt : Nat := 170
def o_M_movedAt : Ops := [(0, [.iload 1, .ifCond .lt 13, .iload 2, .ifCond .lt 13, .iload 2, .sipush 2, .if_icmp .le 19, .jsr 13]),
  (13, [.aload 0, .sipush 1, .invokeinterface 14 4, .ireturn]),
  (19, [.aload 0, .goto_w 37, .getfield 6, .ifCond .ne 36, .aload 0, .sipush 6, .invokeinterface 14 4, .ireturn]),
  (36, [.aload 0, .goto_w 24, .aload 0, .goto_w 37, .iload 1, .invokeinterface 162 7, .iload 1, .aload 0, .goto_w 24, .getfield 0, .if_icmp .lt 66, .aload 0, .sipush 6, .invokeinterface 14 4, .ireturn]),
  (66, [.iload 2, .ifCond .ne 82, .aload 0, .aload 0, .goto_w 24, .getfield 1, .invokeinterface 70 4, .ireturn]),
  (82, [.aload 0, .iload 2, .sipush 1, .if_icmp .ne 98, .aload 0, .goto_w 24, .getfield 2, .goto 105]),
  (98, [.aload 0, .goto_w 24, .getfield 3, .jsr 105]),
  (105, [.invokeinterface 70 4, .ireturn])]
abbrev m_M_alike : Nat := 171
def o_M_alike : Ops := [(0, [.iload 1, .iload 3, .if_icmp .ne 15, .iload 2, .iload 4, .if_icmp .ne 15, .sipush 1, .goto 16]),
  (15, [.sipush 0, .jsr 16]),
  (16, [.istore 5, .aload 0, .goto_w 37, .iload 1, .iload 2, .invokeinterface 65 6, .ifCond .eq 48, .aload 0, .goto_w 37, .iload 3, .iload 4, .invokeinterface 65 6, .ifCond .eq 48, .iload 5, .ifCond .eq 54, .jsr 48]),
  (48, [.aload 0, .sipush 1, .invokeinterface 14 4, .ireturn]),
  (54, [.aload 0, .goto_w 31, .aload 0, .goto_w 37, .invokeinterface 172 5, .aload 0, .goto_w 31, .iload 1, .sipush 3, .imul, .iload 2, .iadd, .iload 3, .sipush 3, .imul, .iload 4, .iadd, .aload 0, .goto_w 37, .invokeinterface 175 2, .invokeinterface 176 8, .istore 6, .iload 6, .sipush 1000, .if_icmp .ne 107, .aload 0, .sipush 6, .invokeinterface 14 4, .ireturn]),
  (107, [.aload 0, .iload 6, .sipush 1001, .if_icmp .ne 120, .sipush 0, .goto 122]),
  (120, [.iload 6, .jsr 122]),
  (122, [.invokeinterface 70 4, .ireturn])]
abbrev m_Parting_listen : Nat := 172
def o_Parting_listen : Ops := [(0, [.sipush 0, .istore 2, .jsr 2]),
  (2, [.iload 2, .sipush 15, .if_icmp .ge 67, .iload 2, .sipush 3, .idiv, .istore 3, .sipush 0, .istore 4, .jsr 15]),
  (15, [.iload 4, .aload 1, .getfield 1, .if_icmp .ge 61, .aload 1, .iload 3, .iload 2, .sipush 3, .irem, .invokeinterface 65 6, .ifCond .eq 61, .aload 0, .aload 1, .iload 2, .iload 4, .aload 1, .aload 1, .goto_w 6, .iload 3, .iaload, .iload 4, .invokeinterface 115 6, .invokeinterface 173 11, .iinc 4 1, .goto 15]),
  (61, [.iinc 2 1, .goto 2]),
  (67, [.return_])]
abbrev m_Parting_listenAt : Nat := 173
def o_Parting_listenAt : Ops := [(0, [.iload 2, .sipush 7, .imul, .iload 3, .iadd, .istore 5, .sipush 0, .istore 6, .iload 4, .invokeinterface 116 2, .istore 7, .sipush 0, .istore 8, .jsr 21]),
  (21, [.iload 8, .sipush 3, .if_icmp .ge 79, .iload 4, .sipush 10000000, .if_icmp .ge 79, .aload 1, .iload 2, .iload 8, .iload 4, .invokeinterface 118 2, .invokeinterface 119 8, .istore 9, .iload 6, .ifCond .ne 63, .iload 4, .invokeinterface 116 2, .iload 8, .iadd, .istore 7, .jsr 63]),
  (63, [.iload 6, .sipush 100, .imul, .iload 9, .iadd, .istore 6, .iinc 8 1, .goto 21]),
  (79, [.aload 0, .goto_w 2, .iload 5, .iload 7, .iastore, .aload 0, .goto_w 1, .iload 5, .iload 6, .invokeinterface 174 2, .iastore, .return_])]
abbrev m_Parting_leftAligned : Nat := 174
def o_Parting_leftAligned : Ops := [(0, [.iload 0, .istore 1, .sipush 0, .istore 2, .jsr 4]),
  (4, [.iload 2, .sipush 3, .if_icmp .ge 31, .iload 1, .ifCond .le 31, .iload 1, .sipush 10000, .if_icmp .ge 31, .iload 1, .sipush 100, .imul, .istore 1, .iinc 2 1, .goto 4]),
  (31, [.iload 1, .ireturn])]
abbrev m_Hall_slatePlaces : Nat := 175
def o_Hall_slatePlaces : Ops := [(0, [.sipush 0, .istore 1, .sipush 0, .istore 2, .jsr 4]),
  (4, [.iload 2, .aload 0, .getfield 3, .if_icmp .ge 29, .iload 1, .sipush 1, .aload 0, .goto_w 5, .iload 2, .iaload, .ishl, .ior, .istore 1, .iinc 2 1, .goto 4]),
  (29, [.iload 1, .ireturn])]
abbrev m_Parting_laterBy : Nat := 176
def o_Parting_laterBy : Ops := [(0, [.sipush 1001, .istore 4, .sipush 0, .istore 5, .jsr 8]),
  (8, [.iload 5, .sipush 7, .if_icmp .ge 53, .iload 4, .sipush 1000, .if_icmp .eq 53, .iload 3, .iload 5, .ishr, .sipush 1, .iand, .ifCond .eq 47, .iload 4, .aload 0, .iload 1, .iload 2, .iload 5, .invokeinterface 177 8, .invokeinterface 178 4, .istore 4, .jsr 47]),
  (47, [.iinc 5 1, .goto 8]),
  (53, [.iload 4, .ireturn])]
abbrev m_Parting_laterAt : Nat := 177
def o_Parting_laterAt : Ops := [(0, [.iload 1, .sipush 7, .imul, .iload 3, .iadd, .istore 4, .iload 2, .sipush 7, .imul, .iload 3, .iadd, .istore 5, .aload 0, .goto_w 1, .iload 4, .iaload, .aload 0, .goto_w 1, .iload 5, .iaload, .if_icmp .eq 37, .sipush 1000, .ireturn]),
  (37, [.aload 0, .goto_w 1, .iload 4, .iaload, .ifCond .ne 51, .sipush 1001, .ireturn]),
  (51, [.aload 0, .goto_w 2, .iload 4, .iaload, .aload 0, .goto_w 2, .iload 5, .iaload, .isub, .istore 6, .iload 6, .fdiv, .sipush 20, .if_icmp .gt 83, .iload 6, .goto 86]),
  (83, [.sipush 1000, .jsr 86]),
  (86, [.ireturn])]
abbrev m_Parting_both : Nat := 178
def o_Parting_both : Ops := [(0, [.iload 0, .sipush 1001, .if_icmp .eq 12, .iload 0, .iload 1, .if_icmp .ne 14, .jsr 12]),
  (12, [.iload 1, .ireturn]),
  (14, [.iload 1, .sipush 1001, .if_icmp .ne 25, .iload 0, .goto 28]),
  (25, [.sipush 1000, .jsr 28]),
  (28, [.ireturn])]
abbrev m_M_parts : Nat := 179
def o_M_parts : Ops := [(0, [.iload 1, .ifCond .lt 17, .iload 1, .sipush 1, .aload 0, .goto_w 37, .getfield 1, .ishl, .if_icmp .lt 23, .jsr 17]),
  (17, [.aload 0, .sipush 1, .invokeinterface 14 4, .ireturn]),
  (23, [.aload 0, .goto_w 31, .aload 0, .goto_w 37, .invokeinterface 172 5, .aload 0, .aload 0, .goto_w 31, .aload 0, .goto_w 37, .iload 1, .invokeinterface 180 6, .ifCond .eq 54, .sipush 1, .goto 55]),
  (54, [.sipush 0, .jsr 55]),
  (55, [.invokeinterface 70 4, .ireturn])]
abbrev m_Parting_partsAll : Nat := 180
def o_Parting_partsAll : Ops := [(0, [.sipush 0, .istore 3, .jsr 2]),
  (2, [.iload 3, .sipush 15, .if_icmp .ge 65, .iload 3, .sipush 1, .iadd, .istore 4, .jsr 13]),
  (13, [.iload 4, .sipush 15, .if_icmp .ge 59, .aload 1, .iload 3, .invokeinterface 181 4, .ifCond .eq 59, .aload 1, .iload 4, .invokeinterface 181 4, .ifCond .eq 53, .aload 0, .iload 3, .iload 4, .iload 2, .invokeinterface 176 8, .sipush 1000, .if_icmp .eq 53, .sipush 0, .freturn]),
  (53, [.iinc 4 1, .goto 13]),
  (59, [.iinc 3 1, .goto 2]),
  (65, [.sipush 1, .freturn])]
abbrev m_Parting_isThere : Nat := 181
def o_Parting_isThere : Ops := [(0, [.aload 0, .iload 1, .sipush 3, .idiv, .iload 1, .sipush 3, .irem, .invokeinterface 65 6, .freturn])]
abbrev m_M_hanging : Nat := 182
def o_M_hanging : Ops := [(0, [.aload 0, .goto_w 31, .aload 0, .goto_w 37, .invokeinterface 172 5, .aload 0, .goto_w 31, .aload 0, .goto_w 37, .invokeinterface 183 4, .istore 1, .iload 1, .sipush (-1), .if_icmp .ne 37, .aload 0, .sipush 6, .invokeinterface 14 4, .goto 45]),
  (37, [.aload 0, .iload 1, .invokeinterface 186 2, .invokeinterface 70 4, .jsr 45]),
  (45, [.ireturn])]
abbrev m_Parting_leastSet : Nat := 183
def o_Parting_leastSet : Ops := [(0, [.sipush 1, .aload 1, .getfield 1, .ishl, .istore 2, .aload 0, .goto_w 5, .sipush 0, .invokeinterface 31 5, .sipush 0, .istore 3, .jsr 17]),
  (17, [.iload 3, .sipush 15, .if_icmp .ge 72, .iload 3, .sipush 1, .iadd, .istore 4, .jsr 28]),
  (28, [.iload 4, .sipush 15, .if_icmp .ge 66, .aload 1, .iload 3, .invokeinterface 181 4, .ifCond .eq 66, .aload 1, .iload 4, .invokeinterface 181 4, .ifCond .eq 60, .aload 0, .iload 3, .iload 4, .iload 2, .invokeinterface 184 9, .jsr 60]),
  (60, [.iinc 4 1, .goto 28]),
  (66, [.iinc 3 1, .goto 17]),
  (72, [.sipush (-1), .istore 3, .iload 2, .sipush 1, .isub, .istore 4, .jsr 79]),
  (79, [.iload 4, .ifCond .lt 132, .iload 3, .sipush (-1), .if_icmp .eq 101, .iload 4, .invokeinterface 186 2, .iload 3, .invokeinterface 186 2, .if_icmp .gt 105, .jsr 101]),
  (101, [.sipush 1, .goto 106]),
  (105, [.sipush 0, .jsr 106]),
  (106, [.istore 5, .aload 0, .goto_w 5, .iload 4, .iaload, .ifCond .ne 126, .iload 5, .ifCond .eq 126, .iload 4, .istore 3, .jsr 126]),
  (126, [.iinc 4 (-1), .goto 79]),
  (132, [.iload 3, .ireturn])]
abbrev m_Parting_markUnparted : Nat := 184
def o_Parting_markUnparted : Ops := [(0, [.aload 0, .goto_w 4, .sipush 0, .sipush 1001, .iastore, .aload 0, .goto_w 5, .sipush 0, .sipush 1, .iastore, .sipush 0, .istore 4, .jsr 19]),
  (19, [.sipush 1, .iload 4, .ishl, .iload 3, .if_icmp .ge 48, .aload 0, .goto_w 3, .iload 4, .aload 0, .iload 1, .iload 2, .iload 4, .invokeinterface 177 8, .iastore, .iinc 4 1, .goto 19]),
  (48, [.sipush 1, .istore 4, .jsr 51]),
  (51, [.iload 4, .iload 3, .if_icmp .ge 120, .iload 4, .invokeinterface 185 2, .istore 5, .aload 0, .goto_w 4, .iload 4, .aload 0, .goto_w 4, .iload 4, .iload 4, .sipush 1, .isub, .iand, .iaload, .aload 0, .goto_w 3, .iload 5, .iaload, .invokeinterface 178 4, .iastore, .aload 0, .goto_w 4, .iload 4, .iaload, .sipush 1000, .if_icmp .eq 114, .aload 0, .goto_w 5, .iload 4, .sipush 1, .iastore, .jsr 114]),
  (114, [.iinc 4 1, .goto 51]),
  (120, [.return_])]
abbrev m_Integer_numberOfTrailingZeros : Nat := 185
def o_Integer_numberOfTrailingZeros : Ops := [(0, [.iload 0, .sipush (-1), .ixor, .iload 0, .sipush 1, .isub, .iand, .istore 0, .iload 0, .ifCond .gt 17, .iload 0, .sipush 32, .iand, .ireturn]),
  (17, [.sipush 1, .istore 1, .iload 0, .sipush 65536, .if_icmp .le 34, .iinc 1 16, .iload 0, .sipush 16, .iushr, .istore 0, .jsr 34]),
  (34, [.iload 0, .sipush 256, .if_icmp .le 49, .iinc 1 8, .iload 0, .sipush 8, .iushr, .istore 0, .jsr 49]),
  (49, [.iload 0, .sipush 16, .if_icmp .le 62, .iinc 1 4, .iload 0, .sipush 4, .iushr, .istore 0, .jsr 62]),
  (62, [.iload 0, .sipush 4, .if_icmp .le 74, .iinc 1 2, .iload 0, .sipush 2, .iushr, .istore 0, .jsr 74]),
  (74, [.iload 1, .iload 0, .sipush 1, .iushr, .iadd, .ireturn])]
abbrev m_Integer_bitCount : Nat := 186
def o_Integer_bitCount : Ops := [(0, [.iload 0, .iload 0, .sipush 1, .iushr, .sipush 1431655765, .iand, .isub, .istore 0, .iload 0, .sipush 858993459, .iand, .iload 0, .sipush 2, .iushr, .sipush 858993459, .iand, .iadd, .istore 0, .iload 0, .iload 0, .sipush 4, .iushr, .iadd, .sipush 252645135, .iand, .istore 0, .iload 0, .iload 0, .sipush 8, .iushr, .iadd, .istore 0, .iload 0, .iload 0, .sipush 16, .iushr, .iadd, .istore 0, .iload 0, .sipush 63, .iand, .ireturn])]
abbrev m_M_hangingSet : Nat := 187
def o_M_hangingSet : Ops := [(0, [.aload 0, .goto_w 31, .aload 0, .goto_w 37, .invokeinterface 172 5, .aload 0, .goto_w 31, .aload 0, .goto_w 37, .invokeinterface 183 4, .istore 1, .iload 1, .sipush (-1), .if_icmp .ne 37, .aload 0, .sipush 6, .invokeinterface 14 4, .goto 42]),
  (37, [.aload 0, .iload 1, .invokeinterface 70 4, .jsr 42]),
  (42, [.ireturn])]
abbrev m_M_chance : Nat := 188
def o_M_chance : Ops := [(0, [.aload 0, .goto_w 37, .iload 1, .invokeinterface 91 4, .ifCond .eq 29, .iload 2, .invokeinterface 124 2, .ifCond .eq 29, .iload 3, .ifCond .lt 29, .iload 3, .sipush 999, .if_icmp .le 35, .jsr 29]),
  (29, [.aload 0, .sipush 1, .invokeinterface 5 4, .freturn]),
  (35, [.aload 0, .aload 0, .goto_w 37, .iload 1, .iload 2, .iload 3, .invokeinterface 189 8, .aload 0, .goto_w 37, .getfield 5, .invokeinterface 190 2, .invokeinterface 191 7, .aload 0, .invokeinterface 7 2, .freturn])]
abbrev m_Hall_weightOfAtLeast : Nat := 189
def o_Hall_weightOfAtLeast : Ops := [(0, [.bipush 0, .lstore 4, .sipush 0, .istore 6, .jsr 6]),
  (6, [.iload 6, .sipush 1, .aload 0, .getfield 5, .ishl, .if_icmp .ge 129, .sipush 0, .istore 7, .bipush 1, .lstore 8, .sipush 0, .istore 10, .jsr 26]),
  (26, [.iload 10, .aload 0, .getfield 5, .if_icmp .ge 106, .iload 6, .iload 10, .ishr, .sipush 1, .iand, .ifCond .ne 49, .sipush 1, .goto 50]),
  (49, [.sipush 0, .jsr 50]),
  (50, [.istore 11, .iload 7, .iload 11, .ifCond .eq 63, .sipush 0, .goto 71]),
  (63, [.aload 0, .iload 10, .iload 1, .iload 2, .invokeinterface 129 8, .jsr 71]),
  (71, [.iadd, .istore 7, .lload 8, .iload 11, .ifCond .eq 89, .aload 0, .getfield 0, .i2l, .goto 97]),
  (89, [.sipush 16, .aload 0, .getfield 0, .isub, .i2l, .jsr 97]),
  (97, [.lmul, .lstore 8, .iinc 10 1, .goto 26]),
  (106, [.lload 4, .iload 7, .iload 3, .if_icmp .lt 119, .lload 8, .goto 120]),
  (119, [.bipush 0, .jsr 120]),
  (120, [.ladd, .lstore 4, .iinc 6 1, .goto 6]),
  (129, [.lload 4, .lreturn])]
abbrev m_Hall_sixteens : Nat := 190
def o_Hall_sixteens : Ops := [(0, [.bipush 1, .sipush 4, .iload 0, .imul, .lshl, .lreturn])]
abbrev m_M_tell : Nat := 191
def o_M_tell : Ops := [(0, [.lload 1, .lload 3, .invokeinterface 192 4, .lstore 5, .lload 5, .bipush 0, .lcmp, .ifCond .le 30, .aload 0, .lload 1, .lload 5, .ldiv, .putfield 1, .aload 0, .lload 3, .lload 5, .ldiv, .putfield 2, .jsr 30]),
  (30, [.return_])]
abbrev m_M_commonDivisor : Nat := 192
def o_M_commonDivisor : Ops := [(0, [.lload 0, .lstore 4, .lload 2, .lstore 6, .sipush 0, .istore 8, .jsr 9]),
  (9, [.iload 8, .sipush 200, .if_icmp .ge 45, .lload 6, .bipush 0, .lcmp, .ifCond .le 45, .lload 4, .lload 6, .lrem, .lstore 9, .lload 6, .lstore 4, .lload 9, .lstore 6, .iinc 8 1, .goto 9]),
  (45, [.lload 4, .lreturn])]
abbrev m_M_quiet : Nat := 193
def o_M_quiet : Ops := [(0, [.aload 0, .goto_w 37, .iload 1, .invokeinterface 91 4, .ifCond .ne 17, .aload 0, .sipush 1, .invokeinterface 5 4, .freturn]),
  (17, [.bipush 1, .lstore 2, .sipush 0, .istore 4, .sipush 0, .istore 5, .jsr 25]),
  (25, [.iload 5, .aload 0, .goto_w 37, .getfield 5, .if_icmp .ge 70, .aload 0, .goto_w 37, .iload 5, .iload 1, .invokeinterface 194 6, .ifCond .eq 64, .lload 2, .aload 0, .goto_w 37, .getfield 0, .i2l, .lmul, .lstore 2, .iinc 4 1, .jsr 64]),
  (64, [.iinc 5 1, .goto 25]),
  (70, [.aload 0, .lload 2, .iload 4, .invokeinterface 190 2, .invokeinterface 191 7, .aload 0, .invokeinterface 7 2, .freturn])]
abbrev m_Hall_isLoudOn : Nat := 194
def o_Hall_isLoudOn : Ops := [(0, [.aload 0, .iload 1, .iload 2, .invokeinterface 122 6, .ifCond .le 13, .sipush 1, .goto 14]),
  (13, [.sipush 0, .jsr 14]),
  (14, [.freturn])]
abbrev m_M_live : Nat := 195
def o_M_live : Ops := [(0, [.iload 1, .ifCond .lt 11, .iload 1, .sipush 9999, .if_icmp .le 17, .jsr 11]),
  (11, [.aload 0, .sipush 1, .invokeinterface 14 4, .ireturn]),
  (17, [.aload 0, .goto_w 37, .goto_w 12, .getfield 0, .ifCond .ne 37, .aload 0, .sipush 6, .invokeinterface 14 4, .ireturn]),
  (37, [.aload 0, .goto_w 12, .aload 0, .goto_w 37, .iload 1, .invokeinterface 196 7, .aload 0, .sipush 1, .putstatic 4, .aload 0, .goto_w 1, .sipush 0, .aload 0, .goto_w 12, .getfield 1, .iastore, .aload 0, .goto_w 1, .sipush 1, .aload 0, .goto_w 12, .getfield 2, .iastore, .aload 0, .goto_w 1, .sipush 2, .aload 0, .goto_w 12, .getfield 3, .iastore, .aload 0, .goto_w 1, .sipush 3, .aload 0, .goto_w 12, .getfield 4, .iastore, .aload 0, .goto_w 1, .sipush 4, .aload 0, .goto_w 12, .getfield 5, .iastore, .aload 0, .aload 0, .goto_w 12, .getfield 0, .invokeinterface 70 4, .ireturn])]
abbrev m_Life_run : Nat := 196
def o_Life_run : Ops := [(0, [.aload 0, .sipush 0, .putfield 0, .aload 0, .sipush 0, .putfield 1, .aload 0, .sipush 0, .putfield 2, .aload 0, .sipush 0, .putfield 3, .aload 0, .sipush 0, .putfield 4, .aload 0, .sipush 0, .putfield 5, .aload 0, .iload 2, .putfield 6, .aload 1, .goto_w 12, .astore 3, .sipush 0, .istore 4, .sipush 0, .istore 5, .jsr 46]),
  (46, [.iload 5, .sipush 100000, .if_icmp .ge 136, .iload 4, .aload 3, .getfield 2, .if_icmp .ge 136, .aload 3, .goto_w 1, .iload 4, .iaload, .sipush 19, .if_icmp .ne 86, .aload 0, .aload 3, .iload 4, .invokeinterface 197 6, .istore 4, .goto 130]),
  (86, [.aload 0, .getfield 0, .sipush 300, .if_icmp .lt 110, .aload 0, .sipush 1, .putfield 5, .aload 3, .getfield 2, .istore 4, .goto 130]),
  (110, [.aload 0, .dup, .getfield 0, .sipush 1, .iadd, .putfield 0, .aload 0, .aload 1, .aload 3, .iload 4, .invokeinterface 198 8, .istore 4, .jsr 130]),
  (130, [.iinc 5 1, .goto 46]),
  (136, [.return_])]
abbrev m_Life_behindEnd : Nat := 197
def o_Life_behindEnd : Ops := [(0, [.aload 1, .goto_w 7, .iload 2, .iaload, .istore 3, .aload 1, .goto_w 1, .iload 3, .iaload, .sipush 18, .if_icmp .ne 41, .aload 0, .goto_w 1, .iload 3, .dup2, .iaload, .sipush 1, .isub, .iastore, .aload 0, .goto_w 1, .iload 3, .iaload, .ifCond .le 41, .iload 3, .sipush 1, .iadd, .ireturn]),
  (41, [.iload 2, .sipush 1, .iadd, .ireturn])]
abbrev m_Life_behindStep : Nat := 198
def o_Life_behindStep : Ops := [(0, [.aload 2, .goto_w 1, .iload 3, .iaload, .lookupswitch 104 #[(15, 45), (18, 70), (20, 40)]]),
  (40, [.aload 2, .getfield 2, .ireturn]),
  (45, [.aload 0, .aload 1, .aload 2, .iload 3, .invokeinterface 199 8, .ifCond .eq 61, .iload 3, .sipush 1, .iadd, .goto 69]),
  (61, [.aload 2, .goto_w 7, .iload 3, .iaload, .sipush 1, .iadd, .jsr 69]),
  (69, [.ireturn]),
  (70, [.aload 0, .goto_w 1, .iload 3, .aload 2, .goto_w 6, .iload 3, .iaload, .iastore, .aload 2, .goto_w 7, .iload 3, .iaload, .iload 3, .sipush 1, .iadd, .if_icmp .ne 100, .iload 3, .sipush 2, .iadd, .goto 103]),
  (100, [.iload 3, .sipush 1, .iadd, .jsr 103]),
  (103, [.ireturn]),
  (104, [.aload 0, .aload 1, .aload 2, .iload 3, .invokeinterface 201 9, .iload 3, .sipush 1, .iadd, .ireturn])]
abbrev m_Life_holds : Nat := 199
def o_Life_holds : Ops := [(0, [.aload 2, .goto_w 3, .iload 3, .iaload, .istore 4, .aload 2, .goto_w 4, .iload 3, .iaload, .istore 5, .aload 2, .goto_w 2, .iload 3, .iaload, .lookupswitch 90 #[(6, 72), (16, 48)]]),
  (48, [.aload 1, .iload 4, .iload 5, .invokeinterface 128 6, .aload 2, .goto_w 5, .iload 3, .iaload, .aload 2, .goto_w 6, .iload 3, .iaload, .invokeinterface 200 6, .freturn]),
  (72, [.aload 1, .goto_w 6, .iload 4, .iaload, .iload 5, .if_icmp .ne 88, .sipush 1, .goto 89]),
  (88, [.sipush 0, .jsr 89]),
  (89, [.freturn]),
  (90, [.aload 1, .getfield 5, .aload 2, .goto_w 5, .iload 3, .iaload, .aload 2, .goto_w 6, .iload 3, .iaload, .invokeinterface 200 6, .freturn])]
abbrev m_Life_compares : Nat := 200
def o_Life_compares : Ops := [(0, [.iload 1, .lookupswitch 50 #[(60, 28), (62, 39)]]),
  (28, [.iload 0, .iload 2, .if_icmp .ge 37, .sipush 1, .goto 38]),
  (37, [.sipush 0, .jsr 38]),
  (38, [.freturn]),
  (39, [.iload 0, .iload 2, .if_icmp .le 48, .sipush 1, .goto 49]),
  (48, [.sipush 0, .jsr 49]),
  (49, [.freturn]),
  (50, [.iload 0, .iload 2, .if_icmp .ne 59, .sipush 1, .goto 60]),
  (59, [.sipush 0, .jsr 60]),
  (60, [.freturn])]
abbrev m_Life_act : Nat := 201
def o_Life_act : Ops := [(0, [.aload 2, .goto_w 1, .iload 3, .iaload, .lookupswitch 109 #[(10, 40), (11, 74), (12, 82), (13, 102), (14, 66)]]),
  (40, [.aload 0, .aload 1, .aload 2, .goto_w 3, .iload 3, .iaload, .aload 2, .goto_w 4, .iload 3, .iaload, .aload 2, .goto_w 6, .iload 3, .iaload, .invokeinterface 202 11, .goto 109]),
  (66, [.aload 0, .aload 1, .invokeinterface 203 5, .goto 109]),
  (74, [.aload 0, .aload 1, .invokeinterface 205 5, .goto 109]),
  (82, [.aload 0, .aload 1, .aload 2, .goto_w 3, .iload 3, .iaload, .aload 2, .goto_w 4, .iload 3, .iaload, .invokeinterface 206 9, .goto 109]),
  (102, [.aload 1, .invokeinterface 112 3, .goto 109]),
  (109, [.return_])]
abbrev m_Life_speak : Nat := 202
def o_Life_speak : Ops := [(0, [.aload 1, .iload 2, .iload 3, .iload 4, .invokeinterface 64 8, .ifCond .ne 24, .aload 0, .dup, .getfield 2, .sipush 1, .iadd, .putfield 2, .goto 34]),
  (24, [.aload 0, .dup, .getfield 1, .sipush 1, .iadd, .putfield 1, .jsr 34]),
  (34, [.return_])]
abbrev m_Life_speakByDraws : Nat := 203
def o_Life_speakByDraws : Ops := [(0, [.aload 1, .getfield 4, .ifCond .gt 18, .aload 0, .dup, .getfield 1, .sipush 1, .iadd, .putfield 1, .return_]),
  (18, [.aload 0, .aload 1, .getfield 4, .invokeinterface 204 4, .istore 2, .aload 0, .sipush 3, .invokeinterface 204 4, .istore 3, .aload 0, .sipush 21, .invokeinterface 204 4, .istore 4, .aload 0, .aload 1, .iload 2, .iload 3, .iload 4, .invokeinterface 202 11, .return_])]
abbrev m_Life_draw : Nat := 204
def o_Life_draw : Ops := [(0, [.aload 0, .aload 0, .getfield 6, .sipush 3203, .imul, .sipush 11437, .iadd, .sipush 65536, .irem, .putfield 6, .iload 1, .ifCond .le 35, .aload 0, .getfield 6, .sipush 8, .idiv, .iload 1, .irem, .goto 36]),
  (35, [.sipush 0, .jsr 36]),
  (36, [.ireturn])]
abbrev m_Life_strikeLast : Nat := 205
def o_Life_strikeLast : Ops := [(0, [.aload 1, .getfield 5, .ifCond .le 30, .aload 1, .aload 1, .getfield 5, .sipush 1, .isub, .invokeinterface 103 5, .aload 0, .dup, .getfield 3, .sipush 1, .iadd, .putfield 3, .goto 40]),
  (30, [.aload 0, .dup, .getfield 1, .sipush 1, .iadd, .putfield 1, .jsr 40]),
  (40, [.return_])]
abbrev m_Life_go : Nat := 206
def o_Life_go : Ops := [(0, [.aload 1, .goto_w 6, .iload 2, .iaload, .iload 3, .if_icmp .ne 23, .aload 0, .dup, .getfield 1, .sipush 1, .iadd, .putfield 1, .goto 40]),
  (23, [.aload 1, .goto_w 6, .iload 2, .iload 3, .iastore, .aload 0, .dup, .getfield 4, .sipush 1, .iadd, .putfield 4, .jsr 40]),
  (40, [.return_])]
abbrev m_M_lived : Nat := 207
def o_M_lived : Ops := [(0, [.iload 1, .ifCond .lt 13, .iload 1, .aload 0, .goto_w 1, .arraylength, .if_icmp .lt 19, .jsr 13]),
  (13, [.aload 0, .sipush 1, .invokeinterface 14 4, .ireturn]),
  (19, [.aload 0, .getfield 4, .ifCond .eq 39, .aload 0, .aload 0, .goto_w 1, .iload 1, .iaload, .invokeinterface 70 4, .goto 45]),
  (39, [.aload 0, .sipush 6, .invokeinterface 14 4, .jsr 45]),
  (45, [.ireturn])]
abbrev m_M_mean : Nat := 208
def o_M_mean : Ops := [(0, [.iload 1, .ifCond .lt 15, .iload 1, .sipush 9999, .if_icmp .gt 15, .sipush 1, .goto 16]),
  (15, [.sipush 0, .jsr 16]),
  (16, [.istore 3, .iload 2, .sipush 1, .if_icmp .lt 32, .iload 2, .sipush 20, .if_icmp .gt 32, .sipush 1, .goto 33]),
  (32, [.sipush 0, .jsr 33]),
  (33, [.istore 4, .iload 3, .ifCond .eq 55, .iload 4, .ifCond .eq 55, .iload 1, .iload 2, .iadd, .sipush 1, .isub, .sipush 9999, .if_icmp .le 61, .jsr 55]),
  (55, [.aload 0, .sipush 1, .invokeinterface 5 4, .freturn]),
  (61, [.aload 0, .goto_w 37, .goto_w 12, .getfield 0, .ifCond .ne 81, .aload 0, .sipush 6, .invokeinterface 5 4, .freturn]),
  (81, [.bipush 0, .lstore 5, .sipush 0, .istore 7, .jsr 87]),
  (87, [.iload 7, .iload 2, .if_icmp .ge 138, .aload 0, .goto_w 57, .aload 0, .goto_w 37, .invokeinterface 68 5, .aload 0, .goto_w 12, .aload 0, .goto_w 57, .iload 1, .iload 7, .iadd, .invokeinterface 196 7, .lload 5, .aload 0, .goto_w 57, .invokeinterface 120 2, .i2l, .ladd, .lstore 5, .iinc 7 1, .goto 87]),
  (138, [.aload 0, .lload 5, .iload 2, .i2l, .invokeinterface 191 7, .aload 0, .invokeinterface 7 2, .freturn])]
abbrev m_M_mark : Nat := 209
def o_M_mark : Ops := [(0, [.aload 0, .getfield 3, .sipush 3, .if_icmp .lt 14, .aload 0, .sipush 4, .invokeinterface 14 4, .ireturn]),
  (14, [.aload 0, .aload 0, .getfield 3, .invokeinterface 210 4, .aload 0, .goto_w 37, .invokeinterface 68 5, .aload 0, .dup, .getfield 3, .sipush 1, .iadd, .putfield 3, .aload 0, .aload 0, .getfield 3, .invokeinterface 70 4, .ireturn])]
abbrev m_M_markAt : Nat := 210
def o_M_markAt : Ops := [(0, [.iload 1, .ifCond .ne 9, .aload 0, .goto_w 77, .areturn]),
  (9, [.iload 1, .sipush 1, .if_icmp .ne 21, .aload 0, .goto_w 97, .goto 25]),
  (21, [.aload 0, .goto_w 117, .jsr 25]),
  (25, [.areturn])]
abbrev m_M_undo : Nat := 211
def o_M_undo : Ops := [(0, [.aload 0, .getfield 3, .ifCond .gt 14, .aload 0, .sipush 6, .invokeinterface 14 4, .ireturn]),
  (14, [.aload 0, .dup, .getfield 3, .sipush 1, .isub, .putfield 3, .aload 0, .goto_w 37, .aload 0, .aload 0, .getfield 3, .invokeinterface 210 4, .invokeinterface 68 5, .aload 0, .aload 0, .getfield 3, .invokeinterface 70 4, .ireturn])]
abbrev m_R_plain : Nat := 212
def o_R_plain : Ops := [(0, [.sipush 0, .istore 2, .jsr 2]),
  (2, [.iload 2, .sipush 868, .if_icmp .ge 24, .aload 0, .goto_w 1, .iload 1, .iload 2, .iadd, .sipush 0, .iastore, .iinc 2 1, .goto 2]),
  (24, [.aload 0, .goto_w 1, .iload 1, .sipush 5, .iadd, .sipush 4, .iastore, .aload 0, .goto_w 1, .iload 1, .sipush 7, .iadd, .sipush (-1), .iastore, .return_])]
abbrev m_R_status : Nat := 213
def o_R_status : Ops := [(0, [.aload 0, .getfield 2, .ireturn])]
abbrev m_R_top : Nat := 214
def o_R_top : Ops := [(0, [.aload 0, .getfield 3, .lreturn])]
abbrev m_R_bottom : Nat := 215
def o_R_bottom : Ops := [(0, [.aload 0, .getfield 4, .lreturn])]
abbrev m_R_tray : Nat := 216
def o_R_tray : Ops := [(0, [.iload 1, .invokeinterface 217 2, .ifCond .eq 26, .iload 2, .ifCond .lt 26, .iload 2, .sipush 3, .if_icmp .gt 26, .iload 3, .ifCond .lt 26, .iload 3, .sipush 60, .if_icmp .le 32, .jsr 26]),
  (26, [.aload 0, .sipush 1, .invokeinterface 218 4, .freturn]),
  (32, [.aload 0, .goto_w 3, .iload 1, .iload 2, .iastore, .aload 0, .goto_w 4, .iload 1, .iload 3, .iastore, .sipush 0, .istore 4, .jsr 49]),
  (49, [.iload 4, .iload 3, .if_icmp .ge 74, .aload 0, .goto_w 5, .sipush 60, .iload 1, .imul, .iload 4, .iadd, .bipush 0, .lastore, .iinc 4 1, .goto 49]),
  (74, [.aload 0, .sipush 0, .invokeinterface 218 4, .freturn])]
abbrev m_R_isTray : Nat := 217
def o_R_isTray : Ops := [(0, [.iload 0, .ifCond .lt 13, .iload 0, .sipush 4, .if_icmp .ge 13, .sipush 1, .goto 14]),
  (13, [.sipush 0, .jsr 14]),
  (14, [.freturn])]
abbrev m_R_is : Nat := 218
def o_R_is : Ops := [(0, [.aload 0, .iload 1, .putfield 2, .iload 1, .ifCond .ne 13, .sipush 1, .goto 14]),
  (13, [.sipush 0, .jsr 14]),
  (14, [.freturn])]
abbrev m_R_write : Nat := 219
def o_R_write : Ops := [(0, [.aload 0, .iload 1, .iload 2, .invokeinterface 220 6, .istore 5, .iload 5, .ifCond .ne 34, .aload 0, .goto_w 5, .sipush 60, .iload 1, .imul, .iload 2, .iadd, .lload 3, .aload 0, .goto_w 3, .iload 1, .iaload, .invokeinterface 221 4, .lastore, .jsr 34]),
  (34, [.aload 0, .iload 5, .invokeinterface 218 4, .freturn])]
abbrev m_R_wrongPlace : Nat := 220
def o_R_wrongPlace : Ops := [(0, [.iload 1, .invokeinterface 217 2, .ifCond .ne 11, .sipush 1, .goto 44]),
  (11, [.aload 0, .goto_w 4, .iload 1, .iaload, .sipush (-1), .if_icmp .ne 25, .sipush 2, .goto 44]),
  (25, [.iload 2, .ifCond .lt 39, .iload 2, .aload 0, .goto_w 4, .iload 1, .iaload, .if_icmp .lt 43, .jsr 39]),
  (39, [.sipush 3, .goto 44]),
  (43, [.sipush 0, .jsr 44]),
  (44, [.ireturn])]
abbrev m_R_cut : Nat := 221
def o_R_cut : Ops := [(0, [.iload 2, .ifCond .ne 11, .lload 0, .l2i, .i2b, .i2l, .goto 35]),
  (11, [.iload 2, .sipush 1, .if_icmp .ne 23, .lload 0, .l2i, .i2s, .i2l, .goto 35]),
  (23, [.iload 2, .sipush 2, .if_icmp .ne 34, .lload 0, .l2i, .i2l, .goto 35]),
  (34, [.lload 0, .jsr 35]),
  (35, [.lreturn])]
abbrev m_R_read : Nat := 222
def o_R_read : Ops := [(0, [.aload 0, .aload 0, .iload 1, .iload 2, .invokeinterface 220 6, .putfield 2, .aload 0, .getfield 2, .ifCond .le 23, .bipush (-1), .goto 34]),
  (23, [.aload 0, .goto_w 5, .sipush 60, .iload 1, .imul, .iload 2, .iadd, .laload, .jsr 34]),
  (34, [.lreturn])]
abbrev m_R_pour : Nat := 223
def o_R_pour : Ops := [(0, [.iload 1, .invokeinterface 217 2, .ifCond .eq 28, .iload 3, .invokeinterface 217 2, .ifCond .eq 28, .iload 2, .ifCond .lt 28, .iload 4, .ifCond .lt 28, .iload 5, .ifCond .ge 34, .jsr 28]),
  (28, [.aload 0, .sipush 1, .invokeinterface 218 4, .freturn]),
  (34, [.aload 0, .goto_w 4, .iload 1, .iaload, .sipush (-1), .if_icmp .eq 54, .aload 0, .goto_w 4, .iload 3, .iaload, .sipush (-1), .if_icmp .ne 60, .jsr 54]),
  (54, [.aload 0, .sipush 2, .invokeinterface 218 4, .freturn]),
  (60, [.aload 0, .goto_w 3, .iload 1, .iaload, .aload 0, .goto_w 3, .iload 3, .iaload, .if_icmp .eq 82, .aload 0, .sipush 8, .invokeinterface 218 4, .freturn]),
  (82, [.iload 5, .aload 0, .goto_w 4, .iload 1, .iaload, .iload 2, .isub, .if_icmp .gt 109, .iload 5, .aload 0, .goto_w 4, .iload 3, .iaload, .iload 4, .isub, .if_icmp .le 115, .jsr 109]),
  (109, [.aload 0, .sipush 3, .invokeinterface 218 4, .freturn]),
  (115, [.sipush 0, .istore 6, .jsr 118]),
  (118, [.iload 6, .iload 5, .if_icmp .ge 180, .iload 2, .iload 4, .if_icmp .ge 141, .iload 5, .sipush 1, .isub, .iload 6, .isub, .goto 143]),
  (141, [.iload 6, .jsr 143]),
  (143, [.istore 7, .aload 0, .goto_w 5, .sipush 60, .iload 3, .imul, .iload 4, .iadd, .iload 7, .iadd, .aload 0, .goto_w 5, .sipush 60, .iload 1, .imul, .iload 2, .iadd, .iload 7, .iadd, .laload, .lastore, .iinc 6 1, .goto 118]),
  (180, [.aload 0, .sipush 0, .invokeinterface 218 4, .freturn])]
abbrev m_R_feed : Nat := 224
def o_R_feed : Ops := [(0, [.aload 0, .getfield 10, .sipush 20, .iadd, .sipush 900, .if_icmp .le 15, .sipush (-1), .ireturn]),
  (15, [.aload 0, .iload 1, .invokeinterface 225 5, .aload 0, .iload 2, .invokeinterface 225 5, .aload 0, .iload 3, .invokeinterface 225 5, .aload 0, .iload 4, .invokeinterface 225 5, .aload 0, .iload 5, .invokeinterface 225 5, .aload 0, .getfield 10, .ireturn])]
abbrev m_R_four : Nat := 225
def o_R_four : Ops := [(0, [.sipush 24, .istore 2, .jsr 3]),
  (3, [.iload 2, .ifCond .lt 36, .aload 0, .goto_w 6, .aload 0, .getfield 10, .iload 1, .iload 2, .ishr, .i2b, .bastore, .aload 0, .dup, .getfield 10, .sipush 1, .iadd, .putfield 10, .iinc 2 (-8), .goto 3]),
  (36, [.return_])]
abbrev m_R_fault : Nat := 226
def o_R_fault : Ops := [(0, [.iload 1, .ifCond .ne 11, .aload 0, .getfield 16, .goto 24]),
  (11, [.iload 1, .sipush 1, .if_icmp .ne 23, .aload 0, .getfield 17, .goto 24]),
  (23, [.sipush (-1), .jsr 24]),
  (24, [.ireturn])]
abbrev m_R_hall : Nat := 227
def o_R_hall : Ops := [(0, [.aload 0, .iload 1, .sipush 900, .invokeinterface 228 6, .ifCond .ne 17, .aload 0, .sipush 1, .invokeinterface 233 4, .ireturn]),
  (17, [.aload 0, .sipush 3472, .invokeinterface 212 5, .aload 0, .sipush 0, .putfield 20, .sipush 1, .istore 2, .jsr 31]),
  (31, [.iload 2, .ifCond .eq 50, .aload 0, .getfield 12, .ifCond .eq 50, .aload 0, .invokeinterface 234 2, .istore 2, .goto 31]),
  (50, [.aload 0, .getfield 18, .ifCond .ne 117, .sipush 0, .istore 3, .jsr 59]),
  (59, [.iload 3, .sipush 868, .if_icmp .ge 88, .aload 0, .goto_w 1, .iload 3, .aload 0, .goto_w 1, .sipush 3472, .iload 3, .iadd, .iaload, .iastore, .iinc 3 1, .goto 59]),
  (88, [.sipush 0, .istore 3, .jsr 90]),
  (90, [.iload 3, .sipush 16, .if_icmp .ge 117, .aload 0, .goto_w 2, .iload 3, .aload 0, .goto_w 2, .sipush 64, .iload 3, .iadd, .laload, .lastore, .iinc 3 1, .goto 90]),
  (117, [.aload 0, .aload 0, .goto_w 1, .sipush 3, .iaload, .invokeinterface 260 4, .ireturn])]
abbrev m_R_begins : Nat := 228
def o_R_begins : Ops := [(0, [.iload 1, .ifCond .lt 17, .iload 1, .aload 0, .getfield 10, .if_icmp .gt 17, .iload 1, .iload 2, .if_icmp .le 19, .jsr 17]),
  (17, [.sipush 0, .freturn]),
  (19, [.aload 0, .iload 1, .putfield 11, .sipush 0, .istore 3, .jsr 26]),
  (26, [.iload 3, .iload 1, .if_icmp .ge 49, .aload 0, .goto_w 7, .iload 3, .aload 0, .goto_w 6, .iload 3, .baload, .bastore, .iinc 3 1, .goto 26]),
  (49, [.aload 0, .sipush 0, .putfield 10, .aload 0, .sipush 0, .putfield 18, .aload 0, .sipush (-1), .putfield 17, .aload 0, .sipush 0, .putfield 14, .aload 0, .sipush 0, .putfield 19, .aload 0, .invokeinterface 229 3, .sipush 1, .freturn])]
abbrev m_R_ahead : Nat := 229
def o_R_ahead : Ops := [(0, [.aload 0, .aload 0, .getfield 14, .invokeinterface 230 4, .sipush 32, .if_icmp .eq 26, .aload 0, .aload 0, .getfield 14, .invokeinterface 230 4, .sipush 10, .if_icmp .ne 39, .jsr 26]),
  (26, [.aload 0, .dup, .getfield 14, .sipush 1, .iadd, .putfield 14, .goto 0]),
  (39, [.aload 0, .aload 0, .getfield 14, .putfield 13, .aload 0, .aload 0, .getfield 14, .invokeinterface 230 4, .istore 1, .aload 0, .iload 1, .putfield 15, .iload 1, .sipush (-1), .if_icmp .ne 74, .aload 0, .sipush 0, .putfield 12, .goto 251]),
  (74, [.iload 1, .invokeinterface 231 2, .ifCond .eq 116, .jsr 81]),
  (81, [.aload 0, .aload 0, .getfield 14, .invokeinterface 230 4, .invokeinterface 231 2, .ifCond .eq 108, .aload 0, .dup, .getfield 14, .sipush 1, .iadd, .putfield 14, .goto 81]),
  (108, [.aload 0, .sipush 2, .putfield 12, .goto 251]),
  (116, [.iload 1, .invokeinterface 232 2, .ifCond .eq 208, .aload 0, .sipush 0, .putfield 15, .jsr 128]),
  (128, [.aload 0, .aload 0, .getfield 14, .invokeinterface 230 4, .invokeinterface 232 2, .ifCond .eq 183, .aload 0, .sipush 100000, .sipush 10, .aload 0, .getfield 15, .imul, .aload 0, .aload 0, .getfield 14, .invokeinterface 230 4, .iadd, .sipush 48, .isub, .fmul, .putfield 15, .aload 0, .dup, .getfield 14, .sipush 1, .iadd, .putfield 14, .goto 128]),
  (183, [.aload 0, .aload 0, .getfield 14, .aload 0, .getfield 13, .isub, .sipush 4, .if_icmp .le 201, .sipush 1, .goto 202]),
  (201, [.sipush 3, .jsr 202]),
  (202, [.putfield 12, .goto 251]),
  (208, [.aload 0, .dup, .getfield 14, .sipush 1, .iadd, .putfield 14, .aload 0, .iload 1, .sipush 59, .if_icmp .eq 243, .iload 1, .sipush 60, .if_icmp .eq 243, .iload 1, .sipush 62, .if_icmp .eq 243, .iload 1, .sipush 61, .if_icmp .ne 247, .jsr 243]),
  (243, [.sipush 4, .goto 248]),
  (247, [.sipush 1, .jsr 248]),
  (248, [.putfield 12, .jsr 251]),
  (251, [.return_])]
abbrev m_R_byteAt : Nat := 230
def o_R_byteAt : Ops := [(0, [.iload 1, .aload 0, .getfield 11, .if_icmp .ge 21, .aload 0, .goto_w 7, .iload 1, .baload, .sipush 255, .iand, .goto 22]),
  (21, [.sipush (-1), .jsr 22]),
  (22, [.ireturn])]
abbrev m_R_isSmall : Nat := 231
def o_R_isSmall : Ops := [(0, [.iload 0, .sipush 97, .if_icmp .lt 16, .iload 0, .sipush 122, .if_icmp .gt 16, .sipush 1, .goto 17]),
  (16, [.sipush 0, .jsr 17]),
  (17, [.freturn])]
abbrev m_R_isDigit : Nat := 232
def o_R_isDigit : Ops := [(0, [.iload 0, .sipush 48, .if_icmp .lt 16, .iload 0, .sipush 57, .if_icmp .gt 16, .sipush 1, .goto 17]),
  (16, [.sipush 0, .jsr 17]),
  (17, [.freturn])]
abbrev m_R_refuse : Nat := 233
def o_R_refuse : Ops := [(0, [.aload 0, .iload 1, .putfield 2, .sipush (-1), .ireturn])]
abbrev m_R_hallPart : Nat := 234
def o_R_hallPart : Ops := [(0, [.aload 0, .ldc 0, .invokeinterface 235 4, .istore 1, .iload 1, .ifCond .lt 17, .iload 1, .sipush 6, .if_icmp .le 23, .jsr 17]),
  (17, [.aload 0, .sipush 2, .invokeinterface 236 4, .freturn]),
  (23, [.iload 1, .ifCond .ne 41, .aload 0, .getfield 20, .sipush 1, .if_icmp .ne 41, .aload 0, .sipush 5, .invokeinterface 236 4, .freturn]),
  (41, [.iload 1, .ifCond .ne 54, .aload 0, .sipush 1, .putfield 20, .aload 0, .invokeinterface 229 3, .jsr 54]),
  (54, [.iload 1, .lookupswitch 146 #[(0, 92), (1, 106), (2, 114), (3, 122), (4, 130), (5, 138)]]),
  (92, [.aload 0, .sipush 3477, .sipush 0, .sipush 16, .invokeinterface 237 8, .istore 2, .goto 151]),
  (106, [.aload 0, .invokeinterface 238 2, .istore 2, .goto 151]),
  (114, [.aload 0, .invokeinterface 245 2, .istore 2, .goto 151]),
  (122, [.aload 0, .invokeinterface 251 2, .istore 2, .goto 151]),
  (130, [.aload 0, .invokeinterface 252 2, .istore 2, .goto 151]),
  (138, [.aload 0, .invokeinterface 254 2, .istore 2, .goto 151]),
  (146, [.aload 0, .invokeinterface 256 2, .istore 2, .jsr 151]),
  (151, [.iload 2, .ifCond .eq 168, .aload 0, .sipush 59, .invokeinterface 258 4, .ifCond .eq 168, .sipush 1, .goto 169]),
  (168, [.sipush 0, .jsr 169]),
  (169, [.freturn])]
abbrev m_R_inWords : Nat := 235
def o_R_inWords : Ops := [(0, [.aload 0, .getfield 12, .sipush 2, .if_icmp .eq 10, .sipush (-1), .ireturn]),
  (10, [.sipush 0, .istore 2, .sipush 1, .istore 3, .jsr 14]),
  (14, [.iload 3, .aload 1, .l2f, .if_icmp .ge 133, .iload 3, .istore 4, .jsr 25]),
  (25, [.aload 1, .iload 4, .f2d, .sipush 32, .if_icmp .eq 42, .iinc 4 1, .goto 25]),
  (42, [.iload 4, .iload 3, .isub, .aload 0, .getfield 14, .aload 0, .getfield 13, .isub, .if_icmp .ne 62, .sipush 1, .goto 63]),
  (62, [.sipush 0, .jsr 63]),
  (63, [.istore 5, .iload 3, .istore 6, .jsr 68]),
  (68, [.iload 6, .iload 4, .if_icmp .ge 115, .iload 5, .ifCond .eq 115, .aload 1, .iload 6, .f2d, .aload 0, .aload 0, .getfield 13, .iload 6, .iadd, .iload 3, .isub, .invokeinterface 230 4, .if_icmp .ne 106, .sipush 1, .goto 107]),
  (106, [.sipush 0, .jsr 107]),
  (107, [.istore 5, .iinc 6 1, .goto 68]),
  (115, [.iload 5, .ifCond .eq 122, .iload 2, .ireturn]),
  (122, [.iinc 2 1, .iload 4, .sipush 1, .iadd, .istore 3, .goto 14]),
  (133, [.sipush (-1), .ireturn])]
abbrev m_R_fails : Nat := 236
def o_R_fails : Ops := [(0, [.aload 0, .getfield 18, .ifCond .ne 32, .aload 0, .aload 0, .getfield 12, .sipush 1, .if_icmp .ne 20, .sipush 1, .goto 21]),
  (20, [.iload 1, .jsr 21]),
  (21, [.putfield 18, .aload 0, .aload 0, .getfield 13, .putfield 17, .jsr 32]),
  (32, [.sipush 0, .freturn])]
abbrev m_R_number : Nat := 237
def o_R_number : Ops := [(0, [.aload 0, .getfield 12, .sipush 3, .if_icmp .eq 14, .aload 0, .sipush 2, .invokeinterface 236 4, .freturn]),
  (14, [.aload 0, .getfield 15, .iload 2, .if_icmp .lt 30, .aload 0, .getfield 15, .iload 3, .if_icmp .le 36, .jsr 30]),
  (30, [.aload 0, .sipush 4, .invokeinterface 236 4, .freturn]),
  (36, [.aload 0, .goto_w 1, .iload 1, .aload 0, .getfield 15, .iastore, .aload 0, .invokeinterface 229 3, .sipush 1, .freturn])]
abbrev m_R_aPlace : Nat := 238
def o_R_aPlace : Ops := [(0, [.aload 0, .sipush 0, .sipush 7, .sipush 0, .invokeinterface 239 8, .ifCond .ne 13, .sipush 0, .freturn]),
  (13, [.aload 0, .goto_w 1, .sipush 3472, .dup2, .iaload, .sipush 1, .iadd, .iastore, .sipush 1, .freturn])]
abbrev m_R_newOne : Nat := 239
def o_R_newOne : Ops := [(0, [.aload 0, .iload 1, .iload 2, .invokeinterface 240 6, .ifCond .eq 16, .aload 0, .sipush 6, .invokeinterface 236 4, .freturn]),
  (16, [.aload 0, .invokeinterface 229 3, .aload 0, .ldc 0, .invokeinterface 241 4, .ifCond .ne 35, .aload 0, .sipush 2, .invokeinterface 236 4, .freturn]),
  (35, [.aload 0, .invokeinterface 242 2, .ifCond .eq 48, .aload 0, .sipush 3, .invokeinterface 236 4, .freturn]),
  (48, [.aload 0, .goto_w 2, .sipush 64, .iload 3, .iadd, .aload 0, .goto_w 1, .sipush 3472, .iload 1, .iadd, .iaload, .iadd, .aload 0, .invokeinterface 244 2, .lastore, .aload 0, .invokeinterface 229 3, .sipush 1, .freturn])]
abbrev m_R_isFull : Nat := 240
def o_R_isFull : Ops := [(0, [.aload 0, .goto_w 1, .sipush 3472, .iload 1, .iadd, .iaload, .iload 2, .if_icmp .ne 18, .sipush 1, .goto 19]),
  (18, [.sipush 0, .jsr 19]),
  (19, [.freturn])]
abbrev m_R_isName : Nat := 241
def o_R_isName : Ops := [(0, [.aload 0, .getfield 12, .sipush 2, .if_icmp .ne 35, .aload 0, .getfield 14, .aload 0, .getfield 13, .isub, .sipush 8, .if_icmp .gt 35, .aload 0, .aload 1, .invokeinterface 235 4, .sipush (-1), .if_icmp .ne 35, .sipush 1, .goto 36]),
  (35, [.sipush 0, .jsr 36]),
  (36, [.freturn])]
abbrev m_R_isOld : Nat := 242
def o_R_isOld : Ops := [(0, [.aload 0, .sipush 64, .aload 0, .goto_w 1, .sipush 3472, .iaload, .invokeinterface 243 6, .sipush (-1), .if_icmp .ne 36, .aload 0, .sipush 71, .aload 0, .goto_w 1, .sipush 3474, .iaload, .invokeinterface 243 6, .sipush (-1), .if_icmp .eq 38, .jsr 36]),
  (36, [.sipush 1, .freturn]),
  (38, [.aload 0, .sipush 75, .aload 0, .goto_w 1, .sipush 3475, .iaload, .invokeinterface 243 6, .sipush (-1), .if_icmp .eq 60, .sipush 1, .goto 61]),
  (60, [.sipush 0, .jsr 61]),
  (61, [.freturn])]
abbrev m_R_findHere : Nat := 243
def o_R_findHere : Ops := [(0, [.sipush 0, .istore 3, .jsr 2]),
  (2, [.iload 3, .iload 2, .if_icmp .ge 31, .aload 0, .goto_w 2, .iload 1, .iload 3, .iadd, .laload, .aload 0, .invokeinterface 244 2, .lcmp, .ifCond .ne 25, .iload 3, .ireturn]),
  (25, [.iinc 3 1, .goto 2]),
  (31, [.sipush (-1), .ireturn])]
abbrev m_R_nameHere : Nat := 244
def o_R_nameHere : Ops := [(0, [.bipush 0, .lstore 1, .aload 0, .getfield 13, .istore 3, .jsr 7]),
  (7, [.iload 3, .aload 0, .getfield 14, .if_icmp .ge 33, .lload 1, .sipush 8, .lshl, .aload 0, .iload 3, .invokeinterface 230 4, .i2l, .lor, .lstore 1, .iinc 3 1, .goto 7]),
  (33, [.lload 1, .lreturn])]
abbrev m_R_aWay : Nat := 245
def o_R_aWay : Ops := [(0, [.aload 0, .sipush 1, .sipush 10, .invokeinterface 240 6, .ifCond .eq 17, .aload 0, .sipush 6, .invokeinterface 236 4, .freturn]),
  (17, [.sipush 3472, .aload 0, .goto_w 1, .sipush 3473, .iaload, .invokeinterface 246 2, .iadd, .istore 1, .aload 0, .invokeinterface 229 3, .aload 0, .iload 1, .invokeinterface 247 4, .ifCond .ne 47, .sipush 0, .freturn]),
  (47, [.aload 0, .ldc 0, .invokeinterface 241 4, .ifCond .eq 85, .aload 0, .sipush 64, .aload 0, .goto_w 1, .sipush 3472, .iaload, .invokeinterface 243 6, .aload 0, .goto_w 1, .iload 1, .iaload, .if_icmp .ne 85, .aload 0, .sipush 5, .invokeinterface 236 4, .freturn]),
  (85, [.aload 0, .iload 1, .sipush 1, .iadd, .invokeinterface 247 4, .ifCond .eq 119, .aload 0, .ldc 0, .sipush 7, .invokeinterface 249 6, .ifCond .eq 119, .aload 0, .iload 1, .sipush 2, .iadd, .sipush 1, .sipush 9, .invokeinterface 237 8, .ifCond .ne 121, .jsr 119]),
  (119, [.sipush 0, .freturn]),
  (121, [.aload 0, .goto_w 1, .iload 1, .sipush 3, .iadd, .sipush 0, .iastore, .aload 0, .sipush 8, .invokeinterface 250 4, .ifCond .eq 154, .aload 0, .iload 1, .sipush 3, .iadd, .sipush 0, .sipush 9, .invokeinterface 237 8, .ifCond .ne 154, .sipush 0, .freturn]),
  (154, [.aload 0, .goto_w 1, .sipush 3473, .dup2, .iaload, .sipush 1, .iadd, .iastore, .sipush 1, .freturn])]
abbrev m_R_wayRow : Nat := 246
def o_R_wayRow : Ops := [(0, [.sipush 10, .sipush 4, .iload 0, .imul, .iadd, .ireturn])]
abbrev m_R_newPlaceTo : Nat := 247
def o_R_newPlaceTo : Ops := [(0, [.aload 0, .sipush 64, .aload 0, .goto_w 1, .sipush 3472, .iaload, .iload 1, .invokeinterface 248 8, .freturn])]
abbrev m_R_oldOne : Nat := 248
def o_R_oldOne : Ops := [(0, [.aload 0, .ldc 0, .invokeinterface 241 4, .ifCond .ne 15, .aload 0, .sipush 2, .invokeinterface 236 4, .freturn]),
  (15, [.aload 0, .goto_w 1, .iload 3, .aload 0, .iload 1, .iload 2, .invokeinterface 243 6, .iastore, .aload 0, .goto_w 1, .iload 3, .iaload, .sipush (-1), .if_icmp .ne 43, .aload 0, .sipush 3, .invokeinterface 236 4, .freturn]),
  (43, [.aload 0, .invokeinterface 229 3, .sipush 1, .freturn])]
abbrev m_R_wantWord : Nat := 249
def o_R_wantWord : Ops := [(0, [.aload 0, .aload 1, .invokeinterface 235 4, .iload 2, .if_icmp .eq 15, .aload 0, .sipush 2, .invokeinterface 236 4, .freturn]),
  (15, [.aload 0, .invokeinterface 229 3, .sipush 1, .freturn])]
abbrev m_R_isThere : Nat := 250
def o_R_isThere : Ops := [(0, [.aload 0, .ldc 0, .invokeinterface 235 4, .iload 1, .if_icmp .eq 12, .sipush 0, .freturn]),
  (12, [.aload 0, .invokeinterface 229 3, .sipush 1, .freturn])]
abbrev m_R_aSlate : Nat := 251
def o_R_aSlate : Ops := [(0, [.aload 0, .sipush 2, .sipush 4, .sipush 7, .invokeinterface 239 8, .ifCond .eq 41, .aload 0, .ldc 0, .sipush 9, .invokeinterface 249 6, .ifCond .eq 41, .aload 0, .sipush 3522, .aload 0, .goto_w 1, .sipush 3474, .iaload, .iadd, .invokeinterface 247 4, .ifCond .ne 43, .jsr 41]),
  (41, [.sipush 0, .freturn]),
  (43, [.aload 0, .goto_w 1, .sipush 3474, .dup2, .iaload, .sipush 1, .iadd, .iastore, .sipush 1, .freturn])]
abbrev m_R_aCaller : Nat := 252
def o_R_aCaller : Ops := [(0, [.aload 0, .sipush 3, .sipush 5, .sipush 11, .invokeinterface 239 8, .ifCond .eq 44, .aload 0, .ldc 0, .sipush 9, .invokeinterface 249 6, .ifCond .eq 44, .aload 0, .sipush 3472, .aload 0, .goto_w 1, .sipush 3475, .iaload, .invokeinterface 253 2, .iadd, .invokeinterface 247 4, .ifCond .ne 46, .jsr 44]),
  (44, [.sipush 0, .freturn]),
  (46, [.aload 0, .goto_w 1, .sipush 3475, .dup2, .iaload, .sipush 1, .iadd, .iastore, .sipush 1, .freturn])]
abbrev m_R_callerRow : Nat := 253
def o_R_callerRow : Ops := [(0, [.sipush 54, .sipush 11, .iload 0, .imul, .iadd, .ireturn])]
abbrev m_R_aCry : Nat := 254
def o_R_aCry : Ops := [(0, [.sipush 4332, .istore 1, .aload 0, .invokeinterface 229 3, .aload 0, .ldc 0, .invokeinterface 241 4, .ifCond .eq 63, .aload 0, .sipush 75, .aload 0, .goto_w 1, .sipush 3475, .iaload, .invokeinterface 243 6, .istore 2, .iload 2, .sipush (-1), .if_icmp .eq 63, .aload 0, .goto_w 1, .sipush 3472, .iload 2, .invokeinterface 253 2, .iadd, .sipush 1, .iadd, .iaload, .sipush 3, .if_icmp .ne 63, .aload 0, .sipush 6, .invokeinterface 236 4, .freturn]),
  (63, [.aload 0, .iload 1, .invokeinterface 255 4, .ifCond .ne 73, .sipush 0, .freturn]),
  (73, [.sipush 3472, .aload 0, .goto_w 1, .iload 1, .iaload, .invokeinterface 253 2, .iadd, .istore 2, .iload 2, .sipush 2, .iadd, .sipush 3, .aload 0, .goto_w 1, .iload 2, .sipush 1, .iadd, .iaload, .imul, .iadd, .istore 3, .aload 0, .iload 3, .sipush 1, .sipush 99, .invokeinterface 237 8, .ifCond .ne 115, .sipush 0, .freturn]),
  (115, [.sipush 1, .istore 4, .jsr 118]),
  (118, [.iload 4, .sipush 3, .if_icmp .ge 154, .aload 0, .getfield 12, .sipush 3, .if_icmp .ne 148, .aload 0, .iload 3, .iload 4, .iadd, .sipush 1, .sipush 99, .invokeinterface 237 8, .ifCond .ne 148, .sipush 0, .freturn]),
  (148, [.iinc 4 1, .goto 118]),
  (154, [.aload 0, .goto_w 1, .iload 2, .sipush 1, .iadd, .dup2, .iaload, .sipush 1, .iadd, .iastore, .sipush 1, .freturn])]
abbrev m_R_newCallerTo : Nat := 255
def o_R_newCallerTo : Ops := [(0, [.aload 0, .sipush 75, .aload 0, .goto_w 1, .sipush 3475, .iaload, .iload 1, .invokeinterface 248 8, .freturn])]
abbrev m_R_aCall : Nat := 256
def o_R_aCall : Ops := [(0, [.aload 0, .sipush 4, .sipush 8, .invokeinterface 240 6, .ifCond .eq 17, .aload 0, .sipush 6, .invokeinterface 236 4, .freturn]),
  (17, [.sipush 3472, .aload 0, .goto_w 1, .sipush 3476, .iaload, .invokeinterface 257 2, .iadd, .istore 1, .aload 0, .invokeinterface 229 3, .aload 0, .iload 1, .invokeinterface 255 4, .ifCond .eq 89, .aload 0, .iload 1, .sipush 1, .iadd, .sipush 0, .aload 0, .goto_w 1, .sipush 3472, .aload 0, .goto_w 1, .iload 1, .iaload, .invokeinterface 253 2, .iadd, .sipush 1, .iadd, .iaload, .sipush 1, .isub, .invokeinterface 237 8, .ifCond .eq 89, .aload 0, .ldc 0, .sipush 9, .invokeinterface 249 6, .ifCond .ne 91, .jsr 89]),
  (89, [.sipush 0, .freturn]),
  (91, [.sipush 0, .istore 2, .jsr 93]),
  (93, [.iload 2, .aload 0, .goto_w 1, .sipush 3476, .iaload, .if_icmp .ge 183, .aload 0, .getfield 12, .sipush 3, .if_icmp .ne 183, .sipush 3472, .iload 2, .invokeinterface 257 2, .iadd, .istore 3, .aload 0, .goto_w 1, .iload 3, .iaload, .aload 0, .goto_w 1, .iload 1, .iaload, .if_icmp .ne 177, .aload 0, .goto_w 1, .iload 3, .sipush 1, .iadd, .iaload, .aload 0, .goto_w 1, .iload 1, .sipush 1, .iadd, .iaload, .if_icmp .ne 177, .aload 0, .goto_w 1, .iload 3, .sipush 2, .iadd, .iaload, .aload 0, .getfield 15, .if_icmp .ne 177, .aload 0, .sipush 5, .invokeinterface 236 4, .freturn]),
  (177, [.iinc 2 1, .goto 93]),
  (183, [.aload 0, .iload 1, .sipush 2, .iadd, .sipush 0, .sipush 20, .invokeinterface 237 8, .ifCond .ne 198, .sipush 0, .freturn]),
  (198, [.aload 0, .goto_w 1, .sipush 3476, .dup2, .iaload, .sipush 1, .iadd, .iastore, .sipush 1, .freturn])]
abbrev m_R_callRow : Nat := 257
def o_R_callRow : Ops := [(0, [.sipush 109, .sipush 3, .iload 0, .imul, .iadd, .ireturn])]
abbrev m_R_wantSign : Nat := 258
def o_R_wantSign : Ops := [(0, [.aload 0, .iload 1, .invokeinterface 259 4, .ifCond .ne 14, .aload 0, .sipush 2, .invokeinterface 236 4, .freturn]),
  (14, [.aload 0, .invokeinterface 229 3, .sipush 1, .freturn])]
abbrev m_R_isSign : Nat := 259
def o_R_isSign : Ops := [(0, [.aload 0, .getfield 12, .sipush 4, .if_icmp .ne 20, .aload 0, .getfield 15, .iload 1, .if_icmp .ne 20, .sipush 1, .goto 21]),
  (20, [.sipush 0, .jsr 21]),
  (21, [.freturn])]
abbrev m_R_taken : Nat := 260
def o_R_taken : Ops := [(0, [.aload 0, .aload 0, .getfield 18, .putfield 16, .aload 0, .getfield 18, .ifCond .le 24, .aload 0, .sipush 9, .invokeinterface 233 4, .goto 29]),
  (24, [.aload 0, .iload 1, .invokeinterface 261 4, .jsr 29]),
  (29, [.ireturn])]
abbrev m_R_gives : Nat := 261
def o_R_gives : Ops := [(0, [.aload 0, .sipush 0, .putfield 2, .iload 1, .ireturn])]
abbrev m_R_mornings : Nat := 262
def o_R_mornings : Ops := [(0, [.aload 0, .iload 1, .sipush 300, .invokeinterface 228 6, .ifCond .ne 17, .aload 0, .sipush 1, .invokeinterface 233 4, .ireturn]),
  (17, [.aload 0, .goto_w 1, .sipush 3479, .sipush 0, .iastore, .aload 0, .sipush 0, .putfield 22, .aload 0, .sipush 0, .putfield 23, .sipush 1, .istore 2, .jsr 38]),
  (38, [.iload 2, .ifCond .eq 57, .aload 0, .getfield 12, .ifCond .eq 57, .aload 0, .invokeinterface 263 2, .istore 2, .goto 38]),
  (57, [.aload 0, .getfield 18, .ifCond .ne 77, .aload 0, .getfield 22, .ifCond .le 77, .aload 0, .sipush 2, .invokeinterface 236 4, .pop, .jsr 77]),
  (77, [.aload 0, .getfield 18, .ifCond .ne 132, .aload 0, .goto_w 1, .sipush 7, .aload 0, .goto_w 1, .sipush 3479, .iaload, .iastore, .sipush 500, .istore 3, .jsr 103]),
  (103, [.iload 3, .sipush 860, .if_icmp .ge 132, .aload 0, .goto_w 1, .iload 3, .aload 0, .goto_w 1, .sipush 3472, .iload 3, .iadd, .iaload, .iastore, .iinc 3 1, .goto 103]),
  (132, [.aload 0, .aload 0, .getfield 23, .invokeinterface 260 4, .ireturn])]
abbrev m_R_morningStep : Nat := 263
def o_R_morningStep : Ops := [(0, [.aload 0, .ldc 0, .invokeinterface 235 4, .istore 1, .aload 0, .goto_w 1, .sipush 3479, .iaload, .istore 2, .sipush 3972, .sipush 6, .iload 2, .imul, .iadd, .istore 3, .iload 1, .sipush 15, .if_icmp .eq 37, .iload 1, .sipush 16, .if_icmp .ne 41, .jsr 37]),
  (37, [.sipush 1, .goto 42]),
  (41, [.sipush 0, .jsr 42]),
  (42, [.istore 4, .iload 1, .sipush 10, .if_icmp .lt 69, .iload 1, .sipush 18, .if_icmp .gt 69, .iload 1, .sipush 17, .if_icmp .ne 75, .aload 0, .getfield 22, .ifCond .ne 75, .jsr 69]),
  (69, [.aload 0, .sipush 2, .invokeinterface 236 4, .freturn]),
  (75, [.iload 1, .sipush 17, .if_icmp .eq 97, .aload 0, .getfield 23, .sipush 30, .if_icmp .ne 97, .aload 0, .sipush 6, .invokeinterface 236 4, .freturn]),
  (97, [.iload 4, .ifCond .eq 117, .aload 0, .getfield 22, .sipush 3, .if_icmp .ne 117, .aload 0, .sipush 7, .invokeinterface 236 4, .freturn]),
  (117, [.aload 0, .dup, .getfield 23, .iload 1, .sipush 17, .if_icmp .ne 132, .sipush 0, .goto 133]),
  (132, [.sipush 1, .jsr 133]),
  (133, [.iadd, .putfield 23, .aload 0, .goto_w 1, .iload 3, .iload 1, .iastore, .sipush 1, .istore 5, .jsr 147]),
  (147, [.iload 5, .sipush 6, .if_icmp .ge 170, .aload 0, .goto_w 1, .iload 3, .iload 5, .iadd, .sipush 0, .iastore, .iinc 5 1, .goto 147]),
  (170, [.aload 0, .goto_w 1, .sipush 3479, .dup2, .iaload, .sipush 1, .iadd, .iastore, .aload 0, .invokeinterface 229 3, .aload 0, .iload 1, .iload 3, .invokeinterface 264 6, .ifCond .ne 197, .sipush 0, .freturn]),
  (197, [.iload 4, .ifCond .eq 222, .aload 0, .goto_w 8, .aload 0, .getfield 22, .iload 2, .iastore, .aload 0, .dup, .getfield 22, .sipush 1, .iadd, .putfield 22, .jsr 222]),
  (222, [.iload 1, .sipush 17, .if_icmp .ne 279, .aload 0, .dup, .getfield 22, .sipush 1, .isub, .putfield 22, .aload 0, .goto_w 1, .iload 3, .sipush 4, .iadd, .aload 0, .goto_w 8, .aload 0, .getfield 22, .iaload, .iastore, .aload 0, .goto_w 1, .sipush 3972, .sipush 6, .aload 0, .goto_w 8, .aload 0, .getfield 22, .iaload, .imul, .iadd, .sipush 4, .iadd, .iload 2, .iastore, .jsr 279]),
  (279, [.aload 0, .sipush 59, .invokeinterface 258 4, .freturn])]
abbrev m_R_morningOrder : Nat := 264
def o_R_morningOrder : Ops := [(0, [.iload 1, .lookupswitch 128 #[(10, 44), (11, 128), (12, 85), (13, 128), (14, 128), (15, 122), (16, 111)]]),
  (44, [.aload 0, .iload 2, .sipush 1, .iadd, .invokeinterface 265 4, .ifCond .eq 83, .aload 0, .iload 2, .sipush 2, .iadd, .sipush 0, .sipush 2, .invokeinterface 237 8, .ifCond .eq 83, .aload 0, .iload 2, .sipush 3, .iadd, .sipush 0, .sipush 20, .invokeinterface 237 8, .ifCond .eq 83, .sipush 1, .goto 84]),
  (83, [.sipush 0, .jsr 84]),
  (84, [.freturn]),
  (85, [.aload 0, .iload 2, .sipush 1, .iadd, .invokeinterface 265 4, .ifCond .eq 109, .aload 0, .iload 2, .sipush 2, .iadd, .invokeinterface 266 4, .ifCond .eq 109, .sipush 1, .goto 110]),
  (109, [.sipush 0, .jsr 110]),
  (110, [.freturn]),
  (111, [.aload 0, .iload 2, .sipush 1, .iadd, .sipush 1, .sipush 99, .invokeinterface 237 8, .freturn]),
  (122, [.aload 0, .iload 2, .invokeinterface 267 4, .freturn]),
  (128, [.sipush 1, .freturn])]
abbrev m_R_callerTo : Nat := 265
def o_R_callerTo : Ops := [(0, [.aload 0, .sipush 11, .aload 0, .goto_w 1, .sipush 3, .iaload, .iload 1, .invokeinterface 248 8, .freturn])]
abbrev m_R_placeTo : Nat := 266
def o_R_placeTo : Ops := [(0, [.aload 0, .sipush 0, .aload 0, .goto_w 1, .sipush 0, .iaload, .iload 1, .invokeinterface 248 8, .freturn])]
abbrev m_R_test : Nat := 267
def o_R_test : Ops := [(0, [.aload 0, .ldc 0, .invokeinterface 235 4, .istore 2, .iload 2, .sipush 9, .if_icmp .eq 25, .iload 2, .sipush 19, .if_icmp .ge 25, .aload 0, .sipush 2, .invokeinterface 236 4, .freturn]),
  (25, [.aload 0, .goto_w 1, .iload 1, .sipush 1500, .iload 2, .iadd, .iastore, .aload 0, .invokeinterface 229 3, .iload 2, .sipush 9, .if_icmp .ne 72, .aload 0, .iload 1, .sipush 1, .iadd, .invokeinterface 265 4, .ifCond .eq 70, .aload 0, .iload 1, .sipush 2, .iadd, .invokeinterface 266 4, .ifCond .eq 70, .sipush 1, .goto 71]),
  (70, [.sipush 0, .jsr 71]),
  (71, [.freturn]),
  (72, [.iload 2, .sipush 19, .if_icmp .ne 111, .aload 0, .sipush 7, .aload 0, .goto_w 1, .sipush 2, .iaload, .iload 1, .sipush 1, .iadd, .invokeinterface 248 8, .ifCond .eq 109, .aload 0, .iload 1, .sipush 3, .iadd, .sipush 0, .sipush 90, .invokeinterface 237 8, .ifCond .ne 111, .jsr 109]),
  (109, [.sipush 0, .freturn]),
  (111, [.aload 0, .sipush 60, .invokeinterface 259 4, .ifCond .ne 144, .aload 0, .sipush 62, .invokeinterface 259 4, .ifCond .ne 144, .aload 0, .sipush 61, .invokeinterface 259 4, .ifCond .ne 144, .aload 0, .sipush 2, .invokeinterface 236 4, .freturn]),
  (144, [.aload 0, .goto_w 1, .iload 1, .sipush 5, .iadd, .aload 0, .getfield 15, .iastore, .aload 0, .invokeinterface 229 3, .aload 0, .iload 1, .sipush 2, .iadd, .sipush 0, .iload 2, .sipush 19, .if_icmp .ne 177, .sipush 999, .goto 179]),
  (177, [.sipush 8, .jsr 179]),
  (179, [.invokeinterface 237 8, .freturn])]
abbrev m_R_told : Nat := 268
def o_R_told : Ops := [(0, [.iload 1, .ifCond .lt 10, .iload 1, .sipush 7, .if_icmp .le 16, .jsr 10]),
  (10, [.aload 0, .sipush 1, .invokeinterface 233 4, .ireturn]),
  (16, [.aload 0, .iload 1, .sipush 7, .if_icmp .ne 30, .aload 0, .invokeinterface 269 2, .goto 36]),
  (30, [.aload 0, .goto_w 1, .iload 1, .iaload, .jsr 36]),
  (36, [.invokeinterface 261 4, .ireturn])]
abbrev m_R_allCries : Nat := 269
def o_R_allCries : Ops := [(0, [.sipush 0, .istore 1, .sipush 0, .istore 2, .jsr 4]),
  (4, [.iload 2, .aload 0, .goto_w 1, .sipush 3, .iaload, .if_icmp .ge 34, .iload 1, .aload 0, .goto_w 1, .iload 2, .invokeinterface 253 2, .sipush 1, .iadd, .iaload, .iadd, .istore 1, .iinc 2 1, .goto 4]),
  (34, [.iload 1, .ireturn])]
abbrev m_R_way : Nat := 270
def o_R_way : Ops := [(0, [.iload 1, .ifCond .lt 23, .iload 1, .aload 0, .goto_w 1, .sipush 1, .iaload, .if_icmp .ge 23, .iload 2, .ifCond .lt 23, .iload 2, .sipush 3, .if_icmp .le 29, .jsr 23]),
  (23, [.aload 0, .sipush 1, .invokeinterface 233 4, .ireturn]),
  (29, [.aload 0, .aload 0, .goto_w 1, .iload 1, .invokeinterface 246 2, .iload 2, .iadd, .iaload, .invokeinterface 261 4, .ireturn])]
abbrev m_R_slate : Nat := 271
def o_R_slate : Ops := [(0, [.aload 0, .iload 1, .invokeinterface 272 4, .ifCond .eq 24, .aload 0, .aload 0, .goto_w 1, .sipush 50, .iload 1, .iadd, .iaload, .invokeinterface 261 4, .goto 29]),
  (24, [.aload 0, .sipush 1, .invokeinterface 233 4, .jsr 29]),
  (29, [.ireturn])]
abbrev m_R_isSlate : Nat := 272
def o_R_isSlate : Ops := [(0, [.iload 1, .ifCond .lt 18, .iload 1, .aload 0, .goto_w 1, .sipush 2, .iaload, .if_icmp .ge 18, .sipush 1, .goto 19]),
  (18, [.sipush 0, .jsr 19]),
  (19, [.freturn])]
abbrev m_R_caller : Nat := 273
def o_R_caller : Ops := [(0, [.aload 0, .iload 1, .invokeinterface 274 4, .ifCond .eq 17, .iload 2, .ifCond .lt 17, .iload 2, .sipush 1, .if_icmp .le 23, .jsr 17]),
  (17, [.aload 0, .sipush 1, .invokeinterface 233 4, .ireturn]),
  (23, [.aload 0, .aload 0, .goto_w 1, .iload 1, .invokeinterface 253 2, .iload 2, .iadd, .iaload, .invokeinterface 261 4, .ireturn])]
abbrev m_R_isCaller : Nat := 274
def o_R_isCaller : Ops := [(0, [.iload 1, .ifCond .lt 18, .iload 1, .aload 0, .goto_w 1, .sipush 3, .iaload, .if_icmp .ge 18, .sipush 1, .goto 19]),
  (18, [.sipush 0, .jsr 19]),
  (19, [.freturn])]
abbrev m_R_cry : Nat := 275
def o_R_cry : Ops := [(0, [.aload 0, .iload 1, .iload 2, .invokeinterface 276 6, .ifCond .eq 13, .iload 3, .ifCond .ge 19, .jsr 13]),
  (13, [.aload 0, .sipush 1, .invokeinterface 233 4, .ireturn]),
  (19, [.iload 3, .sipush 2, .if_icmp .gt 34, .aload 0, .iload 1, .iload 2, .iload 3, .invokeinterface 277 8, .ifCond .ne 41, .jsr 34]),
  (34, [.aload 0, .sipush 6, .invokeinterface 233 4, .ireturn]),
  (41, [.aload 0, .aload 0, .iload 1, .iload 2, .iload 3, .invokeinterface 277 8, .invokeinterface 261 4, .ireturn])]
abbrev m_R_isCry : Nat := 276
def o_R_isCry : Ops := [(0, [.aload 0, .iload 1, .invokeinterface 274 4, .ifCond .eq 31, .iload 2, .ifCond .lt 31, .iload 2, .aload 0, .goto_w 1, .iload 1, .invokeinterface 253 2, .sipush 1, .iadd, .iaload, .if_icmp .ge 31, .sipush 1, .goto 32]),
  (31, [.sipush 0, .jsr 32]),
  (32, [.freturn])]
abbrev m_R_numberOf : Nat := 277
def o_R_numberOf : Ops := [(0, [.aload 0, .goto_w 1, .iload 1, .invokeinterface 253 2, .sipush 2, .iadd, .sipush 3, .iload 2, .imul, .iadd, .iload 3, .iadd, .iaload, .ireturn])]
abbrev m_R_call : Nat := 278
def o_R_call : Ops := [(0, [.iload 1, .ifCond .lt 23, .iload 1, .aload 0, .goto_w 1, .sipush 4, .iaload, .if_icmp .ge 23, .iload 2, .ifCond .lt 23, .iload 2, .sipush 2, .if_icmp .le 29, .jsr 23]),
  (23, [.aload 0, .sipush 1, .invokeinterface 233 4, .ireturn]),
  (29, [.aload 0, .aload 0, .iload 1, .iload 2, .invokeinterface 279 6, .invokeinterface 261 4, .ireturn])]
abbrev m_R_callOf : Nat := 279
def o_R_callOf : Ops := [(0, [.aload 0, .goto_w 1, .iload 1, .invokeinterface 257 2, .iload 2, .iadd, .iaload, .ireturn])]
abbrev m_R_far : Nat := 280
def o_R_far : Ops := [(0, [.aload 0, .iload 1, .invokeinterface 281 4, .ifCond .eq 16, .aload 0, .iload 2, .invokeinterface 281 4, .ifCond .ne 22, .jsr 16]),
  (16, [.aload 0, .sipush 1, .invokeinterface 233 4, .ireturn]),
  (22, [.aload 0, .invokeinterface 282 3, .aload 0, .goto_w 9, .sipush 7, .iload 1, .imul, .iload 2, .iadd, .iaload, .istore 3, .iload 3, .sipush 1000000, .if_icmp .lt 54, .aload 0, .sipush 6, .invokeinterface 233 4, .goto 62]),
  (54, [.aload 0, .iload 3, .sipush 100, .idiv, .invokeinterface 261 4, .jsr 62]),
  (62, [.ireturn])]
abbrev m_R_isPlace : Nat := 281
def o_R_isPlace : Ops := [(0, [.iload 1, .ifCond .lt 18, .iload 1, .aload 0, .goto_w 1, .sipush 0, .iaload, .if_icmp .ge 18, .sipush 1, .goto 19]),
  (18, [.sipush 0, .jsr 19]),
  (19, [.freturn])]
abbrev m_R_laysFar : Nat := 282
def o_R_laysFar : Ops := [(0, [.aload 0, .goto_w 1, .sipush 0, .iaload, .istore 1, .sipush 0, .istore 2, .jsr 9]),
  (9, [.iload 2, .sipush 49, .if_icmp .ge 41, .aload 0, .goto_w 9, .iload 2, .iload 2, .sipush 8, .irem, .ifCond .ne 31, .sipush 0, .goto 34]),
  (31, [.sipush 1000000, .jsr 34]),
  (34, [.iastore, .iinc 2 1, .goto 9]),
  (41, [.sipush 0, .istore 2, .jsr 43]),
  (43, [.iload 2, .aload 0, .goto_w 1, .sipush 1, .iaload, .if_icmp .ge 159, .iload 2, .invokeinterface 246 2, .istore 3, .sipush 100, .aload 0, .goto_w 1, .iload 3, .sipush 2, .iadd, .iaload, .imul, .aload 0, .goto_w 1, .iload 3, .sipush 3, .iadd, .iaload, .iadd, .istore 4, .sipush 7, .aload 0, .goto_w 1, .iload 3, .iaload, .imul, .aload 0, .goto_w 1, .iload 3, .sipush 1, .iadd, .iaload, .iadd, .istore 5, .sipush 7, .aload 0, .goto_w 1, .iload 3, .sipush 1, .iadd, .iaload, .imul, .aload 0, .goto_w 1, .iload 3, .iaload, .iadd, .istore 6, .aload 0, .goto_w 9, .iload 5, .aload 0, .goto_w 9, .iload 5, .iaload, .iload 4, .fmul, .iastore, .aload 0, .goto_w 9, .iload 6, .aload 0, .goto_w 9, .iload 5, .iaload, .iastore, .iinc 2 1, .goto 43]),
  (159, [.sipush 0, .istore 2, .jsr 161]),
  (161, [.iload 2, .iload 1, .if_icmp .ge 251, .sipush 0, .istore 3, .jsr 168]),
  (168, [.iload 3, .iload 1, .if_icmp .ge 245, .sipush 0, .istore 4, .jsr 176]),
  (176, [.iload 4, .iload 1, .if_icmp .ge 239, .aload 0, .goto_w 9, .sipush 7, .iload 3, .imul, .iload 4, .iadd, .aload 0, .goto_w 9, .sipush 7, .iload 3, .imul, .iload 4, .iadd, .iaload, .aload 0, .goto_w 9, .sipush 7, .iload 3, .imul, .iload 2, .iadd, .iaload, .aload 0, .goto_w 9, .sipush 7, .iload 2, .imul, .iload 4, .iadd, .iaload, .iadd, .fmul, .iastore, .iinc 4 1, .goto 176]),
  (239, [.iinc 3 1, .goto 168]),
  (245, [.iinc 2 1, .goto 161]),
  (251, [.return_])]
abbrev m_R_lost : Nat := 283
def o_R_lost : Ops := [(0, [.aload 0, .iload 1, .invokeinterface 281 4, .ifCond .eq 16, .aload 0, .iload 2, .invokeinterface 281 4, .ifCond .ne 22, .jsr 16]),
  (16, [.aload 0, .sipush 1, .invokeinterface 233 4, .ireturn]),
  (22, [.aload 0, .invokeinterface 282 3, .aload 0, .goto_w 9, .sipush 7, .iload 1, .imul, .iload 2, .iadd, .iaload, .istore 3, .iload 3, .sipush 1000000, .if_icmp .lt 54, .aload 0, .sipush 6, .invokeinterface 233 4, .goto 62]),
  (54, [.aload 0, .iload 3, .sipush 100, .irem, .invokeinterface 261 4, .jsr 62]),
  (62, [.ireturn])]
abbrev m_R_say : Nat := 284
def o_R_say : Ops := [(0, [.iload 3, .i2l, .bipush 0, .bipush 20, .invokeinterface 285 6, .ifCond .ne 18, .aload 0, .sipush 1, .invokeinterface 233 4, .ireturn]),
  (18, [.aload 0, .iload 1, .iload 2, .iload 3, .invokeinterface 286 8, .istore 4, .iload 4, .ifCond .le 41, .aload 0, .iload 4, .invokeinterface 233 4, .goto 51]),
  (41, [.aload 0, .aload 0, .goto_w 1, .sipush 4, .iaload, .invokeinterface 261 4, .jsr 51]),
  (51, [.ireturn])]
abbrev m_R_isFrom : Nat := 285
def o_R_isFrom : Ops := [(0, [.lload 0, .lload 2, .lcmp, .ifCond .lt 17, .lload 0, .lload 4, .lcmp, .ifCond .gt 17, .sipush 1, .goto 18]),
  (17, [.sipush 0, .jsr 18]),
  (18, [.freturn])]
abbrev m_R_says : Nat := 286
def o_R_says : Ops := [(0, [.aload 0, .iload 1, .iload 2, .invokeinterface 276 6, .ifCond .ne 11, .sipush 1, .ireturn]),
  (11, [.aload 0, .goto_w 1, .sipush 4, .iaload, .sipush 8, .if_icmp .ne 24, .sipush 4, .ireturn]),
  (24, [.aload 0, .iload 1, .iload 2, .iload 3, .invokeinterface 287 8, .sipush (-1), .if_icmp .eq 38, .sipush 7, .ireturn]),
  (38, [.aload 0, .goto_w 1, .sipush 4, .iaload, .invokeinterface 257 2, .istore 4, .aload 0, .goto_w 1, .iload 4, .iload 1, .iastore, .aload 0, .goto_w 1, .iload 4, .sipush 1, .iadd, .iload 2, .iastore, .aload 0, .goto_w 1, .iload 4, .sipush 2, .iadd, .iload 3, .iastore, .aload 0, .goto_w 1, .sipush 4, .dup2, .iaload, .sipush 1, .iadd, .iastore, .sipush 0, .ireturn])]
abbrev m_R_toldCall : Nat := 287
def o_R_toldCall : Ops := [(0, [.sipush 0, .istore 4, .jsr 3]),
  (3, [.iload 4, .aload 0, .goto_w 1, .sipush 4, .iaload, .if_icmp .ge 56, .aload 0, .iload 4, .sipush 0, .invokeinterface 279 6, .iload 1, .if_icmp .ne 50, .aload 0, .iload 4, .sipush 1, .invokeinterface 279 6, .iload 2, .if_icmp .ne 50, .aload 0, .iload 4, .sipush 2, .invokeinterface 279 6, .iload 3, .if_icmp .ne 50, .iload 4, .ireturn]),
  (50, [.iinc 4 1, .goto 3]),
  (56, [.sipush (-1), .ireturn])]
abbrev m_R_hush : Nat := 288
def o_R_hush : Ops := [(0, [.aload 0, .iload 1, .invokeinterface 289 4, .ifCond .eq 21, .aload 0, .aload 0, .goto_w 1, .sipush 4, .iaload, .invokeinterface 261 4, .goto 26]),
  (21, [.aload 0, .sipush 1, .invokeinterface 233 4, .jsr 26]),
  (26, [.ireturn])]
abbrev m_R_hushes : Nat := 289
def o_R_hushes : Ops := [(0, [.iload 1, .ifCond .lt 14, .iload 1, .aload 0, .goto_w 1, .sipush 4, .iaload, .if_icmp .lt 16, .jsr 14]),
  (14, [.sipush 0, .freturn]),
  (16, [.aload 0, .goto_w 1, .sipush 4, .dup2, .iaload, .sipush 1, .isub, .iastore, .iload 1, .invokeinterface 257 2, .istore 2, .jsr 31]),
  (31, [.iload 2, .aload 0, .goto_w 1, .sipush 4, .iaload, .invokeinterface 257 2, .if_icmp .ge 64, .aload 0, .goto_w 1, .iload 2, .aload 0, .goto_w 1, .iload 2, .sipush 3, .iadd, .iaload, .iastore, .iinc 2 1, .goto 31]),
  (64, [.sipush 1, .freturn])]
abbrev m_R_walk : Nat := 290
def o_R_walk : Ops := [(0, [.aload 0, .iload 1, .invokeinterface 274 4, .ifCond .eq 16, .aload 0, .iload 2, .invokeinterface 281 4, .ifCond .ne 22, .jsr 16]),
  (16, [.aload 0, .sipush 1, .invokeinterface 233 4, .ireturn]),
  (22, [.aload 0, .goto_w 1, .iload 1, .invokeinterface 253 2, .iaload, .istore 3, .aload 0, .iload 1, .invokeinterface 253 2, .iload 2, .invokeinterface 291 6, .ifCond .eq 52, .aload 0, .iload 3, .invokeinterface 261 4, .goto 58]),
  (52, [.aload 0, .sipush 7, .invokeinterface 233 4, .jsr 58]),
  (58, [.ireturn])]
abbrev m_R_goesTo : Nat := 291
def o_R_goesTo : Ops := [(0, [.aload 0, .goto_w 1, .iload 1, .iaload, .iload 2, .if_icmp .eq 14, .sipush 1, .goto 15]),
  (14, [.sipush 0, .jsr 15]),
  (15, [.istore 3, .aload 0, .goto_w 1, .iload 1, .iload 2, .iastore, .iload 3, .freturn])]
abbrev m_R_hang : Nat := 292
def o_R_hang : Ops := [(0, [.aload 0, .iload 1, .invokeinterface 272 4, .ifCond .eq 16, .aload 0, .iload 2, .invokeinterface 281 4, .ifCond .ne 22, .jsr 16]),
  (16, [.aload 0, .sipush 1, .invokeinterface 233 4, .ireturn]),
  (22, [.aload 0, .goto_w 1, .sipush 50, .iload 1, .iadd, .iaload, .istore 3, .aload 0, .sipush 50, .iload 1, .iadd, .iload 2, .invokeinterface 291 6, .ifCond .eq 52, .aload 0, .iload 3, .invokeinterface 261 4, .goto 58]),
  (52, [.aload 0, .sipush 7, .invokeinterface 233 4, .jsr 58]),
  (58, [.ireturn])]
abbrev m_R_pave : Nat := 293
def o_R_pave : Ops := [(0, [.iload 1, .ifCond .lt 38, .iload 1, .aload 0, .goto_w 1, .sipush 1, .iaload, .if_icmp .ge 38, .iload 2, .i2l, .bipush 1, .bipush 9, .invokeinterface 285 6, .ifCond .eq 38, .iload 3, .i2l, .bipush 0, .bipush 9, .invokeinterface 285 6, .ifCond .ne 44, .jsr 38]),
  (38, [.aload 0, .sipush 1, .invokeinterface 218 4, .freturn]),
  (44, [.aload 0, .goto_w 1, .iload 1, .invokeinterface 246 2, .sipush 2, .iadd, .iload 2, .iastore, .aload 0, .goto_w 1, .iload 1, .invokeinterface 246 2, .sipush 3, .iadd, .iload 3, .iastore, .aload 0, .sipush 0, .invokeinterface 218 4, .freturn])]
abbrev m_R_teach : Nat := 294
def o_R_teach : Ops := [(0, [.aload 0, .iload 1, .invokeinterface 274 4, .ifCond .eq 53, .iload 2, .i2l, .bipush 1, .bipush 99, .invokeinterface 285 6, .ifCond .eq 53, .iload 3, .i2l, .bipush 0, .bipush 99, .invokeinterface 285 6, .ifCond .eq 53, .iload 4, .i2l, .bipush 0, .iload 3, .ifCond .ne 44, .bipush 0, .goto 47]),
  (44, [.bipush 99, .jsr 47]),
  (47, [.invokeinterface 285 6, .ifCond .ne 59, .jsr 53]),
  (53, [.aload 0, .sipush 1, .invokeinterface 233 4, .ireturn]),
  (59, [.iload 1, .invokeinterface 253 2, .istore 5, .aload 0, .goto_w 1, .iload 5, .sipush 1, .iadd, .iaload, .istore 6, .iload 6, .sipush 3, .if_icmp .ne 88, .aload 0, .sipush 4, .invokeinterface 233 4, .ireturn]),
  (88, [.aload 0, .goto_w 1, .iload 5, .sipush 2, .iadd, .sipush 3, .iload 6, .imul, .iadd, .iload 2, .iastore, .aload 0, .goto_w 1, .iload 5, .sipush 2, .iadd, .sipush 3, .iload 6, .imul, .iadd, .sipush 1, .iadd, .iload 3, .iastore, .aload 0, .goto_w 1, .iload 5, .sipush 2, .iadd, .sipush 3, .iload 6, .imul, .iadd, .sipush 2, .iadd, .iload 4, .iastore, .aload 0, .goto_w 1, .iload 5, .sipush 1, .iadd, .dup2, .iaload, .sipush 1, .iadd, .iastore, .aload 0, .iload 6, .invokeinterface 261 4, .ireturn])]
abbrev m_R_rule : Nat := 295
def o_R_rule : Ops := [(0, [.iload 1, .i2l, .bipush 0, .bipush 16, .invokeinterface 285 6, .ifCond .ne 18, .aload 0, .sipush 1, .invokeinterface 218 4, .freturn]),
  (18, [.aload 0, .goto_w 1, .sipush 5, .iload 1, .iastore, .aload 0, .sipush 0, .invokeinterface 218 4, .freturn])]
abbrev m_R_record : Nat := 296
def o_R_record : Ops := [(0, [.aload 0, .aload 0, .invokeinterface 297 2, .invokeinterface 261 4, .ireturn])]
abbrev m_R_records : Nat := 297
def o_R_records : Ops := [(0, [.aload 0, .invokeinterface 298 2, .istore 1, .sipush 0, .istore 2, .jsr 7]),
  (7, [.iload 2, .sipush 364, .if_icmp .ge 36, .aload 0, .goto_w 1, .sipush 134, .iload 2, .iadd, .aload 0, .goto_w 10, .iload 2, .iaload, .iastore, .iinc 2 1, .goto 7]),
  (36, [.aload 0, .goto_w 1, .sipush 6, .sipush 1, .iastore, .iload 1, .ireturn])]
abbrev m_R_allSums : Nat := 298
def o_R_allSums : Ops := [(0, [.aload 0, .invokeinterface 299 3, .sipush 0, .istore 1, .sipush 0, .istore 2, .jsr 8]),
  (8, [.iload 2, .sipush 364, .if_icmp .ge 30, .iload 1, .aload 0, .goto_w 10, .iload 2, .iaload, .iadd, .istore 1, .iinc 2 1, .goto 8]),
  (30, [.iload 1, .ireturn])]
abbrev m_R_laysSums : Nat := 299
def o_R_laysSums : Ops := [(0, [.aload 0, .sipush 0, .invokeinterface 300 5, .aload 0, .sipush 1, .invokeinterface 301 5, .return_])]
abbrev m_R_laysLeft : Nat := 300
def o_R_laysLeft : Ops := [(0, [.aload 0, .sipush 0, .putfield 26, .aload 0, .sipush 0, .putfield 27, .sipush 0, .istore 2, .jsr 12]),
  (12, [.iload 2, .sipush 364, .if_icmp .ge 85, .aload 0, .goto_w 10, .iload 2, .iload 1, .ifCond .eq 54, .iload 2, .sipush 91, .aload 0, .goto_w 1, .sipush 2, .iaload, .imul, .if_icmp .ge 54, .aload 0, .goto_w 1, .sipush 134, .iload 2, .iadd, .iaload, .goto 55]),
  (54, [.sipush 0, .jsr 55]),
  (55, [.iastore, .aload 0, .dup, .getfield 26, .aload 0, .goto_w 10, .iload 2, .iaload, .ifCond .le 74, .sipush 1, .goto 75]),
  (74, [.sipush 0, .jsr 75]),
  (75, [.iadd, .putfield 26, .iinc 2 1, .goto 12]),
  (85, [.return_])]
abbrev m_R_putsAll : Nat := 301
def o_R_putsAll : Ops := [(0, [.aload 0, .invokeinterface 282 3, .sipush 0, .istore 2, .jsr 6]),
  (6, [.iload 2, .aload 0, .goto_w 1, .sipush 4, .iaload, .if_icmp .ge 45, .aload 0, .aload 0, .iload 2, .sipush 0, .invokeinterface 279 6, .aload 0, .iload 2, .sipush 1, .invokeinterface 279 6, .aload 0, .iload 2, .sipush 2, .invokeinterface 279 6, .iload 1, .invokeinterface 302 11, .iinc 2 1, .goto 6]),
  (45, [.return_])]
abbrev m_R_puts : Nat := 302
def o_R_puts : Ops := [(0, [.sipush 0, .istore 5, .jsr 3]),
  (3, [.iload 5, .aload 0, .goto_w 1, .sipush 2, .iaload, .if_icmp .ge 91, .aload 0, .goto_w 1, .sipush 50, .iload 5, .iadd, .iaload, .istore 6, .sipush 0, .istore 7, .jsr 29]),
  (29, [.iload 7, .sipush 3, .if_icmp .ge 85, .aload 0, .iload 1, .iload 2, .iload 7, .iload 6, .invokeinterface 303 10, .istore 8, .iload 8, .ifCond .le 79, .aload 0, .sipush 91, .iload 5, .imul, .iload 3, .iadd, .iload 7, .iadd, .aload 0, .iload 1, .iload 6, .invokeinterface 304 6, .iadd, .iload 4, .iload 8, .imul, .invokeinterface 305 7, .jsr 79]),
  (79, [.iinc 7 1, .goto 29]),
  (85, [.iinc 5 1, .goto 3]),
  (91, [.return_])]
abbrev m_R_loudAt : Nat := 303
def o_R_loudAt : Ops := [(0, [.aload 0, .goto_w 9, .sipush 7, .aload 0, .goto_w 1, .iload 1, .invokeinterface 253 2, .iaload, .imul, .iload 4, .iadd, .iaload, .istore 5, .iload 5, .sipush 1000000, .if_icmp .lt 34, .sipush 0, .goto 51]),
  (34, [.sipush 0, .aload 0, .iload 1, .iload 2, .iload 3, .invokeinterface 277 8, .iload 5, .sipush 100, .irem, .isub, .fadd, .jsr 51]),
  (51, [.ireturn])]
abbrev m_R_behindAt : Nat := 304
def o_R_behindAt : Ops := [(0, [.aload 0, .goto_w 9, .sipush 7, .aload 0, .goto_w 1, .iload 1, .invokeinterface 253 2, .iaload, .imul, .iload 2, .iadd, .iaload, .sipush 100, .idiv, .ireturn])]
abbrev m_R_changes : Nat := 305
def o_R_changes : Ops := [(0, [.aload 0, .goto_w 10, .iload 1, .iaload, .ifCond .le 22, .aload 0, .dup, .getfield 26, .sipush 1, .isub, .putfield 26, .goto 41]),
  (22, [.aload 0, .goto_w 10, .iload 1, .iaload, .ifCond .ge 41, .aload 0, .dup, .getfield 27, .sipush 1, .isub, .putfield 27, .jsr 41]),
  (41, [.aload 0, .goto_w 10, .iload 1, .dup2, .iaload, .iload 2, .iadd, .iastore, .aload 0, .goto_w 10, .iload 1, .iaload, .ifCond .le 73, .aload 0, .dup, .getfield 26, .sipush 1, .iadd, .putfield 26, .goto 92]),
  (73, [.aload 0, .goto_w 10, .iload 1, .iaload, .ifCond .ge 92, .aload 0, .dup, .getfield 27, .sipush 1, .iadd, .putfield 27, .jsr 92]),
  (92, [.return_])]
abbrev m_R_scrawl : Nat := 306
def o_R_scrawl : Ops := [(0, [.aload 0, .iload 1, .invokeinterface 272 4, .ifCond .eq 27, .iload 2, .invokeinterface 307 2, .ifCond .eq 27, .iload 3, .i2l, .bipush 0, .bipush 999, .invokeinterface 285 6, .ifCond .ne 33, .jsr 27]),
  (27, [.aload 0, .sipush 1, .invokeinterface 233 4, .ireturn]),
  (33, [.aload 0, .goto_w 1, .sipush 6, .iaload, .ifCond .ne 50, .aload 0, .sipush 6, .invokeinterface 233 4, .ireturn]),
  (50, [.aload 0, .goto_w 1, .sipush 134, .sipush 91, .iload 1, .imul, .iadd, .iload 2, .iadd, .iaload, .istore 4, .aload 0, .goto_w 1, .sipush 134, .sipush 91, .iload 1, .imul, .iadd, .iload 2, .iadd, .iload 3, .iastore, .aload 0, .iload 4, .invokeinterface 261 4, .ireturn])]
abbrev m_R_isBeat : Nat := 307
def o_R_isBeat : Ops := [(0, [.iload 0, .i2l, .bipush 0, .bipush 90, .invokeinterface 285 6, .freturn])]
abbrev m_R_heard : Nat := 308
def o_R_heard : Ops := [(0, [.aload 0, .iload 1, .invokeinterface 272 4, .ifCond .eq 15, .iload 2, .invokeinterface 307 2, .ifCond .ne 21, .jsr 15]),
  (15, [.aload 0, .sipush 1, .invokeinterface 233 4, .ireturn]),
  (21, [.aload 0, .invokeinterface 299 3, .aload 0, .aload 0, .goto_w 10, .sipush 91, .iload 1, .imul, .iload 2, .iadd, .iaload, .invokeinterface 261 4, .ireturn])]
abbrev m_R_from : Nat := 309
def o_R_from : Ops := [(0, [.aload 0, .iload 1, .invokeinterface 272 4, .ifCond .eq 15, .iload 2, .invokeinterface 307 2, .ifCond .ne 21, .jsr 15]),
  (15, [.aload 0, .sipush 1, .invokeinterface 233 4, .ireturn]),
  (21, [.aload 0, .invokeinterface 282 3, .sipush 0, .istore 3, .sipush 0, .istore 4, .jsr 30]),
  (30, [.iload 4, .aload 0, .goto_w 1, .sipush 4, .iaload, .if_icmp .ge 69, .iload 3, .aload 0, .iload 4, .iload 1, .iload 2, .invokeinterface 310 8, .ifCond .le 60, .sipush 1, .iload 4, .ishl, .goto 61]),
  (60, [.sipush 0, .jsr 61]),
  (61, [.ior, .istore 3, .iinc 4 1, .goto 30]),
  (69, [.aload 0, .iload 3, .invokeinterface 261 4, .ireturn])]
abbrev m_R_partOf : Nat := 310
def o_R_partOf : Ops := [(0, [.aload 0, .iload 1, .sipush 0, .invokeinterface 279 6, .istore 4, .aload 0, .goto_w 1, .sipush 50, .iload 2, .iadd, .iaload, .istore 5, .aload 0, .goto_w 9, .sipush 7, .aload 0, .goto_w 1, .iload 4, .invokeinterface 253 2, .iaload, .imul, .iload 5, .iadd, .iaload, .sipush 1000000, .if_icmp .lt 50, .sipush (-1), .goto 67]),
  (50, [.iload 3, .aload 0, .iload 1, .sipush 2, .invokeinterface 279 6, .isub, .aload 0, .iload 4, .iload 5, .invokeinterface 304 6, .isub, .jsr 67]),
  (67, [.istore 6, .iload 6, .ifCond .lt 80, .iload 6, .sipush 2, .if_icmp .le 84, .jsr 80]),
  (80, [.sipush 0, .goto 100]),
  (84, [.aload 0, .iload 4, .aload 0, .iload 1, .sipush 1, .invokeinterface 279 6, .iload 6, .iload 5, .invokeinterface 303 10, .jsr 100]),
  (100, [.ireturn])]
abbrev m_R_first : Nat := 311
def o_R_first : Ops := [(0, [.aload 0, .iload 1, .invokeinterface 272 4, .ifCond .ne 14, .aload 0, .sipush 1, .invokeinterface 233 4, .ireturn]),
  (14, [.aload 0, .invokeinterface 299 3, .sipush 0, .istore 2, .jsr 20]),
  (20, [.iload 2, .sipush 91, .if_icmp .ge 52, .aload 0, .goto_w 10, .sipush 91, .iload 1, .imul, .iload 2, .iadd, .iaload, .ifCond .le 46, .aload 0, .iload 2, .invokeinterface 261 4, .ireturn]),
  (46, [.iinc 2 1, .goto 20]),
  (52, [.aload 0, .sipush 6, .invokeinterface 233 4, .ireturn])]
abbrev m_R_last : Nat := 312
def o_R_last : Ops := [(0, [.aload 0, .iload 1, .invokeinterface 272 4, .ifCond .ne 14, .aload 0, .sipush 1, .invokeinterface 233 4, .ireturn]),
  (14, [.aload 0, .invokeinterface 299 3, .sipush 90, .istore 2, .jsr 21]),
  (21, [.iload 2, .ifCond .lt 51, .aload 0, .goto_w 10, .sipush 91, .iload 1, .imul, .iload 2, .iadd, .iaload, .ifCond .le 45, .aload 0, .iload 2, .invokeinterface 261 4, .ireturn]),
  (45, [.iinc 2 (-1), .goto 21]),
  (51, [.aload 0, .sipush 6, .invokeinterface 233 4, .ireturn])]
abbrev m_R_loudest : Nat := 313
def o_R_loudest : Ops := [(0, [.aload 0, .iload 1, .invokeinterface 272 4, .ifCond .ne 14, .aload 0, .sipush 1, .invokeinterface 233 4, .ireturn]),
  (14, [.aload 0, .invokeinterface 299 3, .sipush (-1), .istore 2, .sipush 0, .istore 3, .sipush 0, .istore 4, .jsr 25]),
  (25, [.iload 4, .sipush 91, .if_icmp .ge 73, .aload 0, .goto_w 10, .sipush 91, .iload 1, .imul, .iload 4, .iadd, .iaload, .iload 3, .if_icmp .gt 51, .goto 67]),
  (51, [.aload 0, .goto_w 10, .sipush 91, .iload 1, .imul, .iload 4, .iadd, .iaload, .istore 3, .iload 4, .istore 2, .jsr 67]),
  (67, [.iinc 4 1, .goto 25]),
  (73, [.aload 0, .iload 2, .invokeinterface 314 4, .ireturn])]
abbrev m_R_orNone : Nat := 314
def o_R_orNone : Ops := [(0, [.iload 1, .sipush (-1), .if_icmp .ne 14, .aload 0, .sipush 6, .invokeinterface 233 4, .goto 19]),
  (14, [.aload 0, .iload 1, .invokeinterface 261 4, .jsr 19]),
  (19, [.ireturn])]
abbrev m_R_all : Nat := 315
def o_R_all : Ops := [(0, [.aload 0, .iload 1, .invokeinterface 272 4, .ifCond .ne 14, .aload 0, .sipush 1, .invokeinterface 233 4, .ireturn]),
  (14, [.aload 0, .invokeinterface 299 3, .sipush 0, .istore 2, .sipush 0, .istore 3, .jsr 22]),
  (22, [.iload 3, .sipush 91, .if_icmp .ge 48, .iload 2, .aload 0, .goto_w 10, .sipush 91, .iload 1, .imul, .iload 3, .iadd, .iaload, .iadd, .istore 2, .iinc 3 1, .goto 22]),
  (48, [.aload 0, .iload 2, .invokeinterface 261 4, .ireturn])]
abbrev m_R_recorded : Nat := 316
def o_R_recorded : Ops := [(0, [.aload 0, .iload 1, .invokeinterface 272 4, .ifCond .eq 15, .iload 2, .invokeinterface 307 2, .ifCond .ne 21, .jsr 15]),
  (15, [.aload 0, .sipush 1, .invokeinterface 233 4, .ireturn]),
  (21, [.aload 0, .goto_w 1, .sipush 6, .iaload, .ifCond .ne 40, .aload 0, .sipush 6, .invokeinterface 233 4, .goto 59]),
  (40, [.aload 0, .aload 0, .goto_w 1, .sipush 134, .sipush 91, .iload 1, .imul, .iadd, .iload 2, .iadd, .iaload, .invokeinterface 261 4, .jsr 59]),
  (59, [.ireturn])]
abbrev m_R_differs : Nat := 317
def o_R_differs : Ops := [(0, [.aload 0, .goto_w 1, .sipush 6, .iaload, .ifCond .ne 19, .aload 0, .sipush 6, .invokeinterface 233 4, .goto 27]),
  (19, [.aload 0, .aload 0, .invokeinterface 318 2, .invokeinterface 261 4, .jsr 27]),
  (27, [.ireturn])]
abbrev m_R_differing : Nat := 318
def o_R_differing : Ops := [(0, [.aload 0, .sipush 1, .invokeinterface 300 5, .aload 0, .sipush (-1), .invokeinterface 301 5, .aload 0, .getfield 26, .aload 0, .getfield 27, .iadd, .ireturn])]
abbrev m_R_copyHeard : Nat := 319
def o_R_copyHeard : Ops := [(0, [.aload 0, .iload 1, .invokeinterface 272 4, .ifCond .eq 44, .iload 2, .invokeinterface 217 2, .ifCond .eq 44, .iload 3, .invokeinterface 307 2, .ifCond .eq 44, .iload 4, .i2l, .bipush 0, .bipush 60, .invokeinterface 285 6, .ifCond .eq 44, .iload 3, .iload 4, .iadd, .sipush 91, .if_icmp .le 50, .jsr 44]),
  (44, [.aload 0, .sipush 1, .invokeinterface 233 4, .ireturn]),
  (50, [.aload 0, .goto_w 4, .iload 2, .iaload, .sipush (-1), .if_icmp .ne 66, .aload 0, .sipush 2, .invokeinterface 233 4, .ireturn]),
  (66, [.aload 0, .goto_w 4, .iload 2, .iaload, .iload 4, .if_icmp .ge 83, .aload 0, .sipush 3, .invokeinterface 233 4, .ireturn]),
  (83, [.aload 0, .invokeinterface 299 3, .sipush 0, .istore 5, .sipush 0, .istore 6, .jsr 93]),
  (93, [.iload 6, .iload 4, .if_icmp .ge 153, .aload 0, .goto_w 10, .sipush 91, .iload 1, .imul, .iload 3, .iadd, .iload 6, .iadd, .iaload, .istore 7, .iload 5, .iload 7, .iadd, .istore 5, .aload 0, .goto_w 5, .sipush 60, .iload 2, .imul, .iload 6, .iadd, .iload 7, .i2l, .aload 0, .goto_w 3, .iload 2, .iaload, .invokeinterface 221 4, .lastore, .iinc 6 1, .goto 93]),
  (153, [.aload 0, .iload 5, .invokeinterface 261 4, .ireturn])]
abbrev m_R_answers : Nat := 320
def o_R_answers : Ops := [(0, [.iload 1, .i2l, .bipush 0, .bipush 4, .invokeinterface 285 6, .ifCond .ne 18, .aload 0, .sipush 1, .invokeinterface 233 4, .ireturn]),
  (18, [.aload 0, .goto_w 1, .sipush 6, .iaload, .ifCond .ne 35, .aload 0, .sipush 6, .invokeinterface 233 4, .ireturn]),
  (35, [.aload 0, .iload 1, .sipush (-1), .invokeinterface 321 7, .aload 0, .aload 0, .getfield 32, .invokeinterface 261 4, .ireturn])]
abbrev m_R_laysAnswers : Nat := 321
def o_R_laysAnswers : Ops := [(0, [.aload 0, .invokeinterface 282 3, .aload 0, .sipush 1, .invokeinterface 300 5, .aload 0, .sipush 0, .putfield 32, .aload 0, .sipush 0, .putfield 33, .aload 0, .iload 2, .putfield 34, .aload 0, .sipush (-1), .putfield 35, .aload 0, .sipush 1000000, .putfield 36, .aload 0, .sipush 0, .iload 1, .invokeinterface 322 6, .ifCond .eq 49, .sipush 0, .goto 50]),
  (49, [.sipush (-1), .jsr 50]),
  (50, [.istore 3, .jsr 51]),
  (51, [.iload 3, .ifCond .lt 149, .aload 0, .goto_w 12, .iload 3, .iaload, .istore 4, .iload 4, .sipush (-1), .if_icmp .eq 76, .aload 0, .iload 4, .sipush 1, .invokeinterface 324 7, .jsr 76]),
  (76, [.iinc 4 1, .jsr 79]),
  (79, [.iload 4, .sipush 315, .if_icmp .ge 103, .aload 0, .iload 4, .iload 3, .invokeinterface 325 6, .ifCond .ne 103, .iinc 4 1, .goto 79]),
  (103, [.iload 4, .sipush 315, .if_icmp .ne 117, .iinc 3 (-1), .goto 51]),
  (117, [.aload 0, .goto_w 12, .iload 3, .iload 4, .iastore, .aload 0, .iload 4, .sipush (-1), .invokeinterface 324 7, .aload 0, .iload 3, .sipush 1, .iadd, .iload 1, .invokeinterface 322 6, .ifCond .eq 146, .iinc 3 1, .jsr 146]),
  (146, [.goto 51]),
  (149, [.return_])]
abbrev m_R_opensAt : Nat := 322
def o_R_opensAt : Ops := [(0, [.aload 0, .getfield 27, .ifCond .le 9, .sipush 0, .freturn]),
  (9, [.aload 0, .getfield 26, .ifCond .ne 23, .aload 0, .iload 1, .invokeinterface 323 5, .sipush 0, .freturn]),
  (23, [.iload 1, .iload 2, .if_icmp .ne 30, .sipush 0, .freturn]),
  (30, [.sipush 0, .istore 3, .jsr 32]),
  (32, [.aload 0, .goto_w 10, .iload 3, .iaload, .ifCond .ne 47, .iinc 3 1, .goto 32]),
  (47, [.aload 0, .goto_w 11, .iload 1, .iload 3, .iastore, .aload 0, .goto_w 12, .iload 1, .sipush (-1), .iastore, .sipush 1, .freturn])]
abbrev m_R_finds : Nat := 323
def o_R_finds : Ops := [(0, [.sipush 0, .istore 2, .sipush 0, .istore 3, .jsr 4]),
  (4, [.iload 3, .iload 1, .if_icmp .ge 99, .iload 2, .ifCond .ne 26, .aload 0, .goto_w 12, .iload 3, .iaload, .aload 0, .getfield 34, .if_icmp .ne 30, .jsr 26]),
  (26, [.sipush 1, .goto 31]),
  (30, [.sipush 0, .jsr 31]),
  (31, [.istore 2, .iload 3, .istore 4, .jsr 35]),
  (35, [.iload 4, .ifCond .le 80, .aload 0, .goto_w 13, .iload 4, .sipush 1, .isub, .iaload, .aload 0, .goto_w 12, .iload 3, .iaload, .if_icmp .le 80, .aload 0, .goto_w 13, .iload 4, .aload 0, .goto_w 13, .iload 4, .sipush 1, .isub, .iaload, .iastore, .iinc 4 (-1), .goto 35]),
  (80, [.aload 0, .goto_w 13, .iload 4, .aload 0, .goto_w 12, .iload 3, .iaload, .iastore, .iinc 3 1, .goto 4]),
  (99, [.aload 0, .dup, .getfield 32, .sipush 1, .iadd, .putfield 32, .aload 0, .dup, .getfield 33, .iload 2, .ifCond .eq 122, .sipush 1, .goto 123]),
  (122, [.sipush 0, .jsr 123]),
  (123, [.iadd, .putfield 33, .aload 0, .aload 0, .getfield 36, .iload 1, .fmul, .putfield 36, .sipush 0, .istore 3, .jsr 141]),
  (141, [.aload 0, .getfield 35, .sipush (-1), .if_icmp .eq 183, .iload 3, .iload 1, .if_icmp .ge 183, .iload 3, .aload 0, .getfield 35, .if_icmp .ge 183, .aload 0, .goto_w 13, .iload 3, .iaload, .aload 0, .goto_w 14, .iload 3, .iaload, .if_icmp .ne 183, .iinc 3 1, .goto 141]),
  (183, [.aload 0, .getfield 35, .sipush (-1), .if_icmp .eq 219, .iload 3, .iload 1, .if_icmp .eq 219, .iload 3, .aload 0, .getfield 35, .if_icmp .ge 223, .aload 0, .goto_w 13, .iload 3, .iaload, .aload 0, .goto_w 14, .iload 3, .iaload, .if_icmp .ge 223, .jsr 219]),
  (219, [.sipush 1, .goto 224]),
  (223, [.sipush 0, .jsr 224]),
  (224, [.istore 4, .iload 4, .ifCond .ne 232, .return_]),
  (232, [.aload 0, .iload 1, .putfield 35, .sipush 0, .istore 5, .jsr 240]),
  (240, [.iload 5, .iload 1, .if_icmp .ge 266, .aload 0, .goto_w 14, .iload 5, .aload 0, .goto_w 13, .iload 5, .iaload, .iastore, .iinc 5 1, .goto 240]),
  (266, [.return_])]
abbrev m_R_putsOf : Nat := 324
def o_R_putsOf : Ops := [(0, [.aload 0, .iload 1, .sipush 63, .idiv, .iload 1, .sipush 63, .irem, .sipush 21, .idiv, .iload 1, .sipush 21, .irem, .iload 2, .invokeinterface 302 11, .return_])]
abbrev m_R_mayBe : Nat := 325
def o_R_mayBe : Ops := [(0, [.aload 0, .iload 1, .invokeinterface 326 4, .ifCond .eq 22, .aload 0, .iload 1, .aload 0, .goto_w 11, .iload 2, .iaload, .invokeinterface 327 6, .ifCond .ne 24, .jsr 22]),
  (22, [.sipush 0, .freturn]),
  (24, [.sipush 0, .istore 3, .jsr 26]),
  (26, [.iload 3, .iload 2, .if_icmp .ge 63, .iload 1, .aload 0, .goto_w 12, .iload 3, .iaload, .if_icmp .gt 57, .aload 0, .iload 1, .aload 0, .goto_w 11, .iload 3, .iaload, .invokeinterface 327 6, .ifCond .le 57, .sipush 0, .freturn]),
  (57, [.iinc 3 1, .goto 26]),
  (63, [.sipush 1, .freturn])]
abbrev m_R_isCall : Nat := 326
def o_R_isCall : Ops := [(0, [.aload 0, .iload 1, .sipush 63, .idiv, .iload 1, .sipush 63, .irem, .sipush 21, .idiv, .invokeinterface 276 6, .freturn])]
abbrev m_R_inCell : Nat := 327
def o_R_inCell : Ops := [(0, [.iload 1, .sipush 63, .idiv, .istore 3, .aload 0, .goto_w 1, .sipush 50, .iload 2, .sipush 91, .idiv, .iadd, .iaload, .istore 4, .aload 0, .goto_w 9, .sipush 7, .aload 0, .goto_w 1, .iload 3, .invokeinterface 253 2, .iaload, .imul, .iload 4, .iadd, .iaload, .sipush 1000000, .if_icmp .lt 47, .sipush 0, .ireturn]),
  (47, [.iload 2, .sipush 91, .irem, .iload 1, .sipush 21, .irem, .isub, .aload 0, .iload 3, .iload 4, .invokeinterface 304 6, .isub, .istore 5, .iload 5, .ifCond .lt 77, .iload 5, .sipush 2, .if_icmp .le 81, .jsr 77]),
  (77, [.sipush 0, .goto 97]),
  (81, [.aload 0, .iload 3, .iload 1, .sipush 63, .irem, .sipush 21, .idiv, .iload 5, .iload 4, .invokeinterface 303 10, .jsr 97]),
  (97, [.ireturn])]
abbrev m_R_answerAt : Nat := 328
def o_R_answerAt : Ops := [(0, [.iload 1, .i2l, .bipush 0, .bipush 4, .invokeinterface 285 6, .ifCond .eq 16, .iload 2, .ifCond .ge 22, .jsr 16]),
  (16, [.aload 0, .sipush 1, .invokeinterface 233 4, .ireturn]),
  (22, [.aload 0, .goto_w 1, .sipush 6, .iaload, .ifCond .ne 39, .aload 0, .sipush 6, .invokeinterface 233 4, .ireturn]),
  (39, [.aload 0, .iload 1, .sipush (-1), .invokeinterface 321 7, .iload 2, .aload 0, .getfield 35, .if_icmp .lt 62, .aload 0, .sipush 6, .invokeinterface 233 4, .goto 72]),
  (62, [.aload 0, .aload 0, .goto_w 14, .iload 2, .iaload, .invokeinterface 261 4, .jsr 72]),
  (72, [.ireturn])]
abbrev m_R_with : Nat := 329
def o_R_with : Ops := [(0, [.iload 1, .i2l, .bipush 0, .bipush 4, .invokeinterface 285 6, .ifCond .eq 34, .aload 0, .iload 2, .iload 3, .invokeinterface 276 6, .ifCond .eq 34, .iload 4, .i2l, .bipush 0, .bipush 20, .invokeinterface 285 6, .ifCond .ne 40, .jsr 34]),
  (34, [.aload 0, .sipush 1, .invokeinterface 233 4, .ireturn]),
  (40, [.aload 0, .goto_w 1, .sipush 6, .iaload, .ifCond .ne 57, .aload 0, .sipush 6, .invokeinterface 233 4, .ireturn]),
  (57, [.aload 0, .iload 1, .sipush 63, .iload 2, .imul, .sipush 21, .iload 3, .imul, .iadd, .iload 4, .iadd, .invokeinterface 321 7, .aload 0, .aload 0, .getfield 33, .invokeinterface 261 4, .ireturn])]
abbrev m_R_fewest : Nat := 330
def o_R_fewest : Ops := [(0, [.aload 0, .goto_w 1, .sipush 6, .iaload, .ifCond .ne 17, .aload 0, .sipush 6, .invokeinterface 233 4, .ireturn]),
  (17, [.aload 0, .sipush 4, .sipush (-1), .invokeinterface 321 7, .aload 0, .getfield 32, .ifCond .ne 39, .aload 0, .sipush 6, .invokeinterface 233 4, .goto 47]),
  (39, [.aload 0, .aload 0, .getfield 36, .invokeinterface 261 4, .jsr 47]),
  (47, [.ireturn])]
abbrev m_R_slips : Nat := 331
def o_R_slips : Ops := [(0, [.iload 1, .i2l, .bipush 0, .bipush 2, .invokeinterface 285 6, .ifCond .ne 18, .aload 0, .sipush 1, .invokeinterface 233 4, .ireturn]),
  (18, [.aload 0, .goto_w 1, .sipush 6, .iaload, .ifCond .ne 35, .aload 0, .sipush 6, .invokeinterface 233 4, .ireturn]),
  (35, [.aload 0, .iload 1, .invokeinterface 332 5, .aload 0, .aload 0, .getfield 37, .invokeinterface 261 4, .ireturn])]
abbrev m_R_laysSlips : Nat := 332
def o_R_laysSlips : Ops := [(0, [.aload 0, .invokeinterface 282 3, .aload 0, .sipush 1, .invokeinterface 300 5, .aload 0, .sipush 1000000, .putfield 37, .aload 0, .sipush 0, .sipush (-1), .sipush (-1), .invokeinterface 333 9, .sipush 0, .istore 2, .jsr 25]),
  (25, [.iload 2, .sipush 315, .if_icmp .ge 140, .iload 1, .ifCond .le 140, .aload 0, .iload 2, .invokeinterface 326 4, .ifCond .eq 134, .aload 0, .iload 2, .invokeinterface 334 4, .ifCond .ne 55, .goto 134]),
  (55, [.aload 0, .iload 2, .sipush (-1), .invokeinterface 324 7, .aload 0, .sipush 1, .iload 2, .sipush (-1), .invokeinterface 333 9, .iload 2, .sipush 1, .iadd, .istore 3, .jsr 72]),
  (72, [.iload 3, .sipush 315, .if_icmp .ge 128, .iload 1, .sipush 1, .if_icmp .le 128, .aload 0, .iload 3, .invokeinterface 326 4, .ifCond .eq 122, .aload 0, .iload 3, .invokeinterface 334 4, .ifCond .ne 103, .goto 122]),
  (103, [.aload 0, .iload 3, .sipush (-1), .invokeinterface 324 7, .aload 0, .sipush 2, .iload 2, .iload 3, .invokeinterface 333 9, .aload 0, .iload 3, .sipush 1, .invokeinterface 324 7, .jsr 122]),
  (122, [.iinc 3 1, .goto 72]),
  (128, [.aload 0, .iload 2, .sipush 1, .invokeinterface 324 7, .jsr 134]),
  (134, [.iinc 2 1, .goto 25]),
  (140, [.return_])]
abbrev m_R_slipsBy : Nat := 333
def o_R_slipsBy : Ops := [(0, [.aload 0, .getfield 26, .aload 0, .getfield 27, .iadd, .aload 0, .getfield 37, .if_icmp .lt 17, .return_]),
  (17, [.aload 0, .aload 0, .getfield 26, .aload 0, .getfield 27, .iadd, .putfield 37, .aload 0, .iload 1, .putfield 38, .aload 0, .iload 2, .putfield 39, .aload 0, .iload 3, .putfield 40, .return_])]
abbrev m_R_isLoud : Nat := 334
def o_R_isLoud : Ops := [(0, [.sipush 0, .istore 2, .jsr 2]),
  (2, [.iload 2, .aload 0, .goto_w 1, .sipush 2, .iaload, .if_icmp .ge 61, .sipush 0, .istore 3, .jsr 14]),
  (14, [.iload 3, .sipush 3, .if_icmp .ge 55, .aload 0, .iload 1, .sipush 63, .idiv, .iload 1, .sipush 63, .irem, .sipush 21, .idiv, .iload 3, .aload 0, .goto_w 1, .sipush 50, .iload 2, .iadd, .iaload, .invokeinterface 303 10, .ifCond .le 49, .sipush 1, .freturn]),
  (49, [.iinc 3 1, .goto 14]),
  (55, [.iinc 2 1, .goto 2]),
  (61, [.sipush 0, .freturn])]
abbrev m_R_slipsAt : Nat := 335
def o_R_slipsAt : Ops := [(0, [.iload 1, .i2l, .bipush 0, .bipush 2, .invokeinterface 285 6, .ifCond .eq 16, .iload 2, .ifCond .ge 22, .jsr 16]),
  (16, [.aload 0, .sipush 1, .invokeinterface 233 4, .ireturn]),
  (22, [.aload 0, .goto_w 1, .sipush 6, .iaload, .ifCond .ne 39, .aload 0, .sipush 6, .invokeinterface 233 4, .ireturn]),
  (39, [.aload 0, .iload 1, .invokeinterface 332 5, .iload 2, .aload 0, .getfield 38, .if_icmp .lt 59, .aload 0, .sipush 6, .invokeinterface 233 4, .ireturn]),
  (59, [.aload 0, .iload 2, .ifCond .ne 71, .aload 0, .getfield 39, .goto 75]),
  (71, [.aload 0, .getfield 40, .jsr 75]),
  (75, [.invokeinterface 261 4, .ireturn])]
abbrev m_R_moved : Nat := 336
def o_R_moved : Ops := [(0, [.aload 0, .goto_w 1, .sipush 6, .iaload, .ifCond .ne 19, .aload 0, .sipush 6, .invokeinterface 233 4, .goto 28]),
  (19, [.aload 0, .aload 0, .sipush (-1), .invokeinterface 337 4, .invokeinterface 261 4, .jsr 28]),
  (28, [.ireturn])]
abbrev m_R_movedOf : Nat := 337
def o_R_movedOf : Ops := [(0, [.sipush 0, .istore 2, .sipush 0, .istore 3, .jsr 4]),
  (4, [.iload 3, .aload 0, .goto_w 1, .sipush 1, .iaload, .if_icmp .ge 201, .iload 3, .invokeinterface 246 2, .istore 4, .aload 0, .goto_w 1, .iload 4, .sipush 2, .iadd, .iaload, .istore 5, .aload 0, .goto_w 1, .iload 4, .sipush 3, .iadd, .iaload, .istore 6, .sipush (-1), .istore 7, .sipush 0, .istore 8, .jsr 48]),
  (48, [.iload 8, .sipush 90, .if_icmp .ge 164, .iload 7, .sipush (-1), .if_icmp .ne 164, .sipush 1, .iload 8, .sipush 10, .idiv, .iadd, .iload 5, .if_icmp .ne 86, .iload 8, .sipush 10, .irem, .iload 6, .if_icmp .ne 86, .goto 158]),
  (86, [.aload 0, .goto_w 1, .iload 4, .sipush 2, .iadd, .sipush 1, .iload 8, .sipush 10, .idiv, .iadd, .iastore, .aload 0, .goto_w 1, .iload 4, .sipush 3, .iadd, .iload 8, .sipush 10, .irem, .iastore, .aload 0, .invokeinterface 318 2, .ifCond .le 126, .goto 158]),
  (126, [.iload 2, .iload 1, .if_icmp .ne 155, .sipush 1000, .iload 3, .imul, .sipush 10, .sipush 1, .iload 8, .sipush 10, .idiv, .iadd, .imul, .iadd, .iload 8, .sipush 10, .irem, .iadd, .istore 7, .jsr 155]),
  (155, [.iinc 2 1, .jsr 158]),
  (158, [.iinc 8 1, .goto 48]),
  (164, [.aload 0, .goto_w 1, .iload 4, .sipush 2, .iadd, .iload 5, .iastore, .aload 0, .goto_w 1, .iload 4, .sipush 3, .iadd, .iload 6, .iastore, .iload 7, .sipush (-1), .if_icmp .eq 195, .iload 7, .ireturn]),
  (195, [.iinc 3 1, .goto 4]),
  (201, [.iload 1, .ifCond .ge 209, .iload 2, .goto 210]),
  (209, [.sipush (-1), .jsr 210]),
  (210, [.ireturn])]
abbrev m_R_movedAt : Nat := 338
def o_R_movedAt : Ops := [(0, [.iload 1, .ifCond .lt 13, .iload 2, .ifCond .lt 13, .iload 2, .sipush 2, .if_icmp .le 19, .jsr 13]),
  (13, [.aload 0, .sipush 1, .invokeinterface 233 4, .ireturn]),
  (19, [.aload 0, .goto_w 1, .sipush 6, .iaload, .ifCond .ne 33, .sipush (-1), .goto 38]),
  (33, [.aload 0, .iload 1, .invokeinterface 337 4, .jsr 38]),
  (38, [.istore 3, .iload 3, .sipush (-1), .if_icmp .ne 51, .aload 0, .sipush 6, .invokeinterface 233 4, .ireturn]),
  (51, [.aload 0, .iload 2, .ifCond .ne 64, .iload 3, .sipush 1000, .idiv, .goto 84]),
  (64, [.iload 2, .sipush 1, .if_icmp .ne 80, .iload 3, .sipush 1000, .irem, .sipush 10, .idiv, .goto 84]),
  (80, [.iload 3, .sipush 10, .irem, .jsr 84]),
  (84, [.invokeinterface 261 4, .ireturn])]
abbrev m_R_alike : Nat := 339
def o_R_alike : Ops := [(0, [.aload 0, .iload 1, .iload 2, .invokeinterface 276 6, .ifCond .eq 30, .aload 0, .iload 3, .iload 4, .invokeinterface 276 6, .ifCond .eq 30, .iload 1, .iload 3, .if_icmp .ne 36, .iload 2, .iload 4, .if_icmp .ne 36, .jsr 30]),
  (30, [.aload 0, .sipush 1, .invokeinterface 233 4, .ireturn]),
  (36, [.aload 0, .invokeinterface 282 3, .aload 0, .sipush 3, .iload 1, .imul, .iload 2, .iadd, .sipush 3, .iload 3, .imul, .iload 4, .iadd, .aload 0, .invokeinterface 340 2, .invokeinterface 341 8, .istore 5, .iload 5, .sipush 1000000, .if_icmp .ne 78, .aload 0, .sipush 6, .invokeinterface 233 4, .goto 84]),
  (78, [.aload 0, .iload 5, .invokeinterface 261 4, .jsr 84]),
  (84, [.ireturn])]
abbrev m_R_slatePlaces : Nat := 340
def o_R_slatePlaces : Ops := [(0, [.sipush 0, .istore 1, .sipush 0, .istore 2, .jsr 4]),
  (4, [.iload 2, .aload 0, .goto_w 1, .sipush 2, .iaload, .if_icmp .ge 34, .iload 1, .sipush 1, .aload 0, .goto_w 1, .sipush 50, .iload 2, .iadd, .iaload, .ishl, .ior, .istore 1, .iinc 2 1, .goto 4]),
  (34, [.iload 1, .ireturn])]
abbrev m_R_laterOf : Nat := 341
def o_R_laterOf : Ops := [(0, [.sipush 0, .istore 4, .jsr 3]),
  (3, [.iload 4, .sipush 20, .if_icmp .gt 48, .aload 0, .iload 1, .iload 2, .iload 3, .iload 4, .invokeinterface 342 10, .ifCond .eq 25, .iload 4, .ireturn]),
  (25, [.aload 0, .iload 1, .iload 2, .iload 3, .iload 4, .ineg, .invokeinterface 342 10, .ifCond .eq 42, .iload 4, .ineg, .ireturn]),
  (42, [.iinc 4 1, .goto 3]),
  (48, [.sipush 1000000, .ireturn])]
abbrev m_R_areAlikeBy : Nat := 342
def o_R_areAlikeBy : Ops := [(0, [.sipush 0, .istore 5, .jsr 3]),
  (3, [.iload 5, .aload 0, .goto_w 1, .sipush 0, .iaload, .if_icmp .ge 76, .aload 0, .iload 3, .iload 5, .invokeinterface 343 6, .ifCond .ne 27, .goto 70]),
  (27, [.sipush (-20), .istore 6, .jsr 31]),
  (31, [.iload 6, .sipush 91, .if_icmp .ge 70, .aload 0, .iload 1, .iload 5, .iload 6, .invokeinterface 344 8, .aload 0, .iload 2, .iload 5, .iload 6, .iload 4, .isub, .invokeinterface 344 8, .if_icmp .eq 64, .sipush 0, .freturn]),
  (64, [.iinc 6 1, .goto 31]),
  (70, [.iinc 5 1, .goto 3]),
  (76, [.sipush 1, .freturn])]
abbrev m_R_isIn : Nat := 343
def o_R_isIn : Ops := [(0, [.iload 1, .iload 2, .ishr, .sipush 1, .iand, .sipush 1, .if_icmp .ne 13, .sipush 1, .goto 14]),
  (13, [.sipush 0, .jsr 14]),
  (14, [.freturn])]
abbrev m_R_inBeat : Nat := 344
def o_R_inBeat : Ops := [(0, [.iload 1, .sipush 3, .idiv, .istore 4, .aload 0, .goto_w 9, .sipush 7, .aload 0, .goto_w 1, .iload 4, .invokeinterface 253 2, .iaload, .imul, .iload 2, .iadd, .iaload, .sipush 1000000, .if_icmp .lt 33, .sipush 0, .ireturn]),
  (33, [.iload 3, .aload 0, .iload 4, .iload 2, .invokeinterface 304 6, .isub, .istore 5, .iload 5, .ifCond .lt 55, .iload 5, .sipush 2, .if_icmp .le 59, .jsr 55]),
  (55, [.sipush 0, .goto 71]),
  (59, [.aload 0, .iload 4, .iload 1, .sipush 3, .irem, .iload 5, .iload 2, .invokeinterface 303 10, .jsr 71]),
  (71, [.ireturn])]
abbrev m_R_parts : Nat := 345
def o_R_parts : Ops := [(0, [.iload 1, .i2l, .bipush 0, .bipush 1, .aload 0, .goto_w 1, .sipush 0, .iaload, .lshl, .bipush 1, .lsub, .invokeinterface 285 6, .ifCond .ne 25, .aload 0, .sipush 1, .invokeinterface 233 4, .ireturn]),
  (25, [.aload 0, .invokeinterface 282 3, .aload 0, .aload 0, .iload 1, .invokeinterface 346 4, .ifCond .eq 42, .sipush 1, .goto 43]),
  (42, [.sipush 0, .jsr 43]),
  (43, [.invokeinterface 261 4, .ireturn])]
abbrev m_R_doesPart : Nat := 346
def o_R_doesPart : Ops := [(0, [.sipush 0, .istore 2, .jsr 2]),
  (2, [.iload 2, .sipush 15, .if_icmp .ge 61, .iload 2, .sipush 1, .iadd, .istore 3, .jsr 12]),
  (12, [.iload 3, .sipush 15, .if_icmp .ge 55, .aload 0, .iload 2, .invokeinterface 347 4, .ifCond .eq 55, .aload 0, .iload 3, .invokeinterface 347 4, .ifCond .eq 49, .aload 0, .iload 2, .iload 3, .iload 1, .invokeinterface 341 8, .sipush 1000000, .if_icmp .eq 49, .sipush 0, .freturn]),
  (49, [.iinc 3 1, .goto 12]),
  (55, [.iinc 2 1, .goto 2]),
  (61, [.sipush 1, .freturn])]
abbrev m_R_isCryOf : Nat := 347
def o_R_isCryOf : Ops := [(0, [.aload 0, .iload 1, .sipush 3, .idiv, .iload 1, .sipush 3, .irem, .invokeinterface 276 6, .freturn])]
abbrev m_R_hanging : Nat := 348
def o_R_hanging : Ops := [(0, [.aload 0, .invokeinterface 349 2, .istore 1, .iload 1, .sipush (-1), .if_icmp .ne 19, .aload 0, .sipush 6, .invokeinterface 233 4, .goto 27]),
  (19, [.aload 0, .iload 1, .invokeinterface 350 2, .invokeinterface 261 4, .jsr 27]),
  (27, [.ireturn])]
abbrev m_R_hangingOf : Nat := 349
def o_R_hangingOf : Ops := [(0, [.aload 0, .invokeinterface 282 3, .sipush (-1), .istore 1, .sipush 0, .istore 2, .jsr 8]),
  (8, [.iload 2, .sipush 1, .aload 0, .goto_w 1, .sipush 0, .iaload, .ishl, .if_icmp .ge 52, .iload 1, .sipush (-1), .if_icmp .eq 36, .iload 2, .invokeinterface 350 2, .iload 1, .invokeinterface 350 2, .if_icmp .ge 46, .jsr 36]),
  (36, [.aload 0, .iload 2, .invokeinterface 346 4, .ifCond .eq 46, .iload 2, .istore 1, .jsr 46]),
  (46, [.iinc 2 1, .goto 8]),
  (52, [.iload 1, .ireturn])]
abbrev m_R_bits : Nat := 350
def o_R_bits : Ops := [(0, [.sipush 0, .istore 1, .iload 0, .istore 2, .jsr 4]),
  (4, [.iload 2, .ifCond .eq 20, .iinc 1 1, .iload 2, .iload 2, .sipush 1, .isub, .iand, .istore 2, .goto 4]),
  (20, [.iload 1, .ireturn])]
abbrev m_R_hangingSet : Nat := 351
def o_R_hangingSet : Ops := [(0, [.aload 0, .aload 0, .invokeinterface 349 2, .invokeinterface 314 4, .ireturn])]
abbrev m_R_chance : Nat := 352
def o_R_chance : Ops := [(0, [.aload 0, .iload 1, .invokeinterface 272 4, .ifCond .eq 27, .iload 2, .invokeinterface 307 2, .ifCond .eq 27, .iload 3, .i2l, .bipush 0, .bipush 999, .invokeinterface 285 6, .ifCond .ne 33, .jsr 27]),
  (27, [.aload 0, .sipush 1, .invokeinterface 218 4, .freturn]),
  (33, [.aload 0, .invokeinterface 282 3, .aload 0, .goto_w 1, .sipush 4, .iaload, .istore 4, .bipush 0, .lstore 5, .sipush 0, .istore 7, .jsr 51]),
  (51, [.iload 7, .sipush 1, .iload 4, .ishl, .if_icmp .ge 169, .bipush 1, .lstore 8, .sipush 0, .istore 10, .sipush 0, .istore 11, .jsr 69]),
  (69, [.iload 11, .iload 4, .if_icmp .ge 146, .lload 8, .aload 0, .iload 7, .iload 11, .invokeinterface 343 6, .ifCond .eq 102, .sipush 16, .aload 0, .goto_w 1, .sipush 5, .iaload, .isub, .i2l, .goto 109]),
  (102, [.aload 0, .goto_w 1, .sipush 5, .iaload, .i2l, .jsr 109]),
  (109, [.lmul, .lstore 8, .iload 10, .aload 0, .iload 7, .iload 11, .invokeinterface 343 6, .ifCond .eq 136, .aload 0, .iload 11, .iload 1, .iload 2, .invokeinterface 310 8, .goto 137]),
  (136, [.sipush 0, .jsr 137]),
  (137, [.iadd, .istore 10, .iinc 11 1, .goto 69]),
  (146, [.lload 5, .iload 10, .iload 3, .if_icmp .lt 159, .lload 8, .goto 160]),
  (159, [.bipush 0, .jsr 160]),
  (160, [.ladd, .lstore 5, .iinc 7 1, .goto 51]),
  (169, [.aload 0, .lload 5, .bipush 1, .sipush 4, .iload 4, .imul, .lshl, .invokeinterface 353 6, .freturn])]
abbrev m_R_tellsBy : Nat := 353
def o_R_tellsBy : Ops := [(0, [.lload 1, .lstore 5, .lload 3, .lstore 7, .jsr 6]),
  (6, [.lload 7, .bipush 0, .lcmp, .ifCond .eq 31, .lload 5, .lload 7, .lrem, .lstore 9, .lload 7, .lstore 5, .lload 9, .lstore 7, .goto 6]),
  (31, [.aload 0, .lload 1, .lload 5, .ldiv, .putfield 3, .aload 0, .lload 3, .lload 5, .ldiv, .putfield 4, .aload 0, .sipush 0, .invokeinterface 218 4, .freturn])]
abbrev m_R_quiet : Nat := 354
def o_R_quiet : Ops := [(0, [.aload 0, .iload 1, .invokeinterface 272 4, .ifCond .ne 14, .aload 0, .sipush 1, .invokeinterface 218 4, .freturn]),
  (14, [.aload 0, .invokeinterface 282 3, .bipush 1, .lstore 2, .bipush 1, .lstore 4, .sipush 0, .istore 6, .jsr 26]),
  (26, [.iload 6, .aload 0, .goto_w 1, .sipush 4, .iaload, .if_icmp .ge 74, .aload 0, .iload 6, .iload 1, .invokeinterface 355 6, .ifCond .ne 50, .goto 68]),
  (50, [.lload 2, .aload 0, .goto_w 1, .sipush 5, .iaload, .i2l, .lmul, .lstore 2, .lload 4, .bipush 16, .lmul, .lstore 4, .jsr 68]),
  (68, [.iinc 6 1, .goto 26]),
  (74, [.aload 0, .lload 2, .lload 4, .invokeinterface 353 6, .freturn])]
abbrev m_R_isHeardOn : Nat := 355
def o_R_isHeardOn : Ops := [(0, [.sipush 0, .istore 3, .jsr 2]),
  (2, [.iload 3, .sipush 3, .if_icmp .ge 44, .aload 0, .aload 0, .iload 1, .sipush 0, .invokeinterface 279 6, .aload 0, .iload 1, .sipush 1, .invokeinterface 279 6, .iload 3, .aload 0, .goto_w 1, .sipush 50, .iload 2, .iadd, .iaload, .invokeinterface 303 10, .ifCond .le 38, .sipush 1, .freturn]),
  (38, [.iinc 3 1, .goto 2]),
  (44, [.sipush 0, .freturn])]
abbrev m_R_live : Nat := 356
def o_R_live : Ops := [(0, [.iload 1, .i2l, .bipush 0, .bipush 9999, .invokeinterface 285 6, .ifCond .ne 18, .aload 0, .sipush 1, .invokeinterface 233 4, .ireturn]),
  (18, [.aload 0, .goto_w 1, .sipush 7, .iaload, .sipush (-1), .if_icmp .ne 36, .aload 0, .sipush 6, .invokeinterface 233 4, .ireturn]),
  (36, [.aload 0, .iload 1, .invokeinterface 357 5, .sipush 0, .istore 2, .jsr 43]),
  (43, [.iload 2, .sipush 5, .if_icmp .ge 66, .aload 0, .goto_w 17, .iload 2, .aload 0, .goto_w 16, .iload 2, .iaload, .iastore, .iinc 2 1, .goto 43]),
  (66, [.aload 0, .sipush 1, .putstatic 46, .aload 0, .aload 0, .getfield 42, .invokeinterface 261 4, .ireturn])]
abbrev m_R_lives : Nat := 357
def o_R_lives : Ops := [(0, [.aload 0, .iload 1, .putfield 41, .aload 0, .sipush 0, .putfield 42, .sipush 0, .istore 2, .jsr 12]),
  (12, [.iload 2, .sipush 5, .if_icmp .ge 30, .aload 0, .goto_w 16, .iload 2, .sipush 0, .iastore, .iinc 2 1, .goto 12]),
  (30, [.sipush 0, .istore 2, .jsr 32]),
  (32, [.iload 2, .aload 0, .goto_w 1, .sipush 7, .iaload, .if_icmp .ge 185, .aload 0, .getfield 42, .sipush 300, .if_icmp .ne 61, .aload 0, .goto_w 16, .sipush 4, .sipush 1, .iastore, .return_]),
  (61, [.sipush 500, .sipush 6, .iload 2, .imul, .iadd, .istore 3, .aload 0, .dup, .getfield 42, .sipush 1, .iadd, .putfield 42, .aload 0, .goto_w 1, .iload 3, .iaload, .sipush 18, .if_icmp .ne 92, .return_]),
  (92, [.aload 0, .goto_w 16, .sipush 0, .dup2, .iaload, .aload 0, .iload 3, .invokeinterface 358 4, .ifCond .eq 111, .sipush 0, .goto 112]),
  (111, [.sipush 1, .jsr 112]),
  (112, [.iadd, .iastore, .aload 0, .goto_w 1, .iload 3, .iaload, .sipush 16, .if_icmp .ne 141, .aload 0, .goto_w 15, .iload 2, .aload 0, .goto_w 1, .iload 3, .sipush 1, .iadd, .iaload, .sipush 1, .isub, .iastore, .jsr 141]),
  (141, [.aload 0, .aload 0, .goto_w 1, .iload 3, .iaload, .sipush 1500, .if_icmp .lt 175, .aload 0, .iload 3, .invokeinterface 363 4, .ifCond .ne 175, .aload 0, .goto_w 1, .iload 3, .sipush 4, .iadd, .iaload, .sipush 1, .iadd, .goto 178]),
  (175, [.iload 2, .sipush 1, .iadd, .jsr 178]),
  (178, [.invokeinterface 365 4, .istore 2, .goto 32]),
  (185, [.return_])]
abbrev m_R_does : Nat := 358
def o_R_does : Ops := [(0, [.aload 0, .goto_w 1, .iload 1, .sipush 1, .iadd, .iaload, .istore 2, .aload 0, .goto_w 1, .iload 1, .sipush 2, .iadd, .iaload, .istore 3, .aload 0, .goto_w 1, .iload 1, .iaload, .lookupswitch 131 #[(10, 60), (11, 88), (12, 106), (13, 121), (14, 126)]]),
  (60, [.aload 0, .sipush 1, .aload 0, .iload 2, .iload 3, .aload 0, .goto_w 1, .iload 1, .sipush 3, .iadd, .iaload, .invokeinterface 286 8, .ifCond .ne 83, .sipush 1, .goto 84]),
  (83, [.sipush 0, .jsr 84]),
  (84, [.invokeinterface 359 6, .freturn]),
  (88, [.aload 0, .sipush 2, .aload 0, .aload 0, .goto_w 1, .sipush 4, .iaload, .sipush 1, .isub, .invokeinterface 289 4, .invokeinterface 359 6, .freturn]),
  (106, [.aload 0, .sipush 3, .aload 0, .iload 2, .invokeinterface 253 2, .iload 3, .invokeinterface 291 6, .invokeinterface 359 6, .freturn]),
  (121, [.aload 0, .invokeinterface 360 2, .freturn]),
  (126, [.aload 0, .invokeinterface 361 2, .freturn]),
  (131, [.sipush 1, .freturn])]
abbrev m_R_countsIf : Nat := 359
def o_R_countsIf : Ops := [(0, [.iload 2, .ifCond .eq 14, .aload 0, .goto_w 16, .iload 1, .dup2, .iaload, .sipush 1, .iadd, .iastore, .jsr 14]),
  (14, [.iload 2, .freturn])]
abbrev m_R_recordsIt : Nat := 360
def o_R_recordsIt : Ops := [(0, [.aload 0, .invokeinterface 297 2, .pop, .sipush 1, .freturn])]
abbrev m_R_saysAny : Nat := 361
def o_R_saysAny : Ops := [(0, [.aload 0, .goto_w 1, .sipush 3, .iaload, .ifCond .ne 11, .sipush 0, .freturn]),
  (11, [.aload 0, .aload 0, .goto_w 1, .sipush 3, .iaload, .invokeinterface 362 4, .istore 1, .aload 0, .sipush 3, .invokeinterface 362 4, .istore 2, .aload 0, .sipush 1, .aload 0, .iload 1, .iload 2, .aload 0, .sipush 21, .invokeinterface 362 4, .invokeinterface 286 8, .ifCond .ne 49, .sipush 1, .goto 50]),
  (49, [.sipush 0, .jsr 50]),
  (50, [.invokeinterface 359 6, .freturn])]
abbrev m_R_draw : Nat := 362
def o_R_draw : Ops := [(0, [.aload 0, .aload 0, .getfield 41, .sipush 3203, .imul, .sipush 11437, .iadd, .sipush 65536, .irem, .putfield 41, .aload 0, .getfield 41, .sipush 8, .idiv, .iload 1, .irem, .ireturn])]
abbrev m_R_holds : Nat := 363
def o_R_holds : Ops := [(0, [.aload 0, .goto_w 1, .iload 1, .iaload, .sipush 1500, .isub, .istore 2, .aload 0, .goto_w 1, .iload 1, .sipush 1, .iadd, .iaload, .istore 3, .iload 2, .sipush 9, .if_icmp .ne 52, .aload 0, .goto_w 1, .iload 3, .invokeinterface 253 2, .iaload, .aload 0, .goto_w 1, .iload 1, .sipush 2, .iadd, .iaload, .if_icmp .ne 50, .sipush 1, .goto 51]),
  (50, [.sipush 0, .jsr 51]),
  (51, [.freturn]),
  (52, [.iload 2, .sipush 19, .if_icmp .ne 74, .aload 0, .iload 3, .aload 0, .goto_w 1, .iload 1, .sipush 3, .iadd, .iaload, .invokeinterface 364 6, .goto 80]),
  (74, [.aload 0, .goto_w 1, .sipush 4, .iaload, .jsr 80]),
  (80, [.istore 4, .aload 0, .goto_w 1, .iload 1, .sipush 5, .iadd, .iaload, .sipush 60, .if_icmp .ne 116, .iload 4, .aload 0, .goto_w 1, .iload 1, .sipush 2, .iadd, .iaload, .if_icmp .ge 112, .sipush 1, .goto 168]),
  (112, [.sipush 0, .goto 168]),
  (116, [.aload 0, .goto_w 1, .iload 1, .sipush 5, .iadd, .iaload, .sipush 62, .if_icmp .ne 150, .iload 4, .aload 0, .goto_w 1, .iload 1, .sipush 2, .iadd, .iaload, .if_icmp .le 146, .sipush 1, .goto 168]),
  (146, [.sipush 0, .goto 168]),
  (150, [.iload 4, .aload 0, .goto_w 1, .iload 1, .sipush 2, .iadd, .iaload, .if_icmp .ne 167, .sipush 1, .goto 168]),
  (167, [.sipush 0, .jsr 168]),
  (168, [.freturn])]
abbrev m_R_sumOn : Nat := 364
def o_R_sumOn : Ops := [(0, [.aload 0, .invokeinterface 299 3, .aload 0, .goto_w 10, .sipush 91, .iload 1, .imul, .iload 2, .iadd, .iaload, .ireturn])]
abbrev m_R_behindEnds : Nat := 365
def o_R_behindEnds : Ops := [(0, [.iload 1, .istore 2, .jsr 2]),
  (2, [.iload 2, .aload 0, .goto_w 1, .sipush 7, .iaload, .if_icmp .ge 118, .aload 0, .goto_w 1, .sipush 500, .sipush 6, .iload 2, .imul, .iadd, .iaload, .sipush 17, .if_icmp .ne 118, .aload 0, .goto_w 1, .sipush 500, .sipush 6, .iload 2, .imul, .iadd, .sipush 4, .iadd, .iaload, .istore 3, .aload 0, .goto_w 1, .sipush 500, .sipush 6, .iload 3, .imul, .iadd, .iaload, .sipush 16, .if_icmp .ne 78, .aload 0, .goto_w 15, .iload 3, .iaload, .ifCond .le 78, .sipush 1, .goto 79]),
  (78, [.sipush 0, .jsr 79]),
  (79, [.istore 4, .aload 0, .goto_w 15, .iload 3, .dup2, .iaload, .iload 4, .ifCond .eq 97, .sipush 1, .goto 98]),
  (97, [.sipush 0, .jsr 98]),
  (98, [.isub, .iastore, .iload 4, .ifCond .eq 111, .iload 3, .sipush 1, .iadd, .goto 114]),
  (111, [.iload 2, .sipush 1, .iadd, .jsr 114]),
  (114, [.istore 2, .goto 2]),
  (118, [.iload 2, .ireturn])]
abbrev m_R_lived : Nat := 366
def o_R_lived : Ops := [(0, [.iload 1, .ifCond .lt 9, .iload 1, .sipush 4, .if_icmp .le 17, .jsr 9]),
  (9, [.aload 0, .sipush 1, .invokeinterface 233 4, .goto 43]),
  (17, [.aload 0, .getfield 46, .ifCond .eq 37, .aload 0, .aload 0, .goto_w 17, .iload 1, .iaload, .invokeinterface 261 4, .goto 43]),
  (37, [.aload 0, .sipush 6, .invokeinterface 233 4, .jsr 43]),
  (43, [.ireturn])]
abbrev m_R_mean : Nat := 367
def o_R_mean : Ops := [(0, [.iload 1, .i2l, .bipush 0, .bipush 9999, .invokeinterface 285 6, .ifCond .eq 35, .iload 2, .i2l, .bipush 1, .bipush 20, .invokeinterface 285 6, .ifCond .eq 35, .iload 1, .iload 2, .iadd, .sipush 1, .isub, .sipush 9999, .if_icmp .le 41, .jsr 35]),
  (35, [.aload 0, .sipush 1, .invokeinterface 218 4, .freturn]),
  (41, [.aload 0, .goto_w 1, .sipush 7, .iaload, .sipush (-1), .if_icmp .ne 59, .aload 0, .sipush 6, .invokeinterface 218 4, .freturn]),
  (59, [.sipush 0, .istore 3, .jsr 61]),
  (61, [.iload 3, .sipush 500, .if_icmp .ge 90, .aload 0, .goto_w 1, .sipush 4340, .iload 3, .iadd, .aload 0, .goto_w 1, .iload 3, .iaload, .iastore, .iinc 3 1, .goto 61]),
  (90, [.bipush 0, .lstore 3, .sipush 0, .istore 5, .jsr 95]),
  (95, [.iload 5, .iload 2, .if_icmp .ge 158, .aload 0, .iload 1, .iload 5, .iadd, .invokeinterface 357 5, .lload 3, .aload 0, .invokeinterface 298 2, .i2l, .ladd, .lstore 3, .sipush 0, .istore 6, .jsr 120]),
  (120, [.iload 6, .sipush 500, .if_icmp .ge 152, .aload 0, .goto_w 1, .iload 6, .aload 0, .goto_w 1, .sipush 4340, .iload 6, .iadd, .iaload, .iastore, .iinc 6 1, .goto 120]),
  (152, [.iinc 5 1, .goto 95]),
  (158, [.aload 0, .lload 3, .iload 2, .i2l, .invokeinterface 353 6, .freturn])]
abbrev m_R_mark : Nat := 368
def o_R_mark : Ops := [(0, [.aload 0, .getfield 47, .sipush 3, .if_icmp .ne 14, .aload 0, .sipush 4, .invokeinterface 233 4, .ireturn]),
  (14, [.aload 0, .dup, .getfield 47, .sipush 1, .iadd, .putfield 47, .aload 0, .sipush 0, .aload 0, .getfield 47, .invokeinterface 369 7, .aload 0, .aload 0, .getfield 47, .invokeinterface 261 4, .ireturn])]
abbrev m_R_copies : Nat := 369
def o_R_copies : Ops := [(0, [.sipush 0, .istore 3, .jsr 2]),
  (2, [.iload 3, .sipush 868, .if_icmp .ge 39, .aload 0, .goto_w 1, .sipush 868, .iload 2, .imul, .iload 3, .iadd, .aload 0, .goto_w 1, .sipush 868, .iload 1, .imul, .iload 3, .iadd, .iaload, .iastore, .iinc 3 1, .goto 2]),
  (39, [.sipush 0, .istore 3, .jsr 41]),
  (41, [.iload 3, .sipush 16, .if_icmp .ge 75, .aload 0, .goto_w 2, .sipush 16, .iload 2, .imul, .iload 3, .iadd, .aload 0, .goto_w 2, .sipush 16, .iload 1, .imul, .iload 3, .iadd, .laload, .lastore, .iinc 3 1, .goto 41]),
  (75, [.return_])]
abbrev m_R_undo : Nat := 370
def o_R_undo : Ops := [(0, [.aload 0, .getfield 47, .ifCond .ne 14, .aload 0, .sipush 6, .invokeinterface 233 4, .ireturn]),
  (14, [.aload 0, .aload 0, .getfield 47, .sipush 0, .invokeinterface 369 7, .aload 0, .dup, .getfield 47, .sipush 1, .isub, .putfield 47, .aload 0, .aload 0, .getfield 47, .invokeinterface 261 4, .ireturn])]
def o_law : Ops := [(16, [.sipush 0, .istore 3, .jsr 18]),
  (18, [.iload 3, .aload 0, .i2f, .sipush 6, .isub, .if_icmp .gt 1979, .aload 0, .iload 3, .saload, .sipush 63, .iand, .lookupswitch 1973 #[(0, 272), (1, 285), (2, 299), (3, 313), (4, 356), (5, 429), (6, 463), (7, 526), (8, 589), (9, 612), (10, 635), (11, 658), (12, 681), (13, 714), (14, 737), (15, 770), (16, 813), (17, 846), (18, 889), (19, 912), (20, 945), (21, 978), (22, 1021), (23, 1074), (24, 1097), (25, 1110), (26, 1153), (27, 1186), (28, 1219), (29, 1252), (30, 1285), (31, 1308), (32, 1331), (33, 1354), (34, 1377), (35, 1410), (36, 1423), (37, 1476), (38, 1499), (39, 1532), (40, 1585), (41, 1598), (42, 1621), (43, 1654), (44, 1667), (45, 1700), (46, 1753), (47, 1776), (48, 1789), (49, 1802), (50, 1845), (51, 1868), (52, 1891), (53, 1914), (54, 1947), (55, 1960)]]),
  (272, [.aload 1, .invokeinterface 0 2, .aload 2, .invokeinterface 213 2, .if_icmp .eq 1973, .sipush 0, .freturn]),
  (285, [.aload 1, .invokeinterface 1 2, .aload 2, .invokeinterface 214 2, .lcmp, .ifCond .eq 1973, .sipush 0, .freturn]),
  (299, [.aload 1, .invokeinterface 2 2, .aload 2, .invokeinterface 215 2, .lcmp, .ifCond .eq 1973, .sipush 0, .freturn]),
  (313, [.aload 1, .aload 0, .iload 3, .sipush 1, .iadd, .saload, .aload 0, .iload 3, .sipush 2, .iadd, .saload, .aload 0, .iload 3, .sipush 3, .iadd, .saload, .invokeinterface 3 8, .aload 2, .aload 0, .iload 3, .sipush 1, .iadd, .saload, .aload 0, .iload 3, .sipush 2, .iadd, .saload, .aload 0, .iload 3, .sipush 3, .iadd, .saload, .invokeinterface 216 8, .if_icmp .eq 1973, .sipush 0, .freturn]),
  (356, [.aload 1, .aload 0, .iload 3, .sipush 1, .iadd, .saload, .aload 0, .iload 3, .sipush 2, .iadd, .saload, .aload 0, .iload 3, .sipush 3, .iadd, .saload, .i2l, .sipush 32, .lshl, .aload 0, .iload 3, .sipush 4, .iadd, .saload, .i2l, .bipush 4294967295, .land, .lor, .invokeinterface 8 8, .aload 2, .aload 0, .iload 3, .sipush 1, .iadd, .saload, .aload 0, .iload 3, .sipush 2, .iadd, .saload, .aload 0, .iload 3, .sipush 3, .iadd, .saload, .i2l, .sipush 32, .lshl, .aload 0, .iload 3, .sipush 4, .iadd, .saload, .i2l, .bipush 4294967295, .land, .lor, .invokeinterface 219 8, .if_icmp .eq 1973, .sipush 0, .freturn]),
  (429, [.aload 1, .aload 0, .iload 3, .sipush 1, .iadd, .saload, .aload 0, .iload 3, .sipush 2, .iadd, .saload, .invokeinterface 13 6, .aload 2, .aload 0, .iload 3, .sipush 1, .iadd, .saload, .aload 0, .iload 3, .sipush 2, .iadd, .saload, .invokeinterface 222 6, .lcmp, .ifCond .eq 1973, .sipush 0, .freturn]),
  (463, [.aload 1, .aload 0, .iload 3, .sipush 1, .iadd, .saload, .aload 0, .iload 3, .sipush 2, .iadd, .saload, .aload 0, .iload 3, .sipush 3, .iadd, .saload, .aload 0, .iload 3, .sipush 4, .iadd, .saload, .aload 0, .iload 3, .sipush 5, .iadd, .saload, .invokeinterface 15 12, .aload 2, .aload 0, .iload 3, .sipush 1, .iadd, .saload, .aload 0, .iload 3, .sipush 2, .iadd, .saload, .aload 0, .iload 3, .sipush 3, .iadd, .saload, .aload 0, .iload 3, .sipush 4, .iadd, .saload, .aload 0, .iload 3, .sipush 5, .iadd, .saload, .invokeinterface 223 12, .if_icmp .eq 1973, .sipush 0, .freturn]),
  (526, [.aload 1, .aload 0, .iload 3, .sipush 1, .iadd, .saload, .aload 0, .iload 3, .sipush 2, .iadd, .saload, .aload 0, .iload 3, .sipush 3, .iadd, .saload, .aload 0, .iload 3, .sipush 4, .iadd, .saload, .aload 0, .iload 3, .sipush 5, .iadd, .saload, .invokeinterface 18 12, .aload 2, .aload 0, .iload 3, .sipush 1, .iadd, .saload, .aload 0, .iload 3, .sipush 2, .iadd, .saload, .aload 0, .iload 3, .sipush 3, .iadd, .saload, .aload 0, .iload 3, .sipush 4, .iadd, .saload, .aload 0, .iload 3, .sipush 5, .iadd, .saload, .invokeinterface 224 12, .if_icmp .eq 1973, .sipush 0, .freturn]),
  (589, [.aload 1, .aload 0, .iload 3, .sipush 1, .iadd, .saload, .invokeinterface 20 4, .aload 2, .aload 0, .iload 3, .sipush 1, .iadd, .saload, .invokeinterface 227 4, .if_icmp .eq 1973, .sipush 0, .freturn]),
  (612, [.aload 1, .aload 0, .iload 3, .sipush 1, .iadd, .saload, .invokeinterface 71 4, .aload 2, .aload 0, .iload 3, .sipush 1, .iadd, .saload, .invokeinterface 262 4, .if_icmp .eq 1973, .sipush 0, .freturn]),
  (635, [.aload 1, .aload 0, .iload 3, .sipush 1, .iadd, .saload, .invokeinterface 85 4, .aload 2, .aload 0, .iload 3, .sipush 1, .iadd, .saload, .invokeinterface 226 4, .if_icmp .eq 1973, .sipush 0, .freturn]),
  (658, [.aload 1, .aload 0, .iload 3, .sipush 1, .iadd, .saload, .invokeinterface 86 4, .aload 2, .aload 0, .iload 3, .sipush 1, .iadd, .saload, .invokeinterface 268 4, .if_icmp .eq 1973, .sipush 0, .freturn]),
  (681, [.aload 1, .aload 0, .iload 3, .sipush 1, .iadd, .saload, .aload 0, .iload 3, .sipush 2, .iadd, .saload, .invokeinterface 88 6, .aload 2, .aload 0, .iload 3, .sipush 1, .iadd, .saload, .aload 0, .iload 3, .sipush 2, .iadd, .saload, .invokeinterface 270 6, .if_icmp .eq 1973, .sipush 0, .freturn]),
  (714, [.aload 1, .aload 0, .iload 3, .sipush 1, .iadd, .saload, .invokeinterface 90 4, .aload 2, .aload 0, .iload 3, .sipush 1, .iadd, .saload, .invokeinterface 271 4, .if_icmp .eq 1973, .sipush 0, .freturn]),
  (737, [.aload 1, .aload 0, .iload 3, .sipush 1, .iadd, .saload, .aload 0, .iload 3, .sipush 2, .iadd, .saload, .invokeinterface 92 6, .aload 2, .aload 0, .iload 3, .sipush 1, .iadd, .saload, .aload 0, .iload 3, .sipush 2, .iadd, .saload, .invokeinterface 273 6, .if_icmp .eq 1973, .sipush 0, .freturn]),
  (770, [.aload 1, .aload 0, .iload 3, .sipush 1, .iadd, .saload, .aload 0, .iload 3, .sipush 2, .iadd, .saload, .aload 0, .iload 3, .sipush 3, .iadd, .saload, .invokeinterface 94 8, .aload 2, .aload 0, .iload 3, .sipush 1, .iadd, .saload, .aload 0, .iload 3, .sipush 2, .iadd, .saload, .aload 0, .iload 3, .sipush 3, .iadd, .saload, .invokeinterface 275 8, .if_icmp .eq 1973, .sipush 0, .freturn]),
  (813, [.aload 1, .aload 0, .iload 3, .sipush 1, .iadd, .saload, .aload 0, .iload 3, .sipush 2, .iadd, .saload, .invokeinterface 96 6, .aload 2, .aload 0, .iload 3, .sipush 1, .iadd, .saload, .aload 0, .iload 3, .sipush 2, .iadd, .saload, .invokeinterface 278 6, .if_icmp .eq 1973, .sipush 0, .freturn]),
  (846, [.aload 1, .aload 0, .iload 3, .sipush 1, .iadd, .saload, .aload 0, .iload 3, .sipush 2, .iadd, .saload, .aload 0, .iload 3, .sipush 3, .iadd, .saload, .invokeinterface 101 8, .aload 2, .aload 0, .iload 3, .sipush 1, .iadd, .saload, .aload 0, .iload 3, .sipush 2, .iadd, .saload, .aload 0, .iload 3, .sipush 3, .iadd, .saload, .invokeinterface 284 8, .if_icmp .eq 1973, .sipush 0, .freturn]),
  (889, [.aload 1, .aload 0, .iload 3, .sipush 1, .iadd, .saload, .invokeinterface 102 4, .aload 2, .aload 0, .iload 3, .sipush 1, .iadd, .saload, .invokeinterface 288 4, .if_icmp .eq 1973, .sipush 0, .freturn]),
  (912, [.aload 1, .aload 0, .iload 3, .sipush 1, .iadd, .saload, .aload 0, .iload 3, .sipush 2, .iadd, .saload, .invokeinterface 104 6, .aload 2, .aload 0, .iload 3, .sipush 1, .iadd, .saload, .aload 0, .iload 3, .sipush 2, .iadd, .saload, .invokeinterface 290 6, .if_icmp .eq 1973, .sipush 0, .freturn]),
  (945, [.aload 1, .aload 0, .iload 3, .sipush 1, .iadd, .saload, .aload 0, .iload 3, .sipush 2, .iadd, .saload, .invokeinterface 106 6, .aload 2, .aload 0, .iload 3, .sipush 1, .iadd, .saload, .aload 0, .iload 3, .sipush 2, .iadd, .saload, .invokeinterface 292 6, .if_icmp .eq 1973, .sipush 0, .freturn]),
  (978, [.aload 1, .aload 0, .iload 3, .sipush 1, .iadd, .saload, .aload 0, .iload 3, .sipush 2, .iadd, .saload, .aload 0, .iload 3, .sipush 3, .iadd, .saload, .invokeinterface 107 8, .aload 2, .aload 0, .iload 3, .sipush 1, .iadd, .saload, .aload 0, .iload 3, .sipush 2, .iadd, .saload, .aload 0, .iload 3, .sipush 3, .iadd, .saload, .invokeinterface 293 8, .if_icmp .eq 1973, .sipush 0, .freturn]),
  (1021, [.aload 1, .aload 0, .iload 3, .sipush 1, .iadd, .saload, .aload 0, .iload 3, .sipush 2, .iadd, .saload, .aload 0, .iload 3, .sipush 3, .iadd, .saload, .aload 0, .iload 3, .sipush 4, .iadd, .saload, .invokeinterface 108 10, .aload 2, .aload 0, .iload 3, .sipush 1, .iadd, .saload, .aload 0, .iload 3, .sipush 2, .iadd, .saload, .aload 0, .iload 3, .sipush 3, .iadd, .saload, .aload 0, .iload 3, .sipush 4, .iadd, .saload, .invokeinterface 294 10, .if_icmp .eq 1973, .sipush 0, .freturn]),
  (1074, [.aload 1, .aload 0, .iload 3, .sipush 1, .iadd, .saload, .invokeinterface 110 4, .aload 2, .aload 0, .iload 3, .sipush 1, .iadd, .saload, .invokeinterface 295 4, .if_icmp .eq 1973, .sipush 0, .freturn]),
  (1097, [.aload 1, .invokeinterface 111 2, .aload 2, .invokeinterface 296 2, .if_icmp .eq 1973, .sipush 0, .freturn]),
  (1110, [.aload 1, .aload 0, .iload 3, .sipush 1, .iadd, .saload, .aload 0, .iload 3, .sipush 2, .iadd, .saload, .aload 0, .iload 3, .sipush 3, .iadd, .saload, .invokeinterface 123 8, .aload 2, .aload 0, .iload 3, .sipush 1, .iadd, .saload, .aload 0, .iload 3, .sipush 2, .iadd, .saload, .aload 0, .iload 3, .sipush 3, .iadd, .saload, .invokeinterface 306 8, .if_icmp .eq 1973, .sipush 0, .freturn]),
  (1153, [.aload 1, .aload 0, .iload 3, .sipush 1, .iadd, .saload, .aload 0, .iload 3, .sipush 2, .iadd, .saload, .invokeinterface 125 6, .aload 2, .aload 0, .iload 3, .sipush 1, .iadd, .saload, .aload 0, .iload 3, .sipush 2, .iadd, .saload, .invokeinterface 280 6, .if_icmp .eq 1973, .sipush 0, .freturn]),
  (1186, [.aload 1, .aload 0, .iload 3, .sipush 1, .iadd, .saload, .aload 0, .iload 3, .sipush 2, .iadd, .saload, .invokeinterface 126 6, .aload 2, .aload 0, .iload 3, .sipush 1, .iadd, .saload, .aload 0, .iload 3, .sipush 2, .iadd, .saload, .invokeinterface 283 6, .if_icmp .eq 1973, .sipush 0, .freturn]),
  (1219, [.aload 1, .aload 0, .iload 3, .sipush 1, .iadd, .saload, .aload 0, .iload 3, .sipush 2, .iadd, .saload, .invokeinterface 127 6, .aload 2, .aload 0, .iload 3, .sipush 1, .iadd, .saload, .aload 0, .iload 3, .sipush 2, .iadd, .saload, .invokeinterface 308 6, .if_icmp .eq 1973, .sipush 0, .freturn]),
  (1252, [.aload 1, .aload 0, .iload 3, .sipush 1, .iadd, .saload, .aload 0, .iload 3, .sipush 2, .iadd, .saload, .invokeinterface 130 6, .aload 2, .aload 0, .iload 3, .sipush 1, .iadd, .saload, .aload 0, .iload 3, .sipush 2, .iadd, .saload, .invokeinterface 309 6, .if_icmp .eq 1973, .sipush 0, .freturn]),
  (1285, [.aload 1, .aload 0, .iload 3, .sipush 1, .iadd, .saload, .invokeinterface 131 4, .aload 2, .aload 0, .iload 3, .sipush 1, .iadd, .saload, .invokeinterface 311 4, .if_icmp .eq 1973, .sipush 0, .freturn]),
  (1308, [.aload 1, .aload 0, .iload 3, .sipush 1, .iadd, .saload, .invokeinterface 132 4, .aload 2, .aload 0, .iload 3, .sipush 1, .iadd, .saload, .invokeinterface 312 4, .if_icmp .eq 1973, .sipush 0, .freturn]),
  (1331, [.aload 1, .aload 0, .iload 3, .sipush 1, .iadd, .saload, .invokeinterface 133 4, .aload 2, .aload 0, .iload 3, .sipush 1, .iadd, .saload, .invokeinterface 313 4, .if_icmp .eq 1973, .sipush 0, .freturn]),
  (1354, [.aload 1, .aload 0, .iload 3, .sipush 1, .iadd, .saload, .invokeinterface 134 4, .aload 2, .aload 0, .iload 3, .sipush 1, .iadd, .saload, .invokeinterface 315 4, .if_icmp .eq 1973, .sipush 0, .freturn]),
  (1377, [.aload 1, .aload 0, .iload 3, .sipush 1, .iadd, .saload, .aload 0, .iload 3, .sipush 2, .iadd, .saload, .invokeinterface 135 6, .aload 2, .aload 0, .iload 3, .sipush 1, .iadd, .saload, .aload 0, .iload 3, .sipush 2, .iadd, .saload, .invokeinterface 316 6, .if_icmp .eq 1973, .sipush 0, .freturn]),
  (1410, [.aload 1, .invokeinterface 136 2, .aload 2, .invokeinterface 317 2, .if_icmp .eq 1973, .sipush 0, .freturn]),
  (1423, [.aload 1, .aload 0, .iload 3, .sipush 1, .iadd, .saload, .aload 0, .iload 3, .sipush 2, .iadd, .saload, .aload 0, .iload 3, .sipush 3, .iadd, .saload, .aload 0, .iload 3, .sipush 4, .iadd, .saload, .invokeinterface 137 10, .aload 2, .aload 0, .iload 3, .sipush 1, .iadd, .saload, .aload 0, .iload 3, .sipush 2, .iadd, .saload, .aload 0, .iload 3, .sipush 3, .iadd, .saload, .aload 0, .iload 3, .sipush 4, .iadd, .saload, .invokeinterface 319 10, .if_icmp .eq 1973, .sipush 0, .freturn]),
  (1476, [.aload 1, .aload 0, .iload 3, .sipush 1, .iadd, .saload, .invokeinterface 138 4, .aload 2, .aload 0, .iload 3, .sipush 1, .iadd, .saload, .invokeinterface 320 4, .if_icmp .eq 1973, .sipush 0, .freturn]),
  (1499, [.aload 1, .aload 0, .iload 3, .sipush 1, .iadd, .saload, .aload 0, .iload 3, .sipush 2, .iadd, .saload, .invokeinterface 152 6, .aload 2, .aload 0, .iload 3, .sipush 1, .iadd, .saload, .aload 0, .iload 3, .sipush 2, .iadd, .saload, .invokeinterface 328 6, .if_icmp .eq 1973, .sipush 0, .freturn]),
  (1532, [.aload 1, .aload 0, .iload 3, .sipush 1, .iadd, .saload, .aload 0, .iload 3, .sipush 2, .iadd, .saload, .aload 0, .iload 3, .sipush 3, .iadd, .saload, .aload 0, .iload 3, .sipush 4, .iadd, .saload, .invokeinterface 153 10, .aload 2, .aload 0, .iload 3, .sipush 1, .iadd, .saload, .aload 0, .iload 3, .sipush 2, .iadd, .saload, .aload 0, .iload 3, .sipush 3, .iadd, .saload, .aload 0, .iload 3, .sipush 4, .iadd, .saload, .invokeinterface 329 10, .if_icmp .eq 1973, .sipush 0, .freturn]),
  (1585, [.aload 1, .invokeinterface 154 2, .aload 2, .invokeinterface 330 2, .if_icmp .eq 1973, .sipush 0, .freturn]),
  (1598, [.aload 1, .aload 0, .iload 3, .sipush 1, .iadd, .saload, .invokeinterface 155 4, .aload 2, .aload 0, .iload 3, .sipush 1, .iadd, .saload, .invokeinterface 331 4, .if_icmp .eq 1973, .sipush 0, .freturn]),
  (1621, [.aload 1, .aload 0, .iload 3, .sipush 1, .iadd, .saload, .aload 0, .iload 3, .sipush 2, .iadd, .saload, .invokeinterface 160 6, .aload 2, .aload 0, .iload 3, .sipush 1, .iadd, .saload, .aload 0, .iload 3, .sipush 2, .iadd, .saload, .invokeinterface 335 6, .if_icmp .eq 1973, .sipush 0, .freturn]),
  (1654, [.aload 1, .invokeinterface 161 2, .aload 2, .invokeinterface 336 2, .if_icmp .eq 1973, .sipush 0, .freturn]),
  (1667, [.aload 1, .aload 0, .iload 3, .sipush 1, .iadd, .saload, .aload 0, .iload 3, .sipush 2, .iadd, .saload, .invokeinterface 170 6, .aload 2, .aload 0, .iload 3, .sipush 1, .iadd, .saload, .aload 0, .iload 3, .sipush 2, .iadd, .saload, .invokeinterface 338 6, .if_icmp .eq 1973, .sipush 0, .freturn]),
  (1700, [.aload 1, .aload 0, .iload 3, .sipush 1, .iadd, .saload, .aload 0, .iload 3, .sipush 2, .iadd, .saload, .aload 0, .iload 3, .sipush 3, .iadd, .saload, .aload 0, .iload 3, .sipush 4, .iadd, .saload, .invokeinterface 171 10, .aload 2, .aload 0, .iload 3, .sipush 1, .iadd, .saload, .aload 0, .iload 3, .sipush 2, .iadd, .saload, .aload 0, .iload 3, .sipush 3, .iadd, .saload, .aload 0, .iload 3, .sipush 4, .iadd, .saload, .invokeinterface 339 10, .if_icmp .eq 1973, .sipush 0, .freturn]),
  (1753, [.aload 1, .aload 0, .iload 3, .sipush 1, .iadd, .saload, .invokeinterface 179 4, .aload 2, .aload 0, .iload 3, .sipush 1, .iadd, .saload, .invokeinterface 345 4, .if_icmp .eq 1973, .sipush 0, .freturn]),
  (1776, [.aload 1, .invokeinterface 182 2, .aload 2, .invokeinterface 348 2, .if_icmp .eq 1973, .sipush 0, .freturn]),
  (1789, [.aload 1, .invokeinterface 187 2, .aload 2, .invokeinterface 351 2, .if_icmp .eq 1973, .sipush 0, .freturn]),
  (1802, [.aload 1, .aload 0, .iload 3, .sipush 1, .iadd, .saload, .aload 0, .iload 3, .sipush 2, .iadd, .saload, .aload 0, .iload 3, .sipush 3, .iadd, .saload, .invokeinterface 188 8, .aload 2, .aload 0, .iload 3, .sipush 1, .iadd, .saload, .aload 0, .iload 3, .sipush 2, .iadd, .saload, .aload 0, .iload 3, .sipush 3, .iadd, .saload, .invokeinterface 352 8, .if_icmp .eq 1973, .sipush 0, .freturn]),
  (1845, [.aload 1, .aload 0, .iload 3, .sipush 1, .iadd, .saload, .invokeinterface 193 4, .aload 2, .aload 0, .iload 3, .sipush 1, .iadd, .saload, .invokeinterface 354 4, .if_icmp .eq 1973, .sipush 0, .freturn]),
  (1868, [.aload 1, .aload 0, .iload 3, .sipush 1, .iadd, .saload, .invokeinterface 195 4, .aload 2, .aload 0, .iload 3, .sipush 1, .iadd, .saload, .invokeinterface 356 4, .if_icmp .eq 1973, .sipush 0, .freturn]),
  (1891, [.aload 1, .aload 0, .iload 3, .sipush 1, .iadd, .saload, .invokeinterface 207 4, .aload 2, .aload 0, .iload 3, .sipush 1, .iadd, .saload, .invokeinterface 366 4, .if_icmp .eq 1973, .sipush 0, .freturn]),
  (1914, [.aload 1, .aload 0, .iload 3, .sipush 1, .iadd, .saload, .aload 0, .iload 3, .sipush 2, .iadd, .saload, .invokeinterface 208 6, .aload 2, .aload 0, .iload 3, .sipush 1, .iadd, .saload, .aload 0, .iload 3, .sipush 2, .iadd, .saload, .invokeinterface 367 6, .if_icmp .eq 1973, .sipush 0, .freturn]),
  (1947, [.aload 1, .invokeinterface 209 2, .aload 2, .invokeinterface 368 2, .if_icmp .eq 1973, .sipush 0, .freturn]),
  (1960, [.aload 1, .invokeinterface 211 2, .aload 2, .invokeinterface 370 2, .if_icmp .eq 1973, .sipush 0, .freturn]),
  (1973, [.iinc 3 6, .goto 18]),
  (1979, [.sipush 1, .freturn])]
/-- operations, argument types, number of locals -/
def mtab : List (Ops × List Nat × Nat) := [(o_M_status, [20], 1), (o_M_top, [20], 1), (o_M_bottom, [20], 1), (o_M_tray, [20, 0, 0, 0], 4), (o_Trays_isOne, [19, 0], 2), (o_M_deny, [20, 0], 2), (o_Trays_lay, [19, 0, 0, 0], 5), 
  (o_M_grant, [20], 1), (o_M_write, [20, 0, 0, 1, 99], 6), (o_Trays_problemAt, [19, 0, 0], 3), (o_Trays_isMissing, [19, 0], 2), (o_Trays_put, [19, 0, 0, 1, 99], 5), (o_Trays_cut, [0, 1, 99], 3), 
  (o_M_read, [20, 0, 0], 4), (o_M_fail, [20, 0], 2), (o_M_pour, [20, 0, 0, 0, 0, 0], 6), (o_Trays_reaches, [19, 0, 0, 0], 4), (o_Trays_move, [19, 0, 0, 0, 0, 0], 6), (o_M_feed, [20, 0, 0, 0, 0, 0], 6), 
  (o_Tokens_append, [18, 0], 3), (o_M_hall, [20, 0], 3), (o_Tokens_begin, [18, 0], 2), (o_HallReader_readInto, [12, 11], 3), (o_Hall_clear, [11], 1), (o_Steps_clear, [17], 1), 
  (o_Tokens_advance, [18], 1), (o_Tokens_kindOf, [0], 1), (o_Tokens_readLetters, [18], 1), (o_Tokens_wordNumber, [18], 2), (o_Tokens_readDigits, [18], 1), (o_Hall_measure, [11, 0, 2], 5), 
  (o_Arrays_fill, [2, 0], 4), (o_Hall_shorten, [2, 0, 0, 0], 5), (o_Hall_measureBy, [11, 0, 2], 6), (o_HallReader_readPart, [12, 11], 2), (o_Tokens_word, [18], 1), (o_HallReader_readOdds, [12, 11], 2), 
  (o_Tokens_refuse, [18, 0], 2), (o_Tokens_numberNext, [18, 0, 0], 3), (o_Tokens_numberHere, [18, 0, 0], 3), (o_Tokens_closeNext, [18], 1), (o_Tokens_closeHere, [18], 1), 
  (o_HallReader_readPlace, [12, 11], 2), (o_HallReader_newNameNext, [12, 11], 2), (o_Tokens_nameNext, [18], 2), (o_Hall_isTaken, [11, 1, 99], 3), (o_Hall_placeNamed, [11, 1, 99], 3), 
  (o_Hall_indexOf, [11, 1, 99, 0, 0], 6), (o_Hall_slateNamed, [11, 1, 99], 3), (o_Hall_callerNamed, [11, 1, 99], 3), (o_Hall_addPlace, [11, 1, 99], 3), (o_HallReader_readWay, [12, 11], 6), 
  (o_HallReader_placeNext, [12, 11], 3), (o_Tokens_wordNext, [18, 0], 2), (o_Hall_addWay, [11, 0, 0, 0, 0], 5), (o_HallReader_readSlate, [12, 11], 5), (o_Hall_addSlate, [11, 1, 99, 0], 4), 
  (o_HallReader_readCaller, [12, 11], 5), (o_Hall_addCaller, [11, 1, 99, 0], 4), (o_HallReader_readCry, [12, 11], 6), (o_HallReader_callerNext, [12, 11], 3), (o_HallReader_perhapsNumberNext, [12], 1), 
  (o_Hall_addCry, [11, 0, 0, 0, 0], 7), (o_HallReader_readCall, [12, 11], 4), (o_Hall_addCall, [11, 0, 0, 0], 5), (o_Hall_hasCry, [11, 0, 0], 3), (o_Hall_callNumber, [0, 0, 0], 3), 
  (o_Hall_isSpoken, [11, 0], 3), (o_Hall_takeFrom, [11, 11], 2), (o_Steps_takeFrom, [17, 17], 2), (o_M_pass, [20, 0], 2), (o_M_mornings, [20, 0], 3), (o_MorningsReader_readInto, [14, 17, 11], 6), 
  (o_MorningsReader_readEnd, [14, 17], 3), (o_MorningsReader_beginStep, [14, 17], 5), (o_MorningsReader_isPlainStep, [0], 1), (o_MorningsReader_readRest, [14, 17, 11], 4), 
  (o_MorningsReader_readCaller, [14, 17, 0, 11], 4), (o_MorningsReader_readWhere, [14, 17, 0, 0], 4), (o_MorningsReader_readNumber, [14, 17, 0, 0, 0], 5), 
  (o_MorningsReader_readPlace, [14, 17, 0, 11], 4), (o_MorningsReader_readTest, [14, 17, 0, 11], 4), (o_MorningsReader_readSlate, [14, 17, 0, 11], 4), (o_MorningsReader_readSign, [14, 17, 0], 3), 
  (o_Tokens_compareNext, [18], 1), (o_M_fault, [20, 0], 2), (o_M_told, [20, 0], 2), (o_Hall_allCries, [11], 3), (o_M_way, [20, 0, 0], 3), (o_Hall_hasWay, [11, 0], 2), (o_M_slate, [20, 0], 2), 
  (o_Hall_hasSlate, [11, 0], 2), (o_M_caller, [20, 0, 0], 3), (o_Hall_hasCaller, [11, 0], 2), (o_M_cry, [20, 0, 0, 0], 5), (o_Hall_numberOf, [11, 0, 0], 3), (o_M_call, [20, 0, 0], 3), 
  (o_Hall_hasCall, [11, 0], 2), (o_Hall_callerOf, [11, 0], 2), (o_Hall_kindOf, [11, 0], 2), (o_Hall_startOf, [11, 0], 2), (o_M_say, [20, 0, 0, 0], 5), (o_M_hush, [20, 0], 2), (o_Hall_strike, [11, 0], 3), 
  (o_M_walk, [20, 0, 0], 4), (o_Hall_hasPlace, [11, 0], 2), (o_M_hang, [20, 0, 0], 4), (o_M_pave, [20, 0, 0, 0], 6), (o_M_teach, [20, 0, 0, 0, 0], 6), (o_M_isNumber, [0, 0], 2), (o_M_rule, [20, 0], 2), 
  (o_M_record, [20], 1), (o_Hall_keepSums, [11], 1), (o_Hall_writeSums, [11, 2], 7), (o_Hall_distanceToSlate, [11, 0, 0], 3), (o_Hall_distance, [11, 0, 0], 3), (o_Hall_beatsOf, [0], 1), 
  (o_Hall_cellOf, [0, 0], 2), (o_Hall_lossOf, [0], 1), (o_Hall_amount, [11, 0, 0, 0], 4), (o_Hall_total, [11], 3), (o_Hall_totalOn, [11, 0], 4), (o_Hall_allOfCall, [11, 0, 0], 6), 
  (o_M_scrawl, [20, 0, 0, 0], 6), (o_M_isBeat, [0], 1), (o_M_far, [20, 0, 0], 4), (o_M_lost, [20, 0, 0], 4), (o_M_heard, [20, 0, 0], 3), (o_Hall_sumAt, [11, 0, 0], 5), 
  (o_Hall_amountAt, [11, 0, 0, 0], 6), (o_M_from, [20, 0, 0], 5), (o_M_first, [20, 0], 3), (o_M_last, [20, 0], 3), (o_M_loudest, [20, 0], 6), (o_M_all, [20, 0], 2), (o_M_recorded, [20, 0, 0], 3), 
  (o_M_differs, [20], 3), (o_M_copyHeard, [20, 0, 0, 0, 0], 9), (o_M_answers, [20, 0], 3), (o_M_problemOfGuess, [20, 0, 0], 3), (o_Guess_findAnswers, [10, 11, 0, 0], 4), (o_Guess_listen, [10, 11], 6), 
  (o_Hall_totalKept, [11], 3), (o_Guess_listenOn, [10, 11, 0, 0], 9), (o_Guess_search, [10, 0, 0, 0], 7), (o_Guess_note, [10, 0], 3), (o_Guess_sortChosen, [10, 0], 4), (o_Guess_comesFirst, [10, 0], 3), 
  (o_Guess_firstLeft, [10, 0], 3), (o_Guess_beginFor, [10, 0, 0], 5), (o_Guess_fits, [10, 0, 0], 6), (o_Guess_take, [10, 0, 0, 0], 8), (o_M_answerAt, [20, 0, 0], 4), (o_M_with, [20, 0, 0, 0, 0], 7), 
  (o_M_fewest, [20], 1), (o_M_slips, [20, 0], 3), (o_Guess_findSlips, [10, 11, 0], 6), (o_Guess_weighEach, [10], 3), (o_Guess_changeBy, [10, 0], 9), (o_Guess_findSecond, [10, 0, 0], 8), 
  (o_M_slipsAt, [20, 0, 0], 4), (o_M_moved, [20], 1), (o_Moves_find, [15, 11, 0], 4), (o_Moves_measurePairs, [15, 11, 0, 0], 10), (o_Moves_findOf, [15, 11, 0, 0], 9), (o_Moves_explains, [15, 11, 0], 8), 
  (o_Moves_takes, [15, 11, 0, 0, 0], 10), (o_Moves_giveBack, [15], 2), (o_Moves_isUsed, [15, 11, 0], 6), (o_Moves_note, [15, 0, 0, 0, 0], 5), (o_M_movedAt, [20, 0, 0], 3), 
  (o_M_alike, [20, 0, 0, 0, 0], 7), (o_Parting_listen, [16, 11], 5), (o_Parting_listenAt, [16, 11, 0, 0, 0], 10), (o_Parting_leftAligned, [0], 3), (o_Hall_slatePlaces, [11], 3), 
  (o_Parting_laterBy, [16, 0, 0, 0], 6), (o_Parting_laterAt, [16, 0, 0, 0], 7), (o_Parting_both, [0, 0], 2), (o_M_parts, [20, 0], 2), (o_Parting_partsAll, [16, 11, 0], 5), 
  (o_Parting_isThere, [11, 0], 2), (o_M_hanging, [20], 2), (o_Parting_leastSet, [16, 11], 6), (o_Parting_markUnparted, [16, 0, 0, 0], 6), (o_Integer_numberOfTrailingZeros, [0], 2), 
  (o_Integer_bitCount, [0], 1), (o_M_hangingSet, [20], 2), (o_M_chance, [20, 0, 0, 0], 4), (o_Hall_weightOfAtLeast, [11, 0, 0, 0], 12), (o_Hall_sixteens, [0], 1), (o_M_tell, [20, 1, 99, 1, 99], 7), 
  (o_M_commonDivisor, [1, 99, 1, 99], 11), (o_M_quiet, [20, 0], 6), (o_Hall_isLoudOn, [11, 0, 0], 3), (o_M_live, [20, 0], 2), (o_Life_run, [13, 11, 0], 6), (o_Life_behindEnd, [13, 17, 0], 4), 
  (o_Life_behindStep, [13, 11, 17, 0], 4), (o_Life_holds, [13, 11, 17, 0], 6), (o_Life_compares, [0, 0, 0], 3), (o_Life_act, [13, 11, 17, 0], 4), (o_Life_speak, [13, 11, 0, 0, 0], 5), 
  (o_Life_speakByDraws, [13, 11], 5), (o_Life_draw, [13, 0], 2), (o_Life_strikeLast, [13, 11], 2), (o_Life_go, [13, 11, 0, 0], 4), (o_M_lived, [20, 0], 2), (o_M_mean, [20, 0, 0], 8), (o_M_mark, [20], 1), 
  (o_M_markAt, [20, 0], 2), (o_M_undo, [20], 1), (o_R_plain, [21, 0], 3), (o_R_status, [21], 1), (o_R_top, [21], 1), (o_R_bottom, [21], 1), (o_R_tray, [21, 0, 0, 0], 5), (o_R_isTray, [0], 1), 
  (o_R_is, [21, 0], 2), (o_R_write, [21, 0, 0, 1, 99], 6), (o_R_wrongPlace, [21, 0, 0], 3), (o_R_cut, [1, 99, 0], 3), (o_R_read, [21, 0, 0], 3), (o_R_pour, [21, 0, 0, 0, 0, 0], 8), 
  (o_R_feed, [21, 0, 0, 0, 0, 0], 6), (o_R_four, [21, 0], 3), (o_R_fault, [21, 0], 2), (o_R_hall, [21, 0], 4), (o_R_begins, [21, 0, 0], 4), (o_R_ahead, [21], 2), (o_R_byteAt, [21, 0], 2), 
  (o_R_isSmall, [0], 1), (o_R_isDigit, [0], 1), (o_R_refuse, [21, 0], 2), (o_R_hallPart, [21], 3), (o_R_inWords, [21, 5], 7), (o_R_fails, [21, 0], 2), (o_R_number, [21, 0, 0, 0], 4), 
  (o_R_aPlace, [21], 1), (o_R_newOne, [21, 0, 0, 0], 4), (o_R_isFull, [21, 0, 0], 3), (o_R_isName, [21, 5], 2), (o_R_isOld, [21], 1), (o_R_findHere, [21, 0, 0], 4), (o_R_nameHere, [21], 4), 
  (o_R_aWay, [21], 2), (o_R_wayRow, [0], 1), (o_R_newPlaceTo, [21, 0], 2), (o_R_oldOne, [21, 0, 0, 0], 4), (o_R_wantWord, [21, 5, 0], 3), (o_R_isThere, [21, 0], 2), (o_R_aSlate, [21], 1), 
  (o_R_aCaller, [21], 1), (o_R_callerRow, [0], 1), (o_R_aCry, [21], 5), (o_R_newCallerTo, [21, 0], 2), (o_R_aCall, [21], 4), (o_R_callRow, [0], 1), (o_R_wantSign, [21, 0], 2), (o_R_isSign, [21, 0], 2), 
  (o_R_taken, [21, 0], 2), (o_R_gives, [21, 0], 2), (o_R_mornings, [21, 0], 4), (o_R_morningStep, [21], 6), (o_R_morningOrder, [21, 0, 0], 3), (o_R_callerTo, [21, 0], 2), (o_R_placeTo, [21, 0], 2), 
  (o_R_test, [21, 0], 3), (o_R_told, [21, 0], 2), (o_R_allCries, [21], 3), (o_R_way, [21, 0, 0], 3), (o_R_slate, [21, 0], 2), (o_R_isSlate, [21, 0], 2), (o_R_caller, [21, 0, 0], 3), 
  (o_R_isCaller, [21, 0], 2), (o_R_cry, [21, 0, 0, 0], 4), (o_R_isCry, [21, 0, 0], 3), (o_R_numberOf, [21, 0, 0, 0], 4), (o_R_call, [21, 0, 0], 3), (o_R_callOf, [21, 0, 0], 3), (o_R_far, [21, 0, 0], 4), 
  (o_R_isPlace, [21, 0], 2), (o_R_laysFar, [21], 7), (o_R_lost, [21, 0, 0], 4), (o_R_say, [21, 0, 0, 0], 5), (o_R_isFrom, [1, 99, 1, 99, 1, 99], 6), (o_R_says, [21, 0, 0, 0], 5), 
  (o_R_toldCall, [21, 0, 0, 0], 5), (o_R_hush, [21, 0], 2), (o_R_hushes, [21, 0], 3), (o_R_walk, [21, 0, 0], 4), (o_R_goesTo, [21, 0, 0], 4), (o_R_hang, [21, 0, 0], 4), (o_R_pave, [21, 0, 0, 0], 4), 
  (o_R_teach, [21, 0, 0, 0, 0], 7), (o_R_rule, [21, 0], 2), (o_R_record, [21], 1), (o_R_records, [21], 3), (o_R_allSums, [21], 3), (o_R_laysSums, [21], 1), (o_R_laysLeft, [21, 0], 3), 
  (o_R_putsAll, [21, 0], 3), (o_R_puts, [21, 0, 0, 0, 0], 9), (o_R_loudAt, [21, 0, 0, 0, 0], 6), (o_R_behindAt, [21, 0, 0], 3), (o_R_changes, [21, 0, 0], 3), (o_R_scrawl, [21, 0, 0, 0], 5), 
  (o_R_isBeat, [0], 1), (o_R_heard, [21, 0, 0], 3), (o_R_from, [21, 0, 0], 5), (o_R_partOf, [21, 0, 0, 0], 7), (o_R_first, [21, 0], 3), (o_R_last, [21, 0], 3), (o_R_loudest, [21, 0], 5), 
  (o_R_orNone, [21, 0], 2), (o_R_all, [21, 0], 4), (o_R_recorded, [21, 0, 0], 3), (o_R_differs, [21], 1), (o_R_differing, [21], 1), (o_R_copyHeard, [21, 0, 0, 0, 0], 8), (o_R_answers, [21, 0], 2), 
  (o_R_laysAnswers, [21, 0, 0], 5), (o_R_opensAt, [21, 0, 0], 4), (o_R_finds, [21, 0], 6), (o_R_putsOf, [21, 0, 0], 3), (o_R_mayBe, [21, 0, 0], 4), (o_R_isCall, [21, 0], 2), (o_R_inCell, [21, 0, 0], 6), 
  (o_R_answerAt, [21, 0, 0], 3), (o_R_with, [21, 0, 0, 0, 0], 5), (o_R_fewest, [21], 1), (o_R_slips, [21, 0], 2), (o_R_laysSlips, [21, 0], 4), (o_R_slipsBy, [21, 0, 0, 0], 4), (o_R_isLoud, [21, 0], 4), 
  (o_R_slipsAt, [21, 0, 0], 3), (o_R_moved, [21], 1), (o_R_movedOf, [21, 0], 9), (o_R_movedAt, [21, 0, 0], 4), (o_R_alike, [21, 0, 0, 0, 0], 6), (o_R_slatePlaces, [21], 3), 
  (o_R_laterOf, [21, 0, 0, 0], 5), (o_R_areAlikeBy, [21, 0, 0, 0, 0], 7), (o_R_isIn, [21, 0, 0], 3), (o_R_inBeat, [21, 0, 0, 0], 6), (o_R_parts, [21, 0], 2), (o_R_doesPart, [21, 0], 4), 
  (o_R_isCryOf, [21, 0], 2), (o_R_hanging, [21], 2), (o_R_hangingOf, [21], 3), (o_R_bits, [0], 3), (o_R_hangingSet, [21], 1), (o_R_chance, [21, 0, 0, 0], 12), (o_R_tellsBy, [21, 1, 99, 1, 99], 11), 
  (o_R_quiet, [21, 0], 7), (o_R_isHeardOn, [21, 0, 0], 4), (o_R_live, [21, 0], 3), (o_R_lives, [21, 0], 4), (o_R_does, [21, 0], 4), (o_R_countsIf, [21, 0, 0], 3), (o_R_recordsIt, [21], 1), 
  (o_R_saysAny, [21], 3), (o_R_draw, [21, 0], 2), (o_R_holds, [21, 0], 5), (o_R_sumOn, [21, 0, 0], 3), (o_R_behindEnds, [21, 0], 5), (o_R_lived, [21, 0], 2), (o_R_mean, [21, 0, 0], 7), 
  (o_R_mark, [21], 1), (o_R_copies, [21, 0, 0], 4), (o_R_undo, [21], 1)]
