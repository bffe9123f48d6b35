def tX0_init_0 : List (Nat × hyE) := [(0, .aload_n 0, 1, 0, 0, 0, 0, 0, none, []),
  (1, .invokespecial 3, 4, 0, 0, 0, 0, 0, none, []),
  (4, .aload_n 0, 5, 0, 0, 0, 0, 0, none, []),
  (5, .bipush 8, 7, 0, 0, 0, 0, 8, none, []),
  (7, .newarray .int, 9, 0, 0, 0, 0, 0, none, []),
  (9, .putfield 11, 12, 0, 0, 2, 0, 0, none, []),
  (12, .aload_n 0, 13, 0, 0, 0, 0, 0, none, []),
  (13, .bipush 8, 15, 0, 0, 0, 0, 8, none, []),
  (15, .newarray .int, 17, 0, 0, 0, 0, 0, none, [])]
theorem oX0_init_0 : ∀ q ∈ tX0_init_0, hy_ok mX0_init q.1 q.2 = true := by decide +kernel
def tX0_init_1 : List (Nat × hyE) := [(17, .putfield 15, 20, 0, 1, 2, 0, 0, none, []),
  (20, .return_, 21, 0, 0, 0, 0, 0, none, [])]
theorem oX0_init_1 : ∀ q ∈ tX0_init_1, hy_ok mX0_init q.1 q.2 = true := by decide +kernel
def tX0_init : hyT := [tX0_init_0, tX0_init_1]
theorem oX0_init : hy_tok mX0_init tX0_init := List.forall_mem_cons.mpr ⟨oX0_init_0, List.forall_mem_cons.mpr ⟨oX0_init_1, fun _ h => absurd h List.not_mem_nil⟩⟩
def tX0_count_0 : List (Nat × hyE) := [(0, .aload_n 0, 1, 0, 0, 0, 0, 0, none, []),
  (1, .getfield 18, 4, 0, 2, 0, 0, 0, none, []),
  (4, .ireturn, 5, 0, 0, 0, 0, 0, none, [])]
theorem oX0_count_0 : ∀ q ∈ tX0_count_0, hy_ok mX0_count q.1 q.2 = true := by decide +kernel
def tX0_count : hyT := [tX0_count_0]
theorem oX0_count : hy_tok mX0_count tX0_count := List.forall_mem_cons.mpr ⟨oX0_count_0, fun _ h => absurd h List.not_mem_nil⟩
def tX0_tell_0 : List (Nat × hyE) := [(0, .aload_n 0, 1, 0, 0, 0, 0, 0, none, []),
  (1, .getfield 18, 4, 0, 2, 0, 0, 0, none, []),
  (4, .bipush 8, 6, 0, 0, 0, 0, 8, none, []),
  (6, .if_icmp .lt 5, 9, 11, 0, 0, 0, 0, none, []),
  (9, .iconst (-1), 10, 0, 0, 0, 0, (-1), none, []),
  (10, .ireturn, 11, 0, 0, 0, 0, 0, none, []),
  (11, .aload_n 0, 12, 0, 0, 0, 0, 0, none, []),
  (12, .getfield 11, 15, 0, 0, 0, 0, 0, none, []),
  (15, .aload_n 0, 16, 0, 0, 0, 0, 0, none, [])]
theorem oX0_tell_0 : ∀ q ∈ tX0_tell_0, hy_ok mX0_tell q.1 q.2 = true := by decide +kernel
def tX0_tell_1 : List (Nat × hyE) := [(16, .getfield 18, 19, 0, 2, 0, 0, 0, none, []),
  (19, .iload_n 1, 20, 1, 0, 0, 0, 0, none, []),
  (20, .iastore, 21, 0, 0, 0, 0, 0, none, []),
  (21, .aload_n 0, 22, 0, 0, 0, 0, 0, none, []),
  (22, .aload_n 0, 23, 0, 0, 0, 0, 0, none, []),
  (23, .getfield 18, 26, 0, 2, 0, 0, 0, none, []),
  (26, .iconst 1, 27, 0, 0, 0, 0, 1, none, []),
  (27, .iadd, 28, 0, 0, 0, 0, 0, none, []),
  (28, .invokevirtual 22, 31, 0, 1, 0, 0, 0, (some mX0_hasWay), []),
  (31, .ifCond .ne 5, 34, 36, 0, 0, 0, 0, none, [])]
theorem oX0_tell_1 : ∀ q ∈ tX0_tell_1, hy_ok mX0_tell q.1 q.2 = true := by decide +kernel
def tX0_tell_2 : List (Nat × hyE) := [(34, .iconst (-1), 35, 0, 0, 0, 0, (-1), none, []),
  (35, .ireturn, 36, 0, 0, 0, 0, 0, none, []),
  (36, .aload_n 0, 37, 0, 0, 0, 0, 0, none, []),
  (37, .dup, 38, 0, 0, 0, 0, 0, none, []),
  (38, .getfield 18, 41, 0, 2, 0, 0, 0, none, []),
  (41, .iconst 1, 42, 0, 0, 0, 0, 1, none, []),
  (42, .iadd, 43, 0, 0, 0, 0, 0, none, []),
  (43, .putfield 18, 46, 0, 2, 0, 0, 0, none, []),
  (46, .iconst 0, 47, 0, 0, 0, 0, 0, none, []),
  (47, .istore_n 2, 48, 2, 0, 0, 0, 0, none, [])]
theorem oX0_tell_2 : ∀ q ∈ tX0_tell_2, hy_ok mX0_tell q.1 q.2 = true := by decide +kernel
def tX0_tell_3 : List (Nat × hyE) := [(48, .iload_n 2, 49, 2, 0, 0, 0, 0, none, []),
  (49, .aload_n 0, 50, 0, 0, 0, 0, 0, none, []),
  (50, .getfield 18, 53, 0, 2, 0, 0, 0, none, []),
  (53, .if_icmp .ge 23, 56, 76, 0, 0, 0, 0, none, []),
  (56, .aload_n 0, 57, 0, 0, 0, 0, 0, none, []),
  (57, .getfield 15, 60, 0, 1, 0, 0, 0, none, []),
  (60, .iload_n 2, 61, 2, 0, 0, 0, 0, none, []),
  (61, .aload_n 0, 62, 0, 0, 0, 0, 0, none, []),
  (62, .iload_n 2, 63, 2, 0, 0, 0, 0, none, []),
  (63, .invokevirtual 26, 66, 0, 1, 0, 0, 0, (some mX0_reachable), [])]
theorem oX0_tell_3 : ∀ q ∈ tX0_tell_3, hy_ok mX0_tell q.1 q.2 = true := by decide +kernel
def tX0_tell_4 : List (Nat × hyE) := [(66, .invokestatic 30, 69, 13, 1, 0, 0, 0, (some mX0_onlyOne), []),
  (69, .iastore, 70, 0, 0, 0, 0, 0, none, []),
  (70, .iinc 2 1, 73, 2, 0, 0, 0, 1, none, []),
  (73, .goto (-25), 76, 48, 0, 0, 0, 0, none, []),
  (76, .aload_n 0, 77, 0, 0, 0, 0, 0, none, []),
  (77, .getfield 18, 80, 0, 2, 0, 0, 0, none, [])]
theorem oX0_tell_4 : ∀ q ∈ tX0_tell_4, hy_ok mX0_tell q.1 q.2 = true := by decide +kernel
def tX0_tell_5 : List (Nat × hyE) := [(80, .iconst 1, 81, 0, 0, 0, 0, 1, none, []),
  (81, .isub, 82, 0, 0, 0, 0, 0, none, []),
  (82, .ireturn, 83, 0, 0, 0, 0, 0, none, [])]
theorem oX0_tell_5 : ∀ q ∈ tX0_tell_5, hy_ok mX0_tell q.1 q.2 = true := by decide +kernel
def tX0_tell : hyT := [tX0_tell_0, tX0_tell_1, tX0_tell_2, tX0_tell_3, tX0_tell_4, tX0_tell_5]
theorem oX0_tell : hy_tok mX0_tell tX0_tell := List.forall_mem_cons.mpr ⟨oX0_tell_0, List.forall_mem_cons.mpr ⟨oX0_tell_1, List.forall_mem_cons.mpr ⟨oX0_tell_2, List.forall_mem_cons.mpr ⟨oX0_tell_3, List.forall_mem_cons.mpr ⟨oX0_tell_4, List.forall_mem_cons.mpr ⟨oX0_tell_5, fun _ h => absurd h List.not_mem_nil⟩⟩⟩⟩⟩⟩
def tX0_howManyFit_0 : List (Nat × hyE) := [(0, .aload_n 0, 1, 0, 0, 0, 0, 0, none, []),
  (1, .iload_n 1, 2, 1, 0, 0, 0, 0, none, []),
  (2, .invokevirtual 33, 5, 0, 1, 0, 0, 0, (some mX0_isFind), []),
  (5, .ifCond .eq 15, 8, 20, 0, 0, 0, 0, none, []),
  (8, .aload_n 0, 9, 0, 0, 0, 0, 0, none, []),
  (9, .getfield 11, 12, 0, 0, 0, 0, 0, none, []),
  (12, .iload_n 1, 13, 1, 0, 0, 0, 0, none, []),
  (13, .iaload, 14, 0, 0, 0, 0, 0, none, []),
  (14, .invokestatic 36, 17, 5, 1, 0, 0, 0, (some mJ6_bitCount_0f7a4), [])]
theorem oX0_howManyFit_0 : ∀ q ∈ tX0_howManyFit_0, hy_ok mX0_howManyFit q.1 q.2 = true := by decide +kernel
def tX0_howManyFit_1 : List (Nat × hyE) := [(17, .goto 4, 20, 21, 0, 0, 0, 0, none, []),
  (20, .iconst (-1), 21, 0, 0, 0, 0, (-1), none, []),
  (21, .ireturn, 22, 0, 0, 0, 0, 0, none, [])]
theorem oX0_howManyFit_1 : ∀ q ∈ tX0_howManyFit_1, hy_ok mX0_howManyFit q.1 q.2 = true := by decide +kernel
def tX0_howManyFit : hyT := [tX0_howManyFit_0, tX0_howManyFit_1]
theorem oX0_howManyFit : hy_tok mX0_howManyFit tX0_howManyFit := List.forall_mem_cons.mpr ⟨oX0_howManyFit_0, List.forall_mem_cons.mpr ⟨oX0_howManyFit_1, fun _ h => absurd h List.not_mem_nil⟩⟩
def tX0_sureNet_0 : List (Nat × hyE) := [(0, .aload_n 0, 1, 0, 0, 0, 0, 0, none, []),
  (1, .iload_n 1, 2, 1, 0, 0, 0, 0, none, []),
  (2, .invokevirtual 33, 5, 0, 1, 0, 0, 0, (some mX0_isFind), []),
  (5, .ifCond .eq 12, 8, 17, 0, 0, 0, 0, none, []),
  (8, .aload_n 0, 9, 0, 0, 0, 0, 0, none, []),
  (9, .getfield 15, 12, 0, 1, 0, 0, 0, none, []),
  (12, .iload_n 1, 13, 1, 0, 0, 0, 0, none, []),
  (13, .iaload, 14, 0, 0, 0, 0, 0, none, []),
  (14, .goto 4, 17, 18, 0, 0, 0, 0, none, [])]
theorem oX0_sureNet_0 : ∀ q ∈ tX0_sureNet_0, hy_ok mX0_sureNet q.1 q.2 = true := by decide +kernel
def tX0_sureNet_1 : List (Nat × hyE) := [(17, .iconst (-1), 18, 0, 0, 0, 0, (-1), none, []),
  (18, .ireturn, 19, 0, 0, 0, 0, 0, none, [])]
theorem oX0_sureNet_1 : ∀ q ∈ tX0_sureNet_1, hy_ok mX0_sureNet q.1 q.2 = true := by decide +kernel
def tX0_sureNet : hyT := [tX0_sureNet_0, tX0_sureNet_1]
theorem oX0_sureNet : hy_tok mX0_sureNet tX0_sureNet := List.forall_mem_cons.mpr ⟨oX0_sureNet_0, List.forall_mem_cons.mpr ⟨oX0_sureNet_1, fun _ h => absurd h List.not_mem_nil⟩⟩
def tX0_sureFind_0 : List (Nat × hyE) := [(0, .iload_n 1, 1, 1, 0, 0, 0, 0, none, []),
  (1, .ifCond .ge 5, 4, 6, 0, 0, 0, 0, none, []),
  (4, .iconst (-1), 5, 0, 0, 0, 0, (-1), none, []),
  (5, .ireturn, 6, 0, 0, 0, 0, 0, none, []),
  (6, .iconst 0, 7, 0, 0, 0, 0, 0, none, []),
  (7, .istore_n 2, 8, 2, 0, 0, 0, 0, none, []),
  (8, .iload_n 2, 9, 2, 0, 0, 0, 0, none, []),
  (9, .aload_n 0, 10, 0, 0, 0, 0, 0, none, []),
  (10, .getfield 18, 13, 0, 2, 0, 0, 0, none, []),
  (13, .if_icmp .ge 21, 16, 34, 0, 0, 0, 0, none, [])]
theorem oX0_sureFind_0 : ∀ q ∈ tX0_sureFind_0, hy_ok mX0_sureFind q.1 q.2 = true := by decide +kernel
def tX0_sureFind_1 : List (Nat × hyE) := [(16, .aload_n 0, 17, 0, 0, 0, 0, 0, none, []),
  (17, .getfield 15, 20, 0, 1, 0, 0, 0, none, []),
  (20, .iload_n 2, 21, 2, 0, 0, 0, 0, none, []),
  (21, .iaload, 22, 0, 0, 0, 0, 0, none, []),
  (22, .iload_n 1, 23, 1, 0, 0, 0, 0, none, []),
  (23, .if_icmp .ne 5, 26, 28, 0, 0, 0, 0, none, []),
  (26, .iload_n 2, 27, 2, 0, 0, 0, 0, none, []),
  (27, .ireturn, 28, 0, 0, 0, 0, 0, none, []),
  (28, .iinc 2 1, 31, 2, 0, 0, 0, 1, none, []),
  (31, .goto (-23), 34, 8, 0, 0, 0, 0, none, [])]
theorem oX0_sureFind_1 : ∀ q ∈ tX0_sureFind_1, hy_ok mX0_sureFind q.1 q.2 = true := by decide +kernel
def tX0_sureFind_2 : List (Nat × hyE) := [(34, .iconst (-1), 35, 0, 0, 0, 0, (-1), none, []),
  (35, .ireturn, 36, 0, 0, 0, 0, 0, none, [])]
theorem oX0_sureFind_2 : ∀ q ∈ tX0_sureFind_2, hy_ok mX0_sureFind q.1 q.2 = true := by decide +kernel
def tX0_sureFind : hyT := [tX0_sureFind_0, tX0_sureFind_1, tX0_sureFind_2]
theorem oX0_sureFind : hy_tok mX0_sureFind tX0_sureFind := List.forall_mem_cons.mpr ⟨oX0_sureFind_0, List.forall_mem_cons.mpr ⟨oX0_sureFind_1, List.forall_mem_cons.mpr ⟨oX0_sureFind_2, fun _ h => absurd h List.not_mem_nil⟩⟩⟩
def tX0_hasWay_0 : List (Nat × hyE) := [(0, .iconst 1, 1, 0, 0, 0, 0, 1, none, []),
  (1, .iload_n 1, 2, 1, 0, 0, 0, 0, none, []),
  (2, .ishl, 3, 0, 0, 0, 0, 0, none, []),
  (3, .istore_n 2, 4, 2, 0, 0, 0, 0, none, []),
  (4, .iconst 1, 5, 0, 0, 0, 0, 1, none, []),
  (5, .istore_n 3, 6, 3, 0, 0, 0, 0, none, []),
  (6, .iload_n 3, 7, 3, 0, 0, 0, 0, none, []),
  (7, .iload_n 2, 8, 2, 0, 0, 0, 0, none, []),
  (8, .if_icmp .ge 26, 11, 34, 0, 0, 0, 0, none, []),
  (11, .aload_n 0, 12, 0, 0, 0, 0, 0, none, []),
  (12, .iload_n 3, 13, 3, 0, 0, 0, 0, none, []),
  (13, .invokevirtual 41, 16, 0, 1, 0, 0, 0, (some mX0_fittedBy), [])]
theorem oX0_hasWay_0 : ∀ q ∈ tX0_hasWay_0, hy_ok mX0_hasWay q.1 q.2 = true := by decide +kernel
def tX0_hasWay_1 : List (Nat × hyE) := [(16, .invokestatic 36, 19, 5, 1, 0, 0, 0, (some mJ6_bitCount_0f7a4), []),
  (19, .iload_n 3, 20, 3, 0, 0, 0, 0, none, []),
  (20, .invokestatic 36, 23, 5, 1, 0, 0, 0, (some mJ6_bitCount_0f7a4), []),
  (23, .if_icmp .ge 5, 26, 28, 0, 0, 0, 0, none, []),
  (26, .iconst 0, 27, 0, 0, 0, 0, 0, none, []),
  (27, .ireturn, 28, 0, 0, 0, 0, 0, none, []),
  (28, .iinc 3 1, 31, 3, 0, 0, 0, 1, none, []),
  (31, .goto (-25), 34, 6, 0, 0, 0, 0, none, [])]
theorem oX0_hasWay_1 : ∀ q ∈ tX0_hasWay_1, hy_ok mX0_hasWay q.1 q.2 = true := by decide +kernel
def tX0_hasWay_2 : List (Nat × hyE) := [(34, .iconst 1, 35, 0, 0, 0, 0, 1, none, []),
  (35, .ireturn, 36, 0, 0, 0, 0, 0, none, [])]
theorem oX0_hasWay_2 : ∀ q ∈ tX0_hasWay_2, hy_ok mX0_hasWay q.1 q.2 = true := by decide +kernel
def tX0_hasWay : hyT := [tX0_hasWay_0, tX0_hasWay_1, tX0_hasWay_2]
theorem oX0_hasWay : hy_tok mX0_hasWay tX0_hasWay := List.forall_mem_cons.mpr ⟨oX0_hasWay_0, List.forall_mem_cons.mpr ⟨oX0_hasWay_1, List.forall_mem_cons.mpr ⟨oX0_hasWay_2, fun _ h => absurd h List.not_mem_nil⟩⟩⟩
def tX0_reachable_0 : List (Nat × hyE) := [(0, .aload_n 0, 1, 0, 0, 0, 0, 0, none, []),
  (1, .getfield 11, 4, 0, 0, 0, 0, 0, none, []),
  (4, .iload_n 1, 5, 1, 0, 0, 0, 0, none, []),
  (5, .iaload, 6, 0, 0, 0, 0, 0, none, []),
  (6, .istore_n 2, 7, 2, 0, 0, 0, 0, none, []),
  (7, .iconst 1, 8, 0, 0, 0, 0, 1, none, []),
  (8, .aload_n 0, 9, 0, 0, 0, 0, 0, none, []),
  (9, .getfield 18, 12, 0, 2, 0, 0, 0, none, []),
  (12, .ishl, 13, 0, 0, 0, 0, 0, none, []),
  (13, .istore_n 3, 14, 3, 0, 0, 0, 0, none, []),
  (14, .iconst 1, 15, 0, 0, 0, 0, 1, none, []),
  (15, .istore 4, 17, 4, 0, 0, 0, 0, none, [])]
theorem oX0_reachable_0 : ∀ q ∈ tX0_reachable_0, hy_ok mX0_reachable q.1 q.2 = true := by decide +kernel
def tX0_reachable_1 : List (Nat × hyE) := [(17, .iload 4, 19, 4, 0, 0, 0, 0, none, []),
  (19, .iload_n 3, 20, 3, 0, 0, 0, 0, none, []),
  (20, .if_icmp .ge 58, 23, 78, 0, 0, 0, 0, none, []),
  (23, .iload 4, 25, 4, 0, 0, 0, 0, none, []),
  (25, .iload_n 1, 26, 1, 0, 0, 0, 0, none, []),
  (26, .ishr, 27, 0, 0, 0, 0, 0, none, []),
  (27, .iconst 1, 28, 0, 0, 0, 0, 1, none, []),
  (28, .iand, 29, 0, 0, 0, 0, 0, none, []),
  (29, .ifCond .ne 7, 32, 36, 0, 0, 0, 0, none, [])]
theorem oX0_reachable_1 : ∀ q ∈ tX0_reachable_1, hy_ok mX0_reachable q.1 q.2 = true := by decide +kernel
def tX0_reachable_2 : List (Nat × hyE) := [(32, .iconst 1, 33, 0, 0, 0, 0, 1, none, []),
  (33, .goto 4, 36, 37, 0, 0, 0, 0, none, []),
  (36, .iconst 0, 37, 0, 0, 0, 0, 0, none, []),
  (37, .istore 5, 39, 5, 0, 0, 0, 0, none, []),
  (39, .aload_n 0, 40, 0, 0, 0, 0, 0, none, []),
  (40, .iload 4, 42, 4, 0, 0, 0, 0, none, []),
  (42, .invokevirtual 41, 45, 0, 1, 0, 0, 0, (some mX0_fittedBy), []),
  (45, .istore 6, 47, 6, 0, 0, 0, 0, none, []),
  (47, .iload 5, 49, 5, 0, 0, 0, 0, none, [])]
theorem oX0_reachable_2 : ∀ q ∈ tX0_reachable_2, hy_ok mX0_reachable q.1 q.2 = true := by decide +kernel
def tX0_reachable_3 : List (Nat × hyE) := [(49, .ifCond .eq 23, 52, 72, 0, 0, 0, 0, none, []),
  (52, .iload 6, 54, 6, 0, 0, 0, 0, none, []),
  (54, .invokestatic 36, 57, 5, 1, 0, 0, 0, (some mJ6_bitCount_0f7a4), []),
  (57, .iload 4, 59, 4, 0, 0, 0, 0, none, []),
  (59, .invokestatic 36, 62, 5, 1, 0, 0, 0, (some mJ6_bitCount_0f7a4), []),
  (62, .if_icmp .ne 10, 65, 72, 0, 0, 0, 0, none, [])]
theorem oX0_reachable_3 : ∀ q ∈ tX0_reachable_3, hy_ok mX0_reachable q.1 q.2 = true := by decide +kernel
def tX0_reachable_4 : List (Nat × hyE) := [(65, .iload_n 2, 66, 2, 0, 0, 0, 0, none, []),
  (66, .iload 6, 68, 6, 0, 0, 0, 0, none, []),
  (68, .iconst (-1), 69, 0, 0, 0, 0, (-1), none, []),
  (69, .ixor, 70, 0, 0, 0, 0, 0, none, []),
  (70, .iand, 71, 0, 0, 0, 0, 0, none, []),
  (71, .istore_n 2, 72, 2, 0, 0, 0, 0, none, []),
  (72, .iinc 4 1, 75, 4, 0, 0, 0, 1, none, []),
  (75, .goto (-58), 78, 17, 0, 0, 0, 0, none, []),
  (78, .iload_n 2, 79, 2, 0, 0, 0, 0, none, []),
  (79, .ireturn, 80, 0, 0, 0, 0, 0, none, [])]
theorem oX0_reachable_4 : ∀ q ∈ tX0_reachable_4, hy_ok mX0_reachable q.1 q.2 = true := by decide +kernel
def tX0_reachable : hyT := [tX0_reachable_0, tX0_reachable_1, tX0_reachable_2, tX0_reachable_3, tX0_reachable_4]
theorem oX0_reachable : hy_tok mX0_reachable tX0_reachable := List.forall_mem_cons.mpr ⟨oX0_reachable_0, List.forall_mem_cons.mpr ⟨oX0_reachable_1, List.forall_mem_cons.mpr ⟨oX0_reachable_2, List.forall_mem_cons.mpr ⟨oX0_reachable_3, List.forall_mem_cons.mpr ⟨oX0_reachable_4, fun _ h => absurd h List.not_mem_nil⟩⟩⟩⟩⟩
def tX0_fittedBy_0 : List (Nat × hyE) := [(0, .iconst 0, 1, 0, 0, 0, 0, 0, none, []),
  (1, .istore_n 2, 2, 2, 0, 0, 0, 0, none, []),
  (2, .iconst 0, 3, 0, 0, 0, 0, 0, none, []),
  (3, .istore_n 3, 4, 3, 0, 0, 0, 0, none, []),
  (4, .iload_n 3, 5, 3, 0, 0, 0, 0, none, []),
  (5, .bipush 8, 7, 0, 0, 0, 0, 8, none, []),
  (7, .if_icmp .ge 26, 10, 33, 0, 0, 0, 0, none, []),
  (10, .iload_n 1, 11, 1, 0, 0, 0, 0, none, []),
  (11, .iload_n 3, 12, 3, 0, 0, 0, 0, none, []),
  (12, .ishr, 13, 0, 0, 0, 0, 0, none, []),
  (13, .iconst 1, 14, 0, 0, 0, 0, 1, none, []),
  (14, .iand, 15, 0, 0, 0, 0, 0, none, []),
  (15, .ifCond .eq 12, 18, 27, 0, 0, 0, 0, none, [])]
theorem oX0_fittedBy_0 : ∀ q ∈ tX0_fittedBy_0, hy_ok mX0_fittedBy q.1 q.2 = true := by decide +kernel
def tX0_fittedBy_1 : List (Nat × hyE) := [(18, .iload_n 2, 19, 2, 0, 0, 0, 0, none, []),
  (19, .aload_n 0, 20, 0, 0, 0, 0, 0, none, []),
  (20, .getfield 11, 23, 0, 0, 0, 0, 0, none, []),
  (23, .iload_n 3, 24, 3, 0, 0, 0, 0, none, []),
  (24, .iaload, 25, 0, 0, 0, 0, 0, none, []),
  (25, .ior, 26, 0, 0, 0, 0, 0, none, []),
  (26, .istore_n 2, 27, 2, 0, 0, 0, 0, none, []),
  (27, .iinc 3 1, 30, 3, 0, 0, 0, 1, none, []),
  (30, .goto (-26), 33, 4, 0, 0, 0, 0, none, [])]
theorem oX0_fittedBy_1 : ∀ q ∈ tX0_fittedBy_1, hy_ok mX0_fittedBy q.1 q.2 = true := by decide +kernel
def tX0_fittedBy_2 : List (Nat × hyE) := [(33, .iload_n 2, 34, 2, 0, 0, 0, 0, none, []),
  (34, .ireturn, 35, 0, 0, 0, 0, 0, none, [])]
theorem oX0_fittedBy_2 : ∀ q ∈ tX0_fittedBy_2, hy_ok mX0_fittedBy q.1 q.2 = true := by decide +kernel
def tX0_fittedBy : hyT := [tX0_fittedBy_0, tX0_fittedBy_1, tX0_fittedBy_2]
theorem oX0_fittedBy : hy_tok mX0_fittedBy tX0_fittedBy := List.forall_mem_cons.mpr ⟨oX0_fittedBy_0, List.forall_mem_cons.mpr ⟨oX0_fittedBy_1, List.forall_mem_cons.mpr ⟨oX0_fittedBy_2, fun _ h => absurd h List.not_mem_nil⟩⟩⟩
def tX0_onlyOne_0 : List (Nat × hyE) := [(0, .iload_n 0, 1, 0, 0, 0, 0, 0, none, []),
  (1, .invokestatic 36, 4, 5, 1, 0, 0, 0, (some mJ6_bitCount_0f7a4), []),
  (4, .iconst 1, 5, 0, 0, 0, 0, 1, none, []),
  (5, .if_icmp .ne 10, 8, 15, 0, 0, 0, 0, none, []),
  (8, .iload_n 0, 9, 0, 0, 0, 0, 0, none, []),
  (9, .invokestatic 44, 12, 6, 1, 0, 0, 0, (some mJ6_numberOfTrailingZeros_0f7a4), []),
  (12, .goto 4, 15, 16, 0, 0, 0, 0, none, []),
  (15, .iconst (-1), 16, 0, 0, 0, 0, (-1), none, [])]
theorem oX0_onlyOne_0 : ∀ q ∈ tX0_onlyOne_0, hy_ok mX0_onlyOne q.1 q.2 = true := by decide +kernel
def tX0_onlyOne_1 : List (Nat × hyE) := [(16, .ireturn, 17, 0, 0, 0, 0, 0, none, [])]
theorem oX0_onlyOne_1 : ∀ q ∈ tX0_onlyOne_1, hy_ok mX0_onlyOne q.1 q.2 = true := by decide +kernel
def tX0_onlyOne : hyT := [tX0_onlyOne_0, tX0_onlyOne_1]
theorem oX0_onlyOne : hy_tok mX0_onlyOne tX0_onlyOne := List.forall_mem_cons.mpr ⟨oX0_onlyOne_0, List.forall_mem_cons.mpr ⟨oX0_onlyOne_1, fun _ h => absurd h List.not_mem_nil⟩⟩
def tX0_isFind_0 : List (Nat × hyE) := [(0, .iload_n 1, 1, 1, 0, 0, 0, 0, none, []),
  (1, .iconst 0, 2, 0, 0, 0, 0, 0, none, []),
  (2, .aload_n 0, 3, 0, 0, 0, 0, 0, none, []),
  (3, .getfield 18, 6, 0, 2, 0, 0, 0, none, []),
  (6, .iconst 1, 7, 0, 0, 0, 0, 1, none, []),
  (7, .isub, 8, 0, 0, 0, 0, 0, none, []),
  (8, .invokestatic 47, 11, 1, 3, 1, 0, 0, (some mX5_within), []),
  (11, .ireturn, 12, 0, 0, 0, 0, 0, none, [])]
theorem oX0_isFind_0 : ∀ q ∈ tX0_isFind_0, hy_ok mX0_isFind q.1 q.2 = true := by decide +kernel
def tX0_isFind : hyT := [tX0_isFind_0]
theorem oX0_isFind : hy_tok mX0_isFind tX0_isFind := List.forall_mem_cons.mpr ⟨oX0_isFind_0, fun _ h => absurd h List.not_mem_nil⟩
def tX2_init_0 : List (Nat × hyE) := [(0, .aload_n 0, 1, 0, 0, 0, 0, 0, none, []),
  (1, .invokespecial 3, 4, 0, 0, 0, 0, 0, none, []),
  (4, .aload_n 0, 5, 0, 0, 0, 0, 0, none, []),
  (5, .bipush 8, 7, 0, 0, 0, 0, 8, none, []),
  (7, .newarray .int, 9, 0, 0, 0, 0, 0, none, []),
  (9, .putfield 11, 12, 2, 0, 2, 0, 0, none, []),
  (12, .aload_n 0, 13, 0, 0, 0, 0, 0, none, []),
  (13, .bipush 10, 15, 0, 0, 0, 0, 10, none, []),
  (15, .newarray .int, 17, 0, 0, 0, 0, 0, none, [])]
theorem oX2_init_0 : ∀ q ∈ tX2_init_0, hy_ok mX2_init q.1 q.2 = true := by decide +kernel
def tX2_init_1 : List (Nat × hyE) := [(17, .putfield 15, 20, 2, 1, 2, 0, 0, none, []),
  (20, .aload_n 0, 21, 0, 0, 0, 0, 0, none, []),
  (21, .bipush 24, 23, 0, 0, 0, 0, 24, none, []),
  (23, .newarray .int, 25, 0, 0, 0, 0, 0, none, []),
  (25, .putfield 18, 28, 2, 2, 2, 0, 0, none, []),
  (28, .aload_n 0, 29, 0, 0, 0, 0, 0, none, []),
  (29, .bipush 24, 31, 0, 0, 0, 0, 24, none, []),
  (31, .newarray .int, 33, 0, 0, 0, 0, 0, none, [])]
theorem oX2_init_1 : ∀ q ∈ tX2_init_1, hy_ok mX2_init q.1 q.2 = true := by decide +kernel
def tX2_init_2 : List (Nat × hyE) := [(33, .putfield 21, 36, 2, 3, 2, 0, 0, none, []),
  (36, .aload_n 0, 37, 0, 0, 0, 0, 0, none, []),
  (37, .bipush 24, 39, 0, 0, 0, 0, 24, none, []),
  (39, .newarray .int, 41, 0, 0, 0, 0, 0, none, []),
  (41, .putfield 24, 44, 2, 4, 2, 0, 0, none, []),
  (44, .aload_n 0, 45, 0, 0, 0, 0, 0, none, []),
  (45, .bipush 24, 47, 0, 0, 0, 0, 24, none, []),
  (47, .newarray .int, 49, 0, 0, 0, 0, 0, none, [])]
theorem oX2_init_2 : ∀ q ∈ tX2_init_2, hy_ok mX2_init q.1 q.2 = true := by decide +kernel
def tX2_init_3 : List (Nat × hyE) := [(49, .putfield 27, 52, 2, 5, 2, 0, 0, none, []),
  (52, .aload_n 0, 53, 0, 0, 0, 0, 0, none, []),
  (53, .bipush 24, 55, 0, 0, 0, 0, 24, none, []),
  (55, .newarray .int, 57, 0, 0, 0, 0, 0, none, []),
  (57, .putfield 30, 60, 2, 6, 2, 0, 0, none, []),
  (60, .aload_n 0, 61, 0, 0, 0, 0, 0, none, []),
  (61, .bipush 24, 63, 0, 0, 0, 0, 24, none, []),
  (63, .newarray .int, 65, 0, 0, 0, 0, 0, none, [])]
theorem oX2_init_3 : ∀ q ∈ tX2_init_3, hy_ok mX2_init q.1 q.2 = true := by decide +kernel
def tX2_init_4 : List (Nat × hyE) := [(65, .putfield 33, 68, 2, 7, 2, 0, 0, none, []),
  (68, .iconst 0, 69, 0, 0, 0, 0, 0, none, []),
  (69, .istore_n 1, 70, 1, 0, 0, 0, 0, none, []),
  (70, .iload_n 1, 71, 1, 0, 0, 0, 0, none, []),
  (71, .bipush 10, 73, 0, 0, 0, 0, 10, none, []),
  (73, .if_icmp .ge 18, 76, 91, 0, 0, 0, 0, none, []),
  (76, .aload_n 0, 77, 0, 0, 0, 0, 0, none, []),
  (77, .getfield 15, 80, 2, 1, 0, 0, 0, none, [])]
theorem oX2_init_4 : ∀ q ∈ tX2_init_4, hy_ok mX2_init q.1 q.2 = true := by decide +kernel
def tX2_init_5 : List (Nat × hyE) := [(80, .iload_n 1, 81, 1, 0, 0, 0, 0, none, []),
  (81, .iconst 1, 82, 0, 0, 0, 0, 1, none, []),
  (82, .iload_n 1, 83, 1, 0, 0, 0, 0, none, []),
  (83, .iadd, 84, 0, 0, 0, 0, 0, none, []),
  (84, .iastore, 85, 0, 0, 0, 0, 0, none, []),
  (85, .iinc 1 1, 88, 1, 0, 0, 0, 1, none, []),
  (88, .goto (-18), 91, 70, 0, 0, 0, 0, none, []),
  (91, .return_, 92, 0, 0, 0, 0, 0, none, [])]
theorem oX2_init_5 : ∀ q ∈ tX2_init_5, hy_ok mX2_init q.1 q.2 = true := by decide +kernel
def tX2_init : hyT := [tX2_init_0, tX2_init_1, tX2_init_2, tX2_init_3, tX2_init_4, tX2_init_5]
theorem oX2_init : hy_tok mX2_init tX2_init := List.forall_mem_cons.mpr ⟨oX2_init_0, List.forall_mem_cons.mpr ⟨oX2_init_1, List.forall_mem_cons.mpr ⟨oX2_init_2, List.forall_mem_cons.mpr ⟨oX2_init_3, List.forall_mem_cons.mpr ⟨oX2_init_4, List.forall_mem_cons.mpr ⟨oX2_init_5, fun _ h => absurd h List.not_mem_nil⟩⟩⟩⟩⟩⟩
def tX2_count_0 : List (Nat × hyE) := [(0, .aload_n 0, 1, 0, 0, 0, 0, 0, none, []),
  (1, .getfield 36, 4, 2, 8, 0, 0, 0, none, []),
  (4, .ireturn, 5, 0, 0, 0, 0, 0, none, [])]
theorem oX2_count_0 : ∀ q ∈ tX2_count_0, hy_ok mX2_count q.1 q.2 = true := by decide +kernel
def tX2_count : hyT := [tX2_count_0]
theorem oX2_count : hy_tok mX2_count tX2_count := List.forall_mem_cons.mpr ⟨oX2_count_0, fun _ h => absurd h List.not_mem_nil⟩
def tX2_clock_0 : List (Nat × hyE) := [(0, .aload_n 0, 1, 0, 0, 0, 0, 0, none, []),
  (1, .getfield 40, 4, 2, 9, 0, 0, 0, none, []),
  (4, .ireturn, 5, 0, 0, 0, 0, 0, none, [])]
theorem oX2_clock_0 : ∀ q ∈ tX2_clock_0, hy_ok mX2_clock q.1 q.2 = true := by decide +kernel
def tX2_clock : hyT := [tX2_clock_0]
theorem oX2_clock : hy_tok mX2_clock tX2_clock := List.forall_mem_cons.mpr ⟨oX2_clock_0, fun _ h => absurd h List.not_mem_nil⟩
def tX2_huskTotal_0 : List (Nat × hyE) := [(0, .aload_n 0, 1, 0, 0, 0, 0, 0, none, []),
  (1, .getfield 43, 4, 2, 10, 0, 0, 0, none, []),
  (4, .ireturn, 5, 0, 0, 0, 0, 0, none, [])]
theorem oX2_huskTotal_0 : ∀ q ∈ tX2_huskTotal_0, hy_ok mX2_huskTotal q.1 q.2 = true := by decide +kernel
def tX2_huskTotal : hyT := [tX2_huskTotal_0]
theorem oX2_huskTotal : hy_tok mX2_huskTotal tX2_huskTotal := List.forall_mem_cons.mpr ⟨oX2_huskTotal_0, fun _ h => absurd h List.not_mem_nil⟩
def tX2_setSalt_0 : List (Nat × hyE) := [(0, .iload_n 1, 1, 1, 0, 0, 0, 0, none, []),
  (1, .invokestatic 46, 4, 11, 1, 0, 0, 0, (some mX2_isPit), []),
  (4, .ifCond .eq 13, 7, 17, 0, 0, 0, 0, none, []),
  (7, .iload_n 2, 8, 2, 0, 0, 0, 0, none, []),
  (8, .iconst 0, 9, 0, 0, 0, 0, 0, none, []),
  (9, .bipush 9, 11, 0, 0, 0, 0, 9, none, []),
  (11, .invokestatic 50, 14, 1, 3, 1, 0, 0, (some mX5_within), []),
  (14, .ifCond .ne 5, 17, 19, 0, 0, 0, 0, none, [])]
theorem oX2_setSalt_0 : ∀ q ∈ tX2_setSalt_0, hy_ok mX2_setSalt q.1 q.2 = true := by decide +kernel
def tX2_setSalt_1 : List (Nat × hyE) := [(17, .iconst 0, 18, 0, 0, 0, 0, 0, none, []),
  (18, .ireturn, 19, 0, 0, 0, 0, 0, none, []),
  (19, .aload_n 0, 20, 0, 0, 0, 0, 0, none, []),
  (20, .getfield 11, 23, 2, 0, 0, 0, 0, none, []),
  (23, .iload_n 1, 24, 1, 0, 0, 0, 0, none, []),
  (24, .iload_n 2, 25, 2, 0, 0, 0, 0, none, []),
  (25, .iastore, 26, 0, 0, 0, 0, 0, none, []),
  (26, .iconst 1, 27, 0, 0, 0, 0, 1, none, []),
  (27, .ireturn, 28, 0, 0, 0, 0, 0, none, [])]
theorem oX2_setSalt_1 : ∀ q ∈ tX2_setSalt_1, hy_ok mX2_setSalt q.1 q.2 = true := by decide +kernel
def tX2_setSalt : hyT := [tX2_setSalt_0, tX2_setSalt_1]
theorem oX2_setSalt : hy_tok mX2_setSalt tX2_setSalt := List.forall_mem_cons.mpr ⟨oX2_setSalt_0, List.forall_mem_cons.mpr ⟨oX2_setSalt_1, fun _ h => absurd h List.not_mem_nil⟩⟩
def tX2_setRipens_0 : List (Nat × hyE) := [(0, .iload_n 1, 1, 1, 0, 0, 0, 0, none, []),
  (1, .iconst 0, 2, 0, 0, 0, 0, 0, none, []),
  (2, .bipush 9, 4, 0, 0, 0, 0, 9, none, []),
  (4, .invokestatic 50, 7, 1, 3, 1, 0, 0, (some mX5_within), []),
  (7, .ifCond .eq 13, 10, 20, 0, 0, 0, 0, none, []),
  (10, .iload_n 2, 11, 2, 0, 0, 0, 0, none, []),
  (11, .iconst 0, 12, 0, 0, 0, 0, 0, none, []),
  (12, .bipush 50, 14, 0, 0, 0, 0, 50, none, []),
  (14, .invokestatic 50, 17, 1, 3, 1, 0, 0, (some mX5_within), [])]
theorem oX2_setRipens_0 : ∀ q ∈ tX2_setRipens_0, hy_ok mX2_setRipens q.1 q.2 = true := by decide +kernel
def tX2_setRipens_1 : List (Nat × hyE) := [(17, .ifCond .ne 5, 20, 22, 0, 0, 0, 0, none, []),
  (20, .iconst 0, 21, 0, 0, 0, 0, 0, none, []),
  (21, .ireturn, 22, 0, 0, 0, 0, 0, none, []),
  (22, .aload_n 0, 23, 0, 0, 0, 0, 0, none, []),
  (23, .getfield 15, 26, 2, 1, 0, 0, 0, none, []),
  (26, .iload_n 1, 27, 1, 0, 0, 0, 0, none, []),
  (27, .iload_n 2, 28, 2, 0, 0, 0, 0, none, []),
  (28, .iastore, 29, 0, 0, 0, 0, 0, none, []),
  (29, .iconst 1, 30, 0, 0, 0, 0, 1, none, []),
  (30, .ireturn, 31, 0, 0, 0, 0, 0, none, [])]
theorem oX2_setRipens_1 : ∀ q ∈ tX2_setRipens_1, hy_ok mX2_setRipens q.1 q.2 = true := by decide +kernel
def tX2_setRipens : hyT := [tX2_setRipens_0, tX2_setRipens_1]
theorem oX2_setRipens : hy_tok mX2_setRipens tX2_setRipens := List.forall_mem_cons.mpr ⟨oX2_setRipens_0, List.forall_mem_cons.mpr ⟨oX2_setRipens_1, fun _ h => absurd h List.not_mem_nil⟩⟩
def tX2_putIn_0 : List (Nat × hyE) := [(0, .iload_n 1, 1, 1, 0, 0, 0, 0, none, []),
  (1, .invokestatic 46, 4, 11, 1, 0, 0, 0, (some mX2_isPit), []),
  (4, .ifCond .eq 42, 7, 46, 0, 0, 0, 0, none, []),
  (7, .iload_n 2, 8, 2, 0, 0, 0, 0, none, []),
  (8, .invokestatic 54, 11, 10, 1, 1, 0, 0, (some mX5_isMarks), []),
  (11, .ifCond .eq 35, 14, 46, 0, 0, 0, 0, none, []),
  (14, .iload_n 3, 15, 3, 0, 0, 0, 0, none, []),
  (15, .iconst 1, 16, 0, 0, 0, 0, 1, none, [])]
theorem oX2_putIn_0 : ∀ q ∈ tX2_putIn_0, hy_ok mX2_putIn q.1 q.2 = true := by decide +kernel
def tX2_putIn_1 : List (Nat × hyE) := [(16, .sipush 1000, 19, 0, 0, 0, 0, 1000, none, []),
  (19, .invokestatic 50, 22, 1, 3, 1, 0, 0, (some mX5_within), []),
  (22, .ifCond .eq 24, 25, 46, 0, 0, 0, 0, none, []),
  (25, .iload 4, 27, 4, 0, 0, 0, 0, none, []),
  (27, .iconst 1, 28, 0, 0, 0, 0, 1, none, []),
  (28, .sipush 2000, 31, 0, 0, 0, 0, 2000, none, []),
  (31, .invokestatic 50, 34, 1, 3, 1, 0, 0, (some mX5_within), [])]
theorem oX2_putIn_1 : ∀ q ∈ tX2_putIn_1, hy_ok mX2_putIn q.1 q.2 = true := by decide +kernel
def tX2_putIn_2 : List (Nat × hyE) := [(34, .ifCond .eq 12, 37, 46, 0, 0, 0, 0, none, []),
  (37, .aload_n 0, 38, 0, 0, 0, 0, 0, none, []),
  (38, .getfield 36, 41, 2, 8, 0, 0, 0, none, []),
  (41, .bipush 24, 43, 0, 0, 0, 0, 24, none, []),
  (43, .if_icmp .lt 5, 46, 48, 0, 0, 0, 0, none, []),
  (46, .iconst (-1), 47, 0, 0, 0, 0, (-1), none, []),
  (47, .ireturn, 48, 0, 0, 0, 0, 0, none, [])]
theorem oX2_putIn_2 : ∀ q ∈ tX2_putIn_2, hy_ok mX2_putIn q.1 q.2 = true := by decide +kernel
def tX2_putIn_3 : List (Nat × hyE) := [(48, .aload_n 0, 49, 0, 0, 0, 0, 0, none, []),
  (49, .getfield 18, 52, 2, 2, 0, 0, 0, none, []),
  (52, .aload_n 0, 53, 0, 0, 0, 0, 0, none, []),
  (53, .getfield 36, 56, 2, 8, 0, 0, 0, none, []),
  (56, .iload_n 1, 57, 1, 0, 0, 0, 0, none, []),
  (57, .iastore, 58, 0, 0, 0, 0, 0, none, []),
  (58, .aload_n 0, 59, 0, 0, 0, 0, 0, none, []),
  (59, .getfield 21, 62, 2, 3, 0, 0, 0, none, []),
  (62, .aload_n 0, 63, 0, 0, 0, 0, 0, none, []),
  (63, .getfield 36, 66, 2, 8, 0, 0, 0, none, [])]
theorem oX2_putIn_3 : ∀ q ∈ tX2_putIn_3, hy_ok mX2_putIn q.1 q.2 = true := by decide +kernel
def tX2_putIn_4 : List (Nat × hyE) := [(66, .iload_n 2, 67, 2, 0, 0, 0, 0, none, []),
  (67, .iastore, 68, 0, 0, 0, 0, 0, none, []),
  (68, .aload_n 0, 69, 0, 0, 0, 0, 0, none, []),
  (69, .getfield 24, 72, 2, 4, 0, 0, 0, none, []),
  (72, .aload_n 0, 73, 0, 0, 0, 0, 0, none, []),
  (73, .getfield 36, 76, 2, 8, 0, 0, 0, none, []),
  (76, .iload_n 3, 77, 3, 0, 0, 0, 0, none, []),
  (77, .iastore, 78, 0, 0, 0, 0, 0, none, []),
  (78, .aload_n 0, 79, 0, 0, 0, 0, 0, none, []),
  (79, .getfield 27, 82, 2, 5, 0, 0, 0, none, [])]
theorem oX2_putIn_4 : ∀ q ∈ tX2_putIn_4, hy_ok mX2_putIn q.1 q.2 = true := by decide +kernel
def tX2_putIn_5 : List (Nat × hyE) := [(82, .aload_n 0, 83, 0, 0, 0, 0, 0, none, []),
  (83, .getfield 36, 86, 2, 8, 0, 0, 0, none, []),
  (86, .iload 4, 88, 4, 0, 0, 0, 0, none, []),
  (88, .iastore, 89, 0, 0, 0, 0, 0, none, []),
  (89, .aload_n 0, 90, 0, 0, 0, 0, 0, none, []),
  (90, .getfield 30, 93, 2, 6, 0, 0, 0, none, []),
  (93, .aload_n 0, 94, 0, 0, 0, 0, 0, none, []),
  (94, .getfield 36, 97, 2, 8, 0, 0, 0, none, [])]
theorem oX2_putIn_5 : ∀ q ∈ tX2_putIn_5, hy_ok mX2_putIn q.1 q.2 = true := by decide +kernel
def tX2_putIn_6 : List (Nat × hyE) := [(97, .iconst 0, 98, 0, 0, 0, 0, 0, none, []),
  (98, .iastore, 99, 0, 0, 0, 0, 0, none, []),
  (99, .aload_n 0, 100, 0, 0, 0, 0, 0, none, []),
  (100, .getfield 33, 103, 2, 7, 0, 0, 0, none, []),
  (103, .aload_n 0, 104, 0, 0, 0, 0, 0, none, []),
  (104, .getfield 36, 107, 2, 8, 0, 0, 0, none, []),
  (107, .iconst 0, 108, 0, 0, 0, 0, 0, none, []),
  (108, .iastore, 109, 0, 0, 0, 0, 0, none, []),
  (109, .aload_n 0, 110, 0, 0, 0, 0, 0, none, []),
  (110, .dup, 111, 0, 0, 0, 0, 0, none, []),
  (111, .getfield 36, 114, 2, 8, 0, 0, 0, none, [])]
theorem oX2_putIn_6 : ∀ q ∈ tX2_putIn_6, hy_ok mX2_putIn q.1 q.2 = true := by decide +kernel
def tX2_putIn_7 : List (Nat × hyE) := [(114, .iconst 1, 115, 0, 0, 0, 0, 1, none, []),
  (115, .iadd, 116, 0, 0, 0, 0, 0, none, []),
  (116, .putfield 36, 119, 2, 8, 0, 0, 0, none, []),
  (119, .aload_n 0, 120, 0, 0, 0, 0, 0, none, []),
  (120, .getfield 36, 123, 2, 8, 0, 0, 0, none, []),
  (123, .iconst 1, 124, 0, 0, 0, 0, 1, none, []),
  (124, .isub, 125, 0, 0, 0, 0, 0, none, []),
  (125, .ireturn, 126, 0, 0, 0, 0, 0, none, [])]
theorem oX2_putIn_7 : ∀ q ∈ tX2_putIn_7, hy_ok mX2_putIn q.1 q.2 = true := by decide +kernel
def tX2_putIn : hyT := [tX2_putIn_0, tX2_putIn_1, tX2_putIn_2, tX2_putIn_3, tX2_putIn_4, tX2_putIn_5, tX2_putIn_6, tX2_putIn_7]
theorem oX2_putIn : hy_tok mX2_putIn tX2_putIn := List.forall_mem_cons.mpr ⟨oX2_putIn_0, List.forall_mem_cons.mpr ⟨oX2_putIn_1, List.forall_mem_cons.mpr ⟨oX2_putIn_2, List.forall_mem_cons.mpr ⟨oX2_putIn_3, List.forall_mem_cons.mpr ⟨oX2_putIn_4, List.forall_mem_cons.mpr ⟨oX2_putIn_5, List.forall_mem_cons.mpr ⟨oX2_putIn_6, List.forall_mem_cons.mpr ⟨oX2_putIn_7, fun _ h => absurd h List.not_mem_nil⟩⟩⟩⟩⟩⟩⟩⟩
def tX2_goBy_0 : List (Nat × hyE) := [(0, .iload_n 1, 1, 1, 0, 0, 0, 0, none, []),
  (1, .iconst 1, 2, 0, 0, 0, 0, 1, none, []),
  (2, .bipush 100, 4, 0, 0, 0, 0, 100, none, []),
  (4, .invokestatic 50, 7, 1, 3, 1, 0, 0, (some mX5_within), []),
  (7, .ifCond .eq 15, 10, 22, 0, 0, 0, 0, none, []),
  (10, .aload_n 0, 11, 0, 0, 0, 0, 0, none, []),
  (11, .getfield 40, 14, 2, 9, 0, 0, 0, none, []),
  (14, .iload_n 1, 15, 1, 0, 0, 0, 0, none, []),
  (15, .iadd, 16, 0, 0, 0, 0, 0, none, [])]
theorem oX2_goBy_0 : ∀ q ∈ tX2_goBy_0, hy_ok mX2_goBy q.1 q.2 = true := by decide +kernel
def tX2_goBy_1 : List (Nat × hyE) := [(16, .sipush 500, 19, 0, 0, 0, 0, 500, none, []),
  (19, .if_icmp .le 5, 22, 24, 0, 0, 0, 0, none, []),
  (22, .iconst (-1), 23, 0, 0, 0, 0, (-1), none, []),
  (23, .ireturn, 24, 0, 0, 0, 0, 0, none, []),
  (24, .iconst 0, 25, 0, 0, 0, 0, 0, none, []),
  (25, .istore_n 2, 26, 2, 0, 0, 0, 0, none, []),
  (26, .iload_n 2, 27, 2, 0, 0, 0, 0, none, []),
  (27, .aload_n 0, 28, 0, 0, 0, 0, 0, none, []),
  (28, .getfield 36, 31, 2, 8, 0, 0, 0, none, []),
  (31, .if_icmp .ge 34, 34, 65, 0, 0, 0, 0, none, [])]
theorem oX2_goBy_1 : ∀ q ∈ tX2_goBy_1, hy_ok mX2_goBy q.1 q.2 = true := by decide +kernel
def tX2_goBy_2 : List (Nat × hyE) := [(34, .aload_n 0, 35, 0, 0, 0, 0, 0, none, []),
  (35, .getfield 33, 38, 2, 7, 0, 0, 0, none, []),
  (38, .iload_n 2, 39, 2, 0, 0, 0, 0, none, []),
  (39, .iaload, 40, 0, 0, 0, 0, 0, none, []),
  (40, .ifCond .ne 19, 43, 59, 0, 0, 0, 0, none, []),
  (43, .aload_n 0, 44, 0, 0, 0, 0, 0, none, []),
  (44, .getfield 30, 47, 2, 6, 0, 0, 0, none, []),
  (47, .iload_n 2, 48, 2, 0, 0, 0, 0, none, [])]
theorem oX2_goBy_2 : ∀ q ∈ tX2_goBy_2, hy_ok mX2_goBy q.1 q.2 = true := by decide +kernel
def tX2_goBy_3 : List (Nat × hyE) := [(48, .dup2, 49, 0, 0, 0, 0, 0, none, []),
  (49, .iaload, 50, 0, 0, 0, 0, 0, none, []),
  (50, .iload_n 1, 51, 1, 0, 0, 0, 0, none, []),
  (51, .aload_n 0, 52, 0, 0, 0, 0, 0, none, []),
  (52, .iload_n 2, 53, 2, 0, 0, 0, 0, none, []),
  (53, .invokevirtual 57, 56, 0, 1, 0, 2, 0, (some mX2_rateAt), []),
  (56, .imul, 57, 0, 0, 0, 0, 0, none, []),
  (57, .iadd, 58, 0, 0, 0, 0, 0, none, []),
  (58, .iastore, 59, 0, 0, 0, 0, 0, none, []),
  (59, .iinc 2 1, 62, 2, 0, 0, 0, 1, none, []),
  (62, .goto (-36), 65, 26, 0, 0, 0, 0, none, [])]
theorem oX2_goBy_3 : ∀ q ∈ tX2_goBy_3, hy_ok mX2_goBy q.1 q.2 = true := by decide +kernel
def tX2_goBy_4 : List (Nat × hyE) := [(65, .aload_n 0, 66, 0, 0, 0, 0, 0, none, []),
  (66, .dup, 67, 0, 0, 0, 0, 0, none, []),
  (67, .getfield 40, 70, 2, 9, 0, 0, 0, none, []),
  (70, .iload_n 1, 71, 1, 0, 0, 0, 0, none, []),
  (71, .iadd, 72, 0, 0, 0, 0, 0, none, []),
  (72, .putfield 40, 75, 2, 9, 0, 0, 0, none, []),
  (75, .aload_n 0, 76, 0, 0, 0, 0, 0, none, []),
  (76, .getfield 40, 79, 2, 9, 0, 0, 0, none, []),
  (79, .ireturn, 80, 0, 0, 0, 0, 0, none, [])]
theorem oX2_goBy_4 : ∀ q ∈ tX2_goBy_4, hy_ok mX2_goBy q.1 q.2 = true := by decide +kernel
def tX2_goBy : hyT := [tX2_goBy_0, tX2_goBy_1, tX2_goBy_2, tX2_goBy_3, tX2_goBy_4]
theorem oX2_goBy : hy_tok mX2_goBy tX2_goBy := List.forall_mem_cons.mpr ⟨oX2_goBy_0, List.forall_mem_cons.mpr ⟨oX2_goBy_1, List.forall_mem_cons.mpr ⟨oX2_goBy_2, List.forall_mem_cons.mpr ⟨oX2_goBy_3, List.forall_mem_cons.mpr ⟨oX2_goBy_4, fun _ h => absurd h List.not_mem_nil⟩⟩⟩⟩⟩
def tX2_takeOut_0 : List (Nat × hyE) := [(0, .aload_n 0, 1, 0, 0, 0, 0, 0, none, []),
  (1, .iload_n 1, 2, 1, 0, 0, 0, 0, none, []),
  (2, .invokevirtual 61, 5, 0, 1, 0, 2, 0, (some mX2_isNet), []),
  (5, .ifCond .eq 22, 8, 27, 0, 0, 0, 0, none, []),
  (8, .aload_n 0, 9, 0, 0, 0, 0, 0, none, []),
  (9, .getfield 33, 12, 2, 7, 0, 0, 0, none, []),
  (12, .iload_n 1, 13, 1, 0, 0, 0, 0, none, []),
  (13, .iaload, 14, 0, 0, 0, 0, 0, none, []),
  (14, .ifCond .eq 15, 17, 29, 0, 0, 0, 0, none, [])]
theorem oX2_takeOut_0 : ∀ q ∈ tX2_takeOut_0, hy_ok mX2_takeOut q.1 q.2 = true := by decide +kernel
def tX2_takeOut_1 : List (Nat × hyE) := [(17, .aload_n 0, 18, 0, 0, 0, 0, 0, none, []),
  (18, .getfield 33, 21, 2, 7, 0, 0, 0, none, []),
  (21, .iload_n 1, 22, 1, 0, 0, 0, 0, none, []),
  (22, .iaload, 23, 0, 0, 0, 0, 0, none, []),
  (23, .iconst 3, 24, 0, 0, 0, 0, 3, none, []),
  (24, .if_icmp .eq 5, 27, 29, 0, 0, 0, 0, none, []),
  (27, .iconst (-1), 28, 0, 0, 0, 0, (-1), none, []),
  (28, .ireturn, 29, 0, 0, 0, 0, 0, none, []),
  (29, .aload_n 0, 30, 0, 0, 0, 0, 0, none, []),
  (30, .getfield 33, 33, 2, 7, 0, 0, 0, none, [])]
theorem oX2_takeOut_1 : ∀ q ∈ tX2_takeOut_1, hy_ok mX2_takeOut q.1 q.2 = true := by decide +kernel
def tX2_takeOut_2 : List (Nat × hyE) := [(33, .iload_n 1, 34, 1, 0, 0, 0, 0, none, []),
  (34, .iconst 1, 35, 0, 0, 0, 0, 1, none, []),
  (35, .iastore, 36, 0, 0, 0, 0, 0, none, []),
  (36, .aload_n 0, 37, 0, 0, 0, 0, 0, none, []),
  (37, .iload_n 1, 38, 1, 0, 0, 0, 0, none, []),
  (38, .invokevirtual 64, 41, 0, 1, 0, 2, 0, (some mX2_isRipe), []),
  (41, .ifCond .ne 5, 44, 46, 0, 0, 0, 0, none, []),
  (44, .iconst 0, 45, 0, 0, 0, 0, 0, none, []),
  (45, .ireturn, 46, 0, 0, 0, 0, 0, none, []),
  (46, .aload_n 0, 47, 0, 0, 0, 0, 0, none, []),
  (47, .dup, 48, 0, 0, 0, 0, 0, none, [])]
theorem oX2_takeOut_2 : ∀ q ∈ tX2_takeOut_2, hy_ok mX2_takeOut q.1 q.2 = true := by decide +kernel
def tX2_takeOut_3 : List (Nat × hyE) := [(48, .getfield 43, 51, 2, 10, 0, 0, 0, none, []),
  (51, .aload_n 0, 52, 0, 0, 0, 0, 0, none, []),
  (52, .getfield 24, 55, 2, 4, 0, 0, 0, none, []),
  (55, .iload_n 1, 56, 1, 0, 0, 0, 0, none, []),
  (56, .iaload, 57, 0, 0, 0, 0, 0, none, []),
  (57, .iadd, 58, 0, 0, 0, 0, 0, none, []),
  (58, .putfield 43, 61, 2, 10, 0, 0, 0, none, []),
  (61, .aload_n 0, 62, 0, 0, 0, 0, 0, none, []),
  (62, .getfield 24, 65, 2, 4, 0, 0, 0, none, [])]
theorem oX2_takeOut_3 : ∀ q ∈ tX2_takeOut_3, hy_ok mX2_takeOut q.1 q.2 = true := by decide +kernel
def tX2_takeOut_4 : List (Nat × hyE) := [(65, .iload_n 1, 66, 1, 0, 0, 0, 0, none, []),
  (66, .iaload, 67, 0, 0, 0, 0, 0, none, []),
  (67, .ireturn, 68, 0, 0, 0, 0, 0, none, [])]
theorem oX2_takeOut_4 : ∀ q ∈ tX2_takeOut_4, hy_ok mX2_takeOut q.1 q.2 = true := by decide +kernel
def tX2_takeOut : hyT := [tX2_takeOut_0, tX2_takeOut_1, tX2_takeOut_2, tX2_takeOut_3, tX2_takeOut_4]
theorem oX2_takeOut : hy_tok mX2_takeOut tX2_takeOut := List.forall_mem_cons.mpr ⟨oX2_takeOut_0, List.forall_mem_cons.mpr ⟨oX2_takeOut_1, List.forall_mem_cons.mpr ⟨oX2_takeOut_2, List.forall_mem_cons.mpr ⟨oX2_takeOut_3, List.forall_mem_cons.mpr ⟨oX2_takeOut_4, fun _ h => absurd h List.not_mem_nil⟩⟩⟩⟩⟩
def tX2_floatOff_0 : List (Nat × hyE) := [(0, .iload_n 1, 1, 1, 0, 0, 0, 0, none, []),
  (1, .invokestatic 46, 4, 11, 1, 0, 0, 0, (some mX2_isPit), []),
  (4, .ifCond .ne 5, 7, 9, 0, 0, 0, 0, none, []),
  (7, .iconst (-1), 8, 0, 0, 0, 0, (-1), none, []),
  (8, .ireturn, 9, 0, 0, 0, 0, 0, none, []),
  (9, .iconst 0, 10, 0, 0, 0, 0, 0, none, []),
  (10, .istore_n 2, 11, 2, 0, 0, 0, 0, none, []),
  (11, .iconst 0, 12, 0, 0, 0, 0, 0, none, []),
  (12, .istore_n 3, 13, 3, 0, 0, 0, 0, none, []),
  (13, .iload_n 3, 14, 3, 0, 0, 0, 0, none, []),
  (14, .aload_n 0, 15, 0, 0, 0, 0, 0, none, []),
  (15, .getfield 36, 18, 2, 8, 0, 0, 0, none, [])]
theorem oX2_floatOff_0 : ∀ q ∈ tX2_floatOff_0, hy_ok mX2_floatOff q.1 q.2 = true := by decide +kernel
def tX2_floatOff_1 : List (Nat × hyE) := [(18, .if_icmp .ge 38, 21, 56, 0, 0, 0, 0, none, []),
  (21, .aload_n 0, 22, 0, 0, 0, 0, 0, none, []),
  (22, .getfield 33, 25, 2, 7, 0, 0, 0, none, []),
  (25, .iload_n 3, 26, 3, 0, 0, 0, 0, none, []),
  (26, .iaload, 27, 0, 0, 0, 0, 0, none, []),
  (27, .ifCond .ne 23, 30, 50, 0, 0, 0, 0, none, []),
  (30, .aload_n 0, 31, 0, 0, 0, 0, 0, none, []),
  (31, .getfield 18, 34, 2, 2, 0, 0, 0, none, [])]
theorem oX2_floatOff_1 : ∀ q ∈ tX2_floatOff_1, hy_ok mX2_floatOff q.1 q.2 = true := by decide +kernel
def tX2_floatOff_2 : List (Nat × hyE) := [(34, .iload_n 3, 35, 3, 0, 0, 0, 0, none, []),
  (35, .iaload, 36, 0, 0, 0, 0, 0, none, []),
  (36, .iload_n 1, 37, 1, 0, 0, 0, 0, none, []),
  (37, .if_icmp .ne 13, 40, 50, 0, 0, 0, 0, none, []),
  (40, .aload_n 0, 41, 0, 0, 0, 0, 0, none, []),
  (41, .getfield 33, 44, 2, 7, 0, 0, 0, none, []),
  (44, .iload_n 3, 45, 3, 0, 0, 0, 0, none, []),
  (45, .iconst 2, 46, 0, 0, 0, 0, 2, none, []),
  (46, .iastore, 47, 0, 0, 0, 0, 0, none, []),
  (47, .iinc 2 1, 50, 2, 0, 0, 0, 1, none, [])]
theorem oX2_floatOff_2 : ∀ q ∈ tX2_floatOff_2, hy_ok mX2_floatOff q.1 q.2 = true := by decide +kernel
def tX2_floatOff_3 : List (Nat × hyE) := [(50, .iinc 3 1, 53, 3, 0, 0, 0, 1, none, []),
  (53, .goto (-40), 56, 13, 0, 0, 0, 0, none, []),
  (56, .iload_n 2, 57, 2, 0, 0, 0, 0, none, []),
  (57, .ireturn, 58, 0, 0, 0, 0, 0, none, [])]
theorem oX2_floatOff_3 : ∀ q ∈ tX2_floatOff_3, hy_ok mX2_floatOff q.1 q.2 = true := by decide +kernel
def tX2_floatOff : hyT := [tX2_floatOff_0, tX2_floatOff_1, tX2_floatOff_2, tX2_floatOff_3]
theorem oX2_floatOff : hy_tok mX2_floatOff tX2_floatOff := List.forall_mem_cons.mpr ⟨oX2_floatOff_0, List.forall_mem_cons.mpr ⟨oX2_floatOff_1, List.forall_mem_cons.mpr ⟨oX2_floatOff_2, List.forall_mem_cons.mpr ⟨oX2_floatOff_3, fun _ h => absurd h List.not_mem_nil⟩⟩⟩⟩
def tX2_afloatWith_0 : List (Nat × hyE) := [(0, .iconst 0, 1, 0, 0, 0, 0, 0, none, []),
  (1, .istore_n 3, 2, 3, 0, 0, 0, 0, none, []),
  (2, .iconst 0, 3, 0, 0, 0, 0, 0, none, []),
  (3, .istore 4, 5, 4, 0, 0, 0, 0, none, []),
  (5, .iload 4, 7, 4, 0, 0, 0, 0, none, []),
  (7, .aload_n 0, 8, 0, 0, 0, 0, 0, none, []),
  (8, .getfield 36, 11, 2, 8, 0, 0, 0, none, []),
  (11, .if_icmp .ge 64, 14, 75, 0, 0, 0, 0, none, []),
  (14, .aload_n 0, 15, 0, 0, 0, 0, 0, none, []),
  (15, .getfield 21, 18, 2, 3, 0, 0, 0, none, [])]
theorem oX2_afloatWith_0 : ∀ q ∈ tX2_afloatWith_0, hy_ok mX2_afloatWith q.1 q.2 = true := by decide +kernel
def tX2_afloatWith_1 : List (Nat × hyE) := [(18, .iload 4, 20, 4, 0, 0, 0, 0, none, []),
  (20, .iaload, 21, 0, 0, 0, 0, 0, none, []),
  (21, .iload_n 1, 22, 1, 0, 0, 0, 0, none, []),
  (22, .iand, 23, 0, 0, 0, 0, 0, none, []),
  (23, .iload_n 1, 24, 1, 0, 0, 0, 0, none, []),
  (24, .if_icmp .ne 19, 27, 43, 0, 0, 0, 0, none, []),
  (27, .aload_n 0, 28, 0, 0, 0, 0, 0, none, []),
  (28, .getfield 21, 31, 2, 3, 0, 0, 0, none, []),
  (31, .iload 4, 33, 4, 0, 0, 0, 0, none, [])]
theorem oX2_afloatWith_1 : ∀ q ∈ tX2_afloatWith_1, hy_ok mX2_afloatWith q.1 q.2 = true := by decide +kernel
def tX2_afloatWith_2 : List (Nat × hyE) := [(33, .iaload, 34, 0, 0, 0, 0, 0, none, []),
  (34, .iload_n 2, 35, 2, 0, 0, 0, 0, none, []),
  (35, .iand, 36, 0, 0, 0, 0, 0, none, []),
  (36, .ifCond .ne 7, 39, 43, 0, 0, 0, 0, none, []),
  (39, .iconst 1, 40, 0, 0, 0, 0, 1, none, []),
  (40, .goto 4, 43, 44, 0, 0, 0, 0, none, []),
  (43, .iconst 0, 44, 0, 0, 0, 0, 0, none, []),
  (44, .istore 5, 46, 5, 0, 0, 0, 0, none, []),
  (46, .aload_n 0, 47, 0, 0, 0, 0, 0, none, []),
  (47, .getfield 33, 50, 2, 7, 0, 0, 0, none, [])]
theorem oX2_afloatWith_2 : ∀ q ∈ tX2_afloatWith_2, hy_ok mX2_afloatWith q.1 q.2 = true := by decide +kernel
def tX2_afloatWith_3 : List (Nat × hyE) := [(50, .iload 4, 52, 4, 0, 0, 0, 0, none, []),
  (52, .iaload, 53, 0, 0, 0, 0, 0, none, []),
  (53, .iconst 2, 54, 0, 0, 0, 0, 2, none, []),
  (54, .if_icmp .ne 15, 57, 69, 0, 0, 0, 0, none, []),
  (57, .iload 5, 59, 5, 0, 0, 0, 0, none, []),
  (59, .ifCond .eq 10, 62, 69, 0, 0, 0, 0, none, []),
  (62, .iload_n 3, 63, 3, 0, 0, 0, 0, none, []),
  (63, .iconst 1, 64, 0, 0, 0, 0, 1, none, [])]
theorem oX2_afloatWith_3 : ∀ q ∈ tX2_afloatWith_3, hy_ok mX2_afloatWith q.1 q.2 = true := by decide +kernel
def tX2_afloatWith_4 : List (Nat × hyE) := [(64, .iload 4, 66, 4, 0, 0, 0, 0, none, []),
  (66, .ishl, 67, 0, 0, 0, 0, 0, none, []),
  (67, .ior, 68, 0, 0, 0, 0, 0, none, []),
  (68, .istore_n 3, 69, 3, 0, 0, 0, 0, none, []),
  (69, .iinc 4 1, 72, 4, 0, 0, 0, 1, none, []),
  (72, .goto (-67), 75, 5, 0, 0, 0, 0, none, []),
  (75, .iload_n 3, 76, 3, 0, 0, 0, 0, none, []),
  (76, .ireturn, 77, 0, 0, 0, 0, 0, none, [])]
theorem oX2_afloatWith_4 : ∀ q ∈ tX2_afloatWith_4, hy_ok mX2_afloatWith q.1 q.2 = true := by decide +kernel
def tX2_afloatWith : hyT := [tX2_afloatWith_0, tX2_afloatWith_1, tX2_afloatWith_2, tX2_afloatWith_3, tX2_afloatWith_4]
theorem oX2_afloatWith : hy_tok mX2_afloatWith tX2_afloatWith := List.forall_mem_cons.mpr ⟨oX2_afloatWith_0, List.forall_mem_cons.mpr ⟨oX2_afloatWith_1, List.forall_mem_cons.mpr ⟨oX2_afloatWith_2, List.forall_mem_cons.mpr ⟨oX2_afloatWith_3, List.forall_mem_cons.mpr ⟨oX2_afloatWith_4, fun _ h => absurd h List.not_mem_nil⟩⟩⟩⟩⟩
def tX2_comeBack_0 : List (Nat × hyE) := [(0, .aload_n 0, 1, 0, 0, 0, 0, 0, none, []),
  (1, .iload_n 1, 2, 1, 0, 0, 0, 0, none, []),
  (2, .invokevirtual 61, 5, 0, 1, 0, 2, 0, (some mX2_isNet), []),
  (5, .ifCond .eq 20, 8, 25, 0, 0, 0, 0, none, []),
  (8, .aload_n 0, 9, 0, 0, 0, 0, 0, none, []),
  (9, .getfield 33, 12, 2, 7, 0, 0, 0, none, []),
  (12, .iload_n 1, 13, 1, 0, 0, 0, 0, none, []),
  (13, .iaload, 14, 0, 0, 0, 0, 0, none, []),
  (14, .iconst 2, 15, 0, 0, 0, 0, 2, none, []),
  (15, .if_icmp .ne 10, 18, 25, 0, 0, 0, 0, none, [])]
theorem oX2_comeBack_0 : ∀ q ∈ tX2_comeBack_0, hy_ok mX2_comeBack q.1 q.2 = true := by decide +kernel
def tX2_comeBack_1 : List (Nat × hyE) := [(18, .aload_n 0, 19, 0, 0, 0, 0, 0, none, []),
  (19, .getfield 33, 22, 2, 7, 0, 0, 0, none, []),
  (22, .iload_n 1, 23, 1, 0, 0, 0, 0, none, []),
  (23, .iconst 3, 24, 0, 0, 0, 0, 3, none, []),
  (24, .iastore, 25, 0, 0, 0, 0, 0, none, []),
  (25, .return_, 26, 0, 0, 0, 0, 0, none, [])]
theorem oX2_comeBack_1 : ∀ q ∈ tX2_comeBack_1, hy_ok mX2_comeBack q.1 q.2 = true := by decide +kernel
def tX2_comeBack : hyT := [tX2_comeBack_0, tX2_comeBack_1]
theorem oX2_comeBack : hy_tok mX2_comeBack tX2_comeBack := List.forall_mem_cons.mpr ⟨oX2_comeBack_0, List.forall_mem_cons.mpr ⟨oX2_comeBack_1, fun _ h => absurd h List.not_mem_nil⟩⟩
def tX2_countIn_0 : List (Nat × hyE) := [(0, .iconst 0, 1, 0, 0, 0, 0, 0, none, []),
  (1, .istore_n 2, 2, 2, 0, 0, 0, 0, none, []),
  (2, .iconst 0, 3, 0, 0, 0, 0, 0, none, []),
  (3, .istore_n 3, 4, 3, 0, 0, 0, 0, none, []),
  (4, .iload_n 3, 5, 3, 0, 0, 0, 0, none, []),
  (5, .aload_n 0, 6, 0, 0, 0, 0, 0, none, []),
  (6, .getfield 36, 9, 2, 8, 0, 0, 0, none, []),
  (9, .if_icmp .ge 22, 12, 31, 0, 0, 0, 0, none, []),
  (12, .aload_n 0, 13, 0, 0, 0, 0, 0, none, []),
  (13, .getfield 33, 16, 2, 7, 0, 0, 0, none, [])]
theorem oX2_countIn_0 : ∀ q ∈ tX2_countIn_0, hy_ok mX2_countIn q.1 q.2 = true := by decide +kernel
def tX2_countIn_1 : List (Nat × hyE) := [(16, .iload_n 3, 17, 3, 0, 0, 0, 0, none, []),
  (17, .iaload, 18, 0, 0, 0, 0, 0, none, []),
  (18, .iload_n 1, 19, 1, 0, 0, 0, 0, none, []),
  (19, .if_icmp .ne 6, 22, 25, 0, 0, 0, 0, none, []),
  (22, .iinc 2 1, 25, 2, 0, 0, 0, 1, none, []),
  (25, .iinc 3 1, 28, 3, 0, 0, 0, 1, none, []),
  (28, .goto (-24), 31, 4, 0, 0, 0, 0, none, []),
  (31, .iload_n 2, 32, 2, 0, 0, 0, 0, none, [])]
theorem oX2_countIn_1 : ∀ q ∈ tX2_countIn_1, hy_ok mX2_countIn q.1 q.2 = true := by decide +kernel
def tX2_countIn_2 : List (Nat × hyE) := [(32, .ireturn, 33, 0, 0, 0, 0, 0, none, [])]
theorem oX2_countIn_2 : ∀ q ∈ tX2_countIn_2, hy_ok mX2_countIn q.1 q.2 = true := by decide +kernel
def tX2_countIn : hyT := [tX2_countIn_0, tX2_countIn_1, tX2_countIn_2]
theorem oX2_countIn : hy_tok mX2_countIn tX2_countIn := List.forall_mem_cons.mpr ⟨oX2_countIn_0, List.forall_mem_cons.mpr ⟨oX2_countIn_1, List.forall_mem_cons.mpr ⟨oX2_countIn_2, fun _ h => absurd h List.not_mem_nil⟩⟩⟩
def tX2_tellOf_0 : List (Nat × hyE) := [(0, .aload_n 0, 1, 0, 0, 0, 0, 0, none, []),
  (1, .iload_n 1, 2, 1, 0, 0, 0, 0, none, []),
  (2, .invokevirtual 61, 5, 0, 1, 0, 2, 0, (some mX2_isNet), []),
  (5, .ifCond .ne 5, 8, 10, 0, 0, 0, 0, none, []),
  (8, .iconst (-1), 9, 0, 0, 0, 0, (-1), none, []),
  (9, .ireturn, 10, 0, 0, 0, 0, 0, none, []),
  (10, .iload_n 2, 11, 2, 0, 0, 0, 0, none, []),
  (11, .tableswitch 100 0 7 #[45, 52, 59, 73, 80, 87, 100, 94], 56, 111, 0, 45, 0, 0, none, [(0, 56), (1, 63), (2, 70), (3, 84), (4, 91), (5, 98), (6, 111), (7, 105)])]
theorem oX2_tellOf_0 : ∀ q ∈ tX2_tellOf_0, hy_ok mX2_tellOf q.1 q.2 = true := by decide +kernel
def tX2_tellOf_1 : List (Nat × hyE) := []
theorem oX2_tellOf_1 : ∀ q ∈ tX2_tellOf_1, hy_ok mX2_tellOf q.1 q.2 = true := by decide +kernel
def tX2_tellOf_2 : List (Nat × hyE) := []
theorem oX2_tellOf_2 : ∀ q ∈ tX2_tellOf_2, hy_ok mX2_tellOf q.1 q.2 = true := by decide +kernel
def tX2_tellOf_3 : List (Nat × hyE) := [(56, .aload_n 0, 57, 0, 0, 0, 0, 0, none, []),
  (57, .getfield 18, 60, 2, 2, 0, 0, 0, none, []),
  (60, .iload_n 1, 61, 1, 0, 0, 0, 0, none, []),
  (61, .iaload, 62, 0, 0, 0, 0, 0, none, []),
  (62, .ireturn, 63, 0, 0, 0, 0, 0, none, []),
  (63, .aload_n 0, 64, 0, 0, 0, 0, 0, none, [])]
theorem oX2_tellOf_3 : ∀ q ∈ tX2_tellOf_3, hy_ok mX2_tellOf q.1 q.2 = true := by decide +kernel
def tX2_tellOf_4 : List (Nat × hyE) := [(64, .getfield 30, 67, 2, 6, 0, 0, 0, none, []),
  (67, .iload_n 1, 68, 1, 0, 0, 0, 0, none, []),
  (68, .iaload, 69, 0, 0, 0, 0, 0, none, []),
  (69, .ireturn, 70, 0, 0, 0, 0, 0, none, []),
  (70, .aload_n 0, 71, 0, 0, 0, 0, 0, none, []),
  (71, .iload_n 1, 72, 1, 0, 0, 0, 0, none, []),
  (72, .invokevirtual 64, 75, 0, 1, 0, 2, 0, (some mX2_isRipe), []),
  (75, .ifCond .eq 7, 78, 82, 0, 0, 0, 0, none, []),
  (78, .iconst 1, 79, 0, 0, 0, 0, 1, none, []),
  (79, .goto 4, 82, 83, 0, 0, 0, 0, none, [])]
theorem oX2_tellOf_4 : ∀ q ∈ tX2_tellOf_4, hy_ok mX2_tellOf q.1 q.2 = true := by decide +kernel
def tX2_tellOf_5 : List (Nat × hyE) := [(82, .iconst 0, 83, 0, 0, 0, 0, 0, none, []),
  (83, .ireturn, 84, 0, 0, 0, 0, 0, none, []),
  (84, .aload_n 0, 85, 0, 0, 0, 0, 0, none, []),
  (85, .getfield 33, 88, 2, 7, 0, 0, 0, none, []),
  (88, .iload_n 1, 89, 1, 0, 0, 0, 0, none, []),
  (89, .iaload, 90, 0, 0, 0, 0, 0, none, []),
  (90, .ireturn, 91, 0, 0, 0, 0, 0, none, []),
  (91, .aload_n 0, 92, 0, 0, 0, 0, 0, none, []),
  (92, .getfield 21, 95, 2, 3, 0, 0, 0, none, []),
  (95, .iload_n 1, 96, 1, 0, 0, 0, 0, none, [])]
theorem oX2_tellOf_5 : ∀ q ∈ tX2_tellOf_5, hy_ok mX2_tellOf q.1 q.2 = true := by decide +kernel
def tX2_tellOf_6 : List (Nat × hyE) := [(96, .iaload, 97, 0, 0, 0, 0, 0, none, []),
  (97, .ireturn, 98, 0, 0, 0, 0, 0, none, []),
  (98, .aload_n 0, 99, 0, 0, 0, 0, 0, none, []),
  (99, .getfield 24, 102, 2, 4, 0, 0, 0, none, []),
  (102, .iload_n 1, 103, 1, 0, 0, 0, 0, none, []),
  (103, .iaload, 104, 0, 0, 0, 0, 0, none, []),
  (104, .ireturn, 105, 0, 0, 0, 0, 0, none, []),
  (105, .aload_n 0, 106, 0, 0, 0, 0, 0, none, []),
  (106, .iload_n 1, 107, 1, 0, 0, 0, 0, none, []),
  (107, .invokevirtual 67, 110, 0, 1, 0, 2, 0, (some mX2_weeksToRipe), []),
  (110, .ireturn, 111, 0, 0, 0, 0, 0, none, []),
  (111, .iconst (-1), 112, 0, 0, 0, 0, (-1), none, [])]
theorem oX2_tellOf_6 : ∀ q ∈ tX2_tellOf_6, hy_ok mX2_tellOf q.1 q.2 = true := by decide +kernel
def tX2_tellOf_7 : List (Nat × hyE) := [(112, .ireturn, 113, 0, 0, 0, 0, 0, none, [])]
theorem oX2_tellOf_7 : ∀ q ∈ tX2_tellOf_7, hy_ok mX2_tellOf q.1 q.2 = true := by decide +kernel
def tX2_tellOf : hyT := [tX2_tellOf_0, tX2_tellOf_1, tX2_tellOf_2, tX2_tellOf_3, tX2_tellOf_4, tX2_tellOf_5, tX2_tellOf_6, tX2_tellOf_7]
theorem oX2_tellOf : hy_tok mX2_tellOf tX2_tellOf := List.forall_mem_cons.mpr ⟨oX2_tellOf_0, List.forall_mem_cons.mpr ⟨oX2_tellOf_1, List.forall_mem_cons.mpr ⟨oX2_tellOf_2, List.forall_mem_cons.mpr ⟨oX2_tellOf_3, List.forall_mem_cons.mpr ⟨oX2_tellOf_4, List.forall_mem_cons.mpr ⟨oX2_tellOf_5, List.forall_mem_cons.mpr ⟨oX2_tellOf_6, List.forall_mem_cons.mpr ⟨oX2_tellOf_7, fun _ h => absurd h List.not_mem_nil⟩⟩⟩⟩⟩⟩⟩⟩
def tX2_weeksToRipe_0 : List (Nat × hyE) := [(0, .aload_n 0, 1, 0, 0, 0, 0, 0, none, []),
  (1, .getfield 33, 4, 2, 7, 0, 0, 0, none, []),
  (4, .iload_n 1, 5, 1, 0, 0, 0, 0, none, []),
  (5, .iaload, 6, 0, 0, 0, 0, 0, none, []),
  (6, .ifCond .eq 5, 9, 11, 0, 0, 0, 0, none, []),
  (9, .iconst (-1), 10, 0, 0, 0, 0, (-1), none, []),
  (10, .ireturn, 11, 0, 0, 0, 0, 0, none, []),
  (11, .aload_n 0, 12, 0, 0, 0, 0, 0, none, []),
  (12, .iload_n 1, 13, 1, 0, 0, 0, 0, none, []),
  (13, .invokevirtual 64, 16, 0, 1, 0, 2, 0, (some mX2_isRipe), [])]
theorem oX2_weeksToRipe_0 : ∀ q ∈ tX2_weeksToRipe_0, hy_ok mX2_weeksToRipe q.1 q.2 = true := by decide +kernel
def tX2_weeksToRipe_1 : List (Nat × hyE) := [(16, .ifCond .eq 5, 19, 21, 0, 0, 0, 0, none, []),
  (19, .iconst 0, 20, 0, 0, 0, 0, 0, none, []),
  (20, .ireturn, 21, 0, 0, 0, 0, 0, none, []),
  (21, .aload_n 0, 22, 0, 0, 0, 0, 0, none, []),
  (22, .iload_n 1, 23, 1, 0, 0, 0, 0, none, []),
  (23, .invokevirtual 57, 26, 0, 1, 0, 2, 0, (some mX2_rateAt), []),
  (26, .istore_n 2, 27, 2, 0, 0, 0, 0, none, []),
  (27, .iload_n 2, 28, 2, 0, 0, 0, 0, none, []),
  (28, .ifCond .gt 5, 31, 33, 0, 0, 0, 0, none, []),
  (31, .iconst (-1), 32, 0, 0, 0, 0, (-1), none, [])]
theorem oX2_weeksToRipe_1 : ∀ q ∈ tX2_weeksToRipe_1, hy_ok mX2_weeksToRipe q.1 q.2 = true := by decide +kernel
def tX2_weeksToRipe_2 : List (Nat × hyE) := [(32, .ireturn, 33, 0, 0, 0, 0, 0, none, []),
  (33, .aload_n 0, 34, 0, 0, 0, 0, 0, none, []),
  (34, .getfield 27, 37, 2, 5, 0, 0, 0, none, []),
  (37, .iload_n 1, 38, 1, 0, 0, 0, 0, none, []),
  (38, .iaload, 39, 0, 0, 0, 0, 0, none, []),
  (39, .aload_n 0, 40, 0, 0, 0, 0, 0, none, []),
  (40, .getfield 30, 43, 2, 6, 0, 0, 0, none, []),
  (43, .iload_n 1, 44, 1, 0, 0, 0, 0, none, []),
  (44, .iaload, 45, 0, 0, 0, 0, 0, none, []),
  (45, .isub, 46, 0, 0, 0, 0, 0, none, []),
  (46, .iload_n 2, 47, 2, 0, 0, 0, 0, none, []),
  (47, .iadd, 48, 0, 0, 0, 0, 0, none, [])]
theorem oX2_weeksToRipe_2 : ∀ q ∈ tX2_weeksToRipe_2, hy_ok mX2_weeksToRipe q.1 q.2 = true := by decide +kernel
def tX2_weeksToRipe_3 : List (Nat × hyE) := [(48, .iconst 1, 49, 0, 0, 0, 0, 1, none, []),
  (49, .isub, 50, 0, 0, 0, 0, 0, none, []),
  (50, .iload_n 2, 51, 2, 0, 0, 0, 0, none, []),
  (51, .idiv, 52, 0, 0, 0, 0, 0, none, []),
  (52, .ireturn, 53, 0, 0, 0, 0, 0, none, [])]
theorem oX2_weeksToRipe_3 : ∀ q ∈ tX2_weeksToRipe_3, hy_ok mX2_weeksToRipe q.1 q.2 = true := by decide +kernel
def tX2_weeksToRipe : hyT := [tX2_weeksToRipe_0, tX2_weeksToRipe_1, tX2_weeksToRipe_2, tX2_weeksToRipe_3]
theorem oX2_weeksToRipe : hy_tok mX2_weeksToRipe tX2_weeksToRipe := List.forall_mem_cons.mpr ⟨oX2_weeksToRipe_0, List.forall_mem_cons.mpr ⟨oX2_weeksToRipe_1, List.forall_mem_cons.mpr ⟨oX2_weeksToRipe_2, List.forall_mem_cons.mpr ⟨oX2_weeksToRipe_3, fun _ h => absurd h List.not_mem_nil⟩⟩⟩⟩
def tX2_rateAt_0 : List (Nat × hyE) := [(0, .aload_n 0, 1, 0, 0, 0, 0, 0, none, []),
  (1, .getfield 15, 4, 2, 1, 0, 0, 0, none, []),
  (4, .aload_n 0, 5, 0, 0, 0, 0, 0, none, []),
  (5, .getfield 11, 8, 2, 0, 0, 0, 0, none, []),
  (8, .aload_n 0, 9, 0, 0, 0, 0, 0, none, []),
  (9, .getfield 18, 12, 2, 2, 0, 0, 0, none, []),
  (12, .iload_n 1, 13, 1, 0, 0, 0, 0, none, []),
  (13, .iaload, 14, 0, 0, 0, 0, 0, none, []),
  (14, .iaload, 15, 0, 0, 0, 0, 0, none, []),
  (15, .iaload, 16, 0, 0, 0, 0, 0, none, [])]
theorem oX2_rateAt_0 : ∀ q ∈ tX2_rateAt_0, hy_ok mX2_rateAt q.1 q.2 = true := by decide +kernel
def tX2_rateAt_1 : List (Nat × hyE) := [(16, .ireturn, 17, 0, 0, 0, 0, 0, none, [])]
theorem oX2_rateAt_1 : ∀ q ∈ tX2_rateAt_1, hy_ok mX2_rateAt q.1 q.2 = true := by decide +kernel
def tX2_rateAt : hyT := [tX2_rateAt_0, tX2_rateAt_1]
theorem oX2_rateAt : hy_tok mX2_rateAt tX2_rateAt := List.forall_mem_cons.mpr ⟨oX2_rateAt_0, List.forall_mem_cons.mpr ⟨oX2_rateAt_1, fun _ h => absurd h List.not_mem_nil⟩⟩
def tX2_isRipe_0 : List (Nat × hyE) := [(0, .aload_n 0, 1, 0, 0, 0, 0, 0, none, []),
  (1, .getfield 30, 4, 2, 6, 0, 0, 0, none, []),
  (4, .iload_n 1, 5, 1, 0, 0, 0, 0, none, []),
  (5, .iaload, 6, 0, 0, 0, 0, 0, none, []),
  (6, .aload_n 0, 7, 0, 0, 0, 0, 0, none, []),
  (7, .getfield 27, 10, 2, 5, 0, 0, 0, none, []),
  (10, .iload_n 1, 11, 1, 0, 0, 0, 0, none, []),
  (11, .iaload, 12, 0, 0, 0, 0, 0, none, []),
  (12, .if_icmp .lt 7, 15, 19, 0, 0, 0, 0, none, []),
  (15, .iconst 1, 16, 0, 0, 0, 0, 1, none, [])]
theorem oX2_isRipe_0 : ∀ q ∈ tX2_isRipe_0, hy_ok mX2_isRipe q.1 q.2 = true := by decide +kernel
def tX2_isRipe_1 : List (Nat × hyE) := [(16, .goto 4, 19, 20, 0, 0, 0, 0, none, []),
  (19, .iconst 0, 20, 0, 0, 0, 0, 0, none, []),
  (20, .ireturn, 21, 0, 0, 0, 0, 0, none, [])]
theorem oX2_isRipe_1 : ∀ q ∈ tX2_isRipe_1, hy_ok mX2_isRipe q.1 q.2 = true := by decide +kernel
def tX2_isRipe : hyT := [tX2_isRipe_0, tX2_isRipe_1]
theorem oX2_isRipe : hy_tok mX2_isRipe tX2_isRipe := List.forall_mem_cons.mpr ⟨oX2_isRipe_0, List.forall_mem_cons.mpr ⟨oX2_isRipe_1, fun _ h => absurd h List.not_mem_nil⟩⟩
def tX2_isNet_0 : List (Nat × hyE) := [(0, .iload_n 1, 1, 1, 0, 0, 0, 0, none, []),
  (1, .iconst 0, 2, 0, 0, 0, 0, 0, none, []),
  (2, .aload_n 0, 3, 0, 0, 0, 0, 0, none, []),
  (3, .getfield 36, 6, 2, 8, 0, 0, 0, none, []),
  (6, .iconst 1, 7, 0, 0, 0, 0, 1, none, []),
  (7, .isub, 8, 0, 0, 0, 0, 0, none, []),
  (8, .invokestatic 50, 11, 1, 3, 1, 0, 0, (some mX5_within), []),
  (11, .ireturn, 12, 0, 0, 0, 0, 0, none, [])]
theorem oX2_isNet_0 : ∀ q ∈ tX2_isNet_0, hy_ok mX2_isNet q.1 q.2 = true := by decide +kernel
def tX2_isNet : hyT := [tX2_isNet_0]
theorem oX2_isNet : hy_tok mX2_isNet tX2_isNet := List.forall_mem_cons.mpr ⟨oX2_isNet_0, fun _ h => absurd h List.not_mem_nil⟩
def tX2_isPit_0 : List (Nat × hyE) := [(0, .iload_n 0, 1, 0, 0, 0, 0, 0, none, []),
  (1, .iconst 0, 2, 0, 0, 0, 0, 0, none, []),
  (2, .bipush 7, 4, 0, 0, 0, 0, 7, none, []),
  (4, .invokestatic 50, 7, 1, 3, 1, 0, 0, (some mX5_within), []),
  (7, .ireturn, 8, 0, 0, 0, 0, 0, none, [])]
theorem oX2_isPit_0 : ∀ q ∈ tX2_isPit_0, hy_ok mX2_isPit q.1 q.2 = true := by decide +kernel
def tX2_isPit : hyT := [tX2_isPit_0]
theorem oX2_isPit : hy_tok mX2_isPit tX2_isPit := List.forall_mem_cons.mpr ⟨oX2_isPit_0, fun _ h => absurd h List.not_mem_nil⟩
def tX3_init_0 : List (Nat × hyE) := [(0, .aload_n 0, 1, 0, 0, 0, 0, 0, none, []),
  (1, .invokespecial 3, 4, 0, 0, 0, 0, 0, none, []),
  (4, .aload_n 0, 5, 0, 0, 0, 0, 0, none, []),
  (5, .sipush (-200), 8, 0, 0, 0, 0, (-200), none, []),
  (8, .putfield 9, 11, 3, 0, 0, 0, 0, none, []),
  (11, .aload_n 0, 12, 0, 0, 0, 0, 0, none, []),
  (12, .sipush 200, 15, 0, 0, 0, 0, 200, none, []),
  (15, .putfield 15, 18, 3, 1, 0, 0, 0, none, [])]
theorem oX3_init_0 : ∀ q ∈ tX3_init_0, hy_ok mX3_init q.1 q.2 = true := by decide +kernel
def tX3_init_1 : List (Nat × hyE) := [(18, .return_, 19, 0, 0, 0, 0, 0, none, [])]
theorem oX3_init_1 : ∀ q ∈ tX3_init_1, hy_ok mX3_init q.1 q.2 = true := by decide +kernel
def tX3_init : hyT := [tX3_init_0, tX3_init_1]
theorem oX3_init : hy_tok mX3_init tX3_init := List.forall_mem_cons.mpr ⟨oX3_init_0, List.forall_mem_cons.mpr ⟨oX3_init_1, fun _ h => absurd h List.not_mem_nil⟩⟩
def tX3_count_0 : List (Nat × hyE) := [(0, .aload_n 0, 1, 0, 0, 0, 0, 0, none, []),
  (1, .getfield 18, 4, 3, 2, 0, 0, 0, none, []),
  (4, .ireturn, 5, 0, 0, 0, 0, 0, none, [])]
theorem oX3_count_0 : ∀ q ∈ tX3_count_0, hy_ok mX3_count q.1 q.2 = true := by decide +kernel
def tX3_count : hyT := [tX3_count_0]
theorem oX3_count : hy_tok mX3_count tX3_count := List.forall_mem_cons.mpr ⟨oX3_count_0, fun _ h => absurd h List.not_mem_nil⟩
def tX3_bound_0 : List (Nat × hyE) := [(0, .iload_n 1, 1, 1, 0, 0, 0, 0, none, []),
  (1, .ifCond .eq 10, 4, 11, 0, 0, 0, 0, none, []),
  (4, .aload_n 0, 5, 0, 0, 0, 0, 0, none, []),
  (5, .getfield 15, 8, 3, 1, 0, 0, 0, none, []),
  (8, .goto 7, 11, 15, 0, 0, 0, 0, none, []),
  (11, .aload_n 0, 12, 0, 0, 0, 0, 0, none, []),
  (12, .getfield 9, 15, 3, 0, 0, 0, 0, none, []),
  (15, .ireturn, 16, 0, 0, 0, 0, 0, none, [])]
theorem oX3_bound_0 : ∀ q ∈ tX3_bound_0, hy_ok mX3_bound q.1 q.2 = true := by decide +kernel
def tX3_bound : hyT := [tX3_bound_0]
theorem oX3_bound : hy_tok mX3_bound tX3_bound := List.forall_mem_cons.mpr ⟨oX3_bound_0, fun _ h => absurd h List.not_mem_nil⟩
def tX3_tell_0 : List (Nat × hyE) := [(0, .iload_n 1, 1, 1, 0, 0, 0, 0, none, []),
  (1, .iconst 1, 2, 0, 0, 0, 0, 1, none, []),
  (2, .sipush 10000, 5, 0, 0, 0, 0, 10000, none, []),
  (5, .invokestatic 21, 8, 1, 3, 1, 0, 0, (some mX5_within), []),
  (8, .ifCond .eq 23, 11, 31, 0, 0, 0, 0, none, []),
  (11, .iload_n 2, 12, 2, 0, 0, 0, 0, none, []),
  (12, .iconst 0, 13, 0, 0, 0, 0, 0, none, []),
  (13, .sipush 20000, 16, 0, 0, 0, 0, 20000, none, [])]
theorem oX3_tell_0 : ∀ q ∈ tX3_tell_0, hy_ok mX3_tell q.1 q.2 = true := by decide +kernel
def tX3_tell_1 : List (Nat × hyE) := [(16, .invokestatic 21, 19, 1, 3, 1, 0, 0, (some mX5_within), []),
  (19, .ifCond .eq 12, 22, 31, 0, 0, 0, 0, none, []),
  (22, .aload_n 0, 23, 0, 0, 0, 0, 0, none, []),
  (23, .getfield 18, 26, 3, 2, 0, 0, 0, none, []),
  (26, .bipush 20, 28, 0, 0, 0, 0, 20, none, []),
  (28, .if_icmp .lt 5, 31, 33, 0, 0, 0, 0, none, []),
  (31, .iconst (-1), 32, 0, 0, 0, 0, (-1), none, [])]
theorem oX3_tell_1 : ∀ q ∈ tX3_tell_1, hy_ok mX3_tell q.1 q.2 = true := by decide +kernel
def tX3_tell_2 : List (Nat × hyE) := [(32, .ireturn, 33, 0, 0, 0, 0, 0, none, []),
  (33, .aload_n 0, 34, 0, 0, 0, 0, 0, none, []),
  (34, .getfield 9, 37, 3, 0, 0, 0, 0, none, []),
  (37, .istore_n 3, 38, 3, 0, 0, 0, 0, none, []),
  (38, .iload_n 3, 39, 3, 0, 0, 0, 0, none, []),
  (39, .aload_n 0, 40, 0, 0, 0, 0, 0, none, []),
  (40, .getfield 15, 43, 3, 1, 0, 0, 0, none, []),
  (43, .if_icmp .gt 18, 46, 61, 0, 0, 0, 0, none, []),
  (46, .iload_n 1, 47, 1, 0, 0, 0, 0, none, []),
  (47, .iload_n 3, 48, 3, 0, 0, 0, 0, none, [])]
theorem oX3_tell_2 : ∀ q ∈ tX3_tell_2, hy_ok mX3_tell q.1 q.2 = true := by decide +kernel
def tX3_tell_3 : List (Nat × hyE) := [(48, .invokestatic 25, 51, 7, 2, 0, 0, 0, (some mX3_readBy), []),
  (51, .iload_n 2, 52, 2, 0, 0, 0, 0, none, []),
  (52, .if_icmp .ge 9, 55, 61, 0, 0, 0, 0, none, []),
  (55, .iinc 3 1, 58, 3, 0, 0, 0, 1, none, []),
  (58, .goto (-20), 61, 38, 0, 0, 0, 0, none, []),
  (61, .aload_n 0, 62, 0, 0, 0, 0, 0, none, []),
  (62, .getfield 15, 65, 3, 1, 0, 0, 0, none, [])]
theorem oX3_tell_3 : ∀ q ∈ tX3_tell_3, hy_ok mX3_tell q.1 q.2 = true := by decide +kernel
def tX3_tell_4 : List (Nat × hyE) := [(65, .istore 4, 67, 4, 0, 0, 0, 0, none, []),
  (67, .iload 4, 69, 4, 0, 0, 0, 0, none, []),
  (69, .aload_n 0, 70, 0, 0, 0, 0, 0, none, []),
  (70, .getfield 9, 73, 3, 0, 0, 0, 0, none, []),
  (73, .if_icmp .lt 19, 76, 92, 0, 0, 0, 0, none, []),
  (76, .iload_n 1, 77, 1, 0, 0, 0, 0, none, []),
  (77, .iload 4, 79, 4, 0, 0, 0, 0, none, []),
  (79, .invokestatic 25, 82, 7, 2, 0, 0, 0, (some mX3_readBy), [])]
theorem oX3_tell_4 : ∀ q ∈ tX3_tell_4, hy_ok mX3_tell q.1 q.2 = true := by decide +kernel
def tX3_tell_5 : List (Nat × hyE) := [(82, .iload_n 2, 83, 2, 0, 0, 0, 0, none, []),
  (83, .if_icmp .le 9, 86, 92, 0, 0, 0, 0, none, []),
  (86, .iinc 4 (-1), 89, 4, 0, 0, 0, (-1), none, []),
  (89, .goto (-22), 92, 67, 0, 0, 0, 0, none, []),
  (92, .iload_n 3, 93, 3, 0, 0, 0, 0, none, []),
  (93, .iload 4, 95, 4, 0, 0, 0, 0, none, []),
  (95, .if_icmp .le 5, 98, 100, 0, 0, 0, 0, none, [])]
theorem oX3_tell_5 : ∀ q ∈ tX3_tell_5, hy_ok mX3_tell q.1 q.2 = true := by decide +kernel
def tX3_tell_6 : List (Nat × hyE) := [(98, .iconst (-1), 99, 0, 0, 0, 0, (-1), none, []),
  (99, .ireturn, 100, 0, 0, 0, 0, 0, none, []),
  (100, .aload_n 0, 101, 0, 0, 0, 0, 0, none, []),
  (101, .iload_n 3, 102, 3, 0, 0, 0, 0, none, []),
  (102, .putfield 9, 105, 3, 0, 0, 0, 0, none, []),
  (105, .aload_n 0, 106, 0, 0, 0, 0, 0, none, []),
  (106, .iload 4, 108, 4, 0, 0, 0, 0, none, []),
  (108, .putfield 15, 111, 3, 1, 0, 0, 0, none, []),
  (111, .aload_n 0, 112, 0, 0, 0, 0, 0, none, [])]
theorem oX3_tell_6 : ∀ q ∈ tX3_tell_6, hy_ok mX3_tell q.1 q.2 = true := by decide +kernel
def tX3_tell_7 : List (Nat × hyE) := [(112, .dup, 113, 0, 0, 0, 0, 0, none, []),
  (113, .getfield 18, 116, 3, 2, 0, 0, 0, none, []),
  (116, .iconst 1, 117, 0, 0, 0, 0, 1, none, []),
  (117, .iadd, 118, 0, 0, 0, 0, 0, none, []),
  (118, .putfield 18, 121, 3, 2, 0, 0, 0, none, []),
  (121, .aload_n 0, 122, 0, 0, 0, 0, 0, none, []),
  (122, .getfield 18, 125, 3, 2, 0, 0, 0, none, []),
  (125, .ireturn, 126, 0, 0, 0, 0, 0, none, [])]
theorem oX3_tell_7 : ∀ q ∈ tX3_tell_7, hy_ok mX3_tell q.1 q.2 = true := by decide +kernel
def tX3_tell : hyT := [tX3_tell_0, tX3_tell_1, tX3_tell_2, tX3_tell_3, tX3_tell_4, tX3_tell_5, tX3_tell_6, tX3_tell_7]
theorem oX3_tell : hy_tok mX3_tell tX3_tell := List.forall_mem_cons.mpr ⟨oX3_tell_0, List.forall_mem_cons.mpr ⟨oX3_tell_1, List.forall_mem_cons.mpr ⟨oX3_tell_2, List.forall_mem_cons.mpr ⟨oX3_tell_3, List.forall_mem_cons.mpr ⟨oX3_tell_4, List.forall_mem_cons.mpr ⟨oX3_tell_5, List.forall_mem_cons.mpr ⟨oX3_tell_6, List.forall_mem_cons.mpr ⟨oX3_tell_7, fun _ h => absurd h List.not_mem_nil⟩⟩⟩⟩⟩⟩⟩⟩
def tX3_weightFor_0 : List (Nat × hyE) := [(0, .iload_n 1, 1, 1, 0, 0, 0, 0, none, []),
  (1, .iconst 0, 2, 0, 0, 0, 0, 0, none, []),
  (2, .sipush 20000, 5, 0, 0, 0, 0, 20000, none, []),
  (5, .invokestatic 21, 8, 1, 3, 1, 0, 0, (some mX5_within), []),
  (8, .ifCond .ne 5, 11, 13, 0, 0, 0, 0, none, []),
  (11, .iconst (-1), 12, 0, 0, 0, 0, (-1), none, []),
  (12, .ireturn, 13, 0, 0, 0, 0, 0, none, []),
  (13, .iload_n 2, 14, 2, 0, 0, 0, 0, none, []),
  (14, .ifCond .eq 11, 17, 25, 0, 0, 0, 0, none, [])]
theorem oX3_weightFor_0 : ∀ q ∈ tX3_weightFor_0, hy_ok mX3_weightFor q.1 q.2 = true := by decide +kernel
def tX3_weightFor_1 : List (Nat × hyE) := [(17, .aload_n 0, 18, 0, 0, 0, 0, 0, none, []),
  (18, .iload_n 1, 19, 1, 0, 0, 0, 0, none, []),
  (19, .invokevirtual 29, 22, 0, 1, 0, 3, 0, (some mX3_greatestWeight), []),
  (22, .goto 8, 25, 30, 0, 0, 0, 0, none, []),
  (25, .aload_n 0, 26, 0, 0, 0, 0, 0, none, []),
  (26, .iload_n 1, 27, 1, 0, 0, 0, 0, none, []),
  (27, .invokevirtual 33, 30, 0, 1, 0, 3, 0, (some mX3_leastWeight), []),
  (30, .ireturn, 31, 0, 0, 0, 0, 0, none, [])]
theorem oX3_weightFor_1 : ∀ q ∈ tX3_weightFor_1, hy_ok mX3_weightFor q.1 q.2 = true := by decide +kernel
def tX3_weightFor : hyT := [tX3_weightFor_0, tX3_weightFor_1]
theorem oX3_weightFor : hy_tok mX3_weightFor tX3_weightFor := List.forall_mem_cons.mpr ⟨oX3_weightFor_0, List.forall_mem_cons.mpr ⟨oX3_weightFor_1, fun _ h => absurd h List.not_mem_nil⟩⟩
def tX3_leastWeight_0 : List (Nat × hyE) := [(0, .iconst (-1), 1, 0, 0, 0, 0, (-1), none, []),
  (1, .istore_n 2, 2, 2, 0, 0, 0, 0, none, []),
  (2, .aload_n 0, 3, 0, 0, 0, 0, 0, none, []),
  (3, .getfield 9, 6, 3, 0, 0, 0, 0, none, []),
  (6, .istore_n 3, 7, 3, 0, 0, 0, 0, none, []),
  (7, .iload_n 3, 8, 3, 0, 0, 0, 0, none, []),
  (8, .aload_n 0, 9, 0, 0, 0, 0, 0, none, []),
  (9, .getfield 15, 12, 3, 1, 0, 0, 0, none, []),
  (12, .if_icmp .gt 42, 15, 54, 0, 0, 0, 0, none, []),
  (15, .iload_n 1, 16, 1, 0, 0, 0, 0, none, [])]
theorem oX3_leastWeight_0 : ∀ q ∈ tX3_leastWeight_0, hy_ok mX3_leastWeight q.1 q.2 = true := by decide +kernel
def tX3_leastWeight_1 : List (Nat × hyE) := [(16, .iload_n 3, 17, 3, 0, 0, 0, 0, none, []),
  (17, .invokestatic 36, 20, 9, 2, 0, 0, 0, (some mX3_weightsBelow), []),
  (20, .iconst 1, 21, 0, 0, 0, 0, 1, none, []),
  (21, .iadd, 22, 0, 0, 0, 0, 0, none, []),
  (22, .istore 4, 24, 4, 0, 0, 0, 0, none, []),
  (24, .iload 4, 26, 4, 0, 0, 0, 0, none, []),
  (26, .iload_n 1, 27, 1, 0, 0, 0, 0, none, []),
  (27, .iload_n 3, 28, 3, 0, 0, 0, 0, none, []),
  (28, .invokestatic 39, 31, 12, 3, 0, 0, 0, (some mX3_isReadSo), []),
  (31, .ifCond .eq 17, 34, 48, 0, 0, 0, 0, none, [])]
theorem oX3_leastWeight_1 : ∀ q ∈ tX3_leastWeight_1, hy_ok mX3_leastWeight q.1 q.2 = true := by decide +kernel
def tX3_leastWeight_2 : List (Nat × hyE) := [(34, .iload_n 2, 35, 2, 0, 0, 0, 0, none, []),
  (35, .iconst (-1), 36, 0, 0, 0, 0, (-1), none, []),
  (36, .if_icmp .eq 9, 39, 45, 0, 0, 0, 0, none, []),
  (39, .iload 4, 41, 4, 0, 0, 0, 0, none, []),
  (41, .iload_n 2, 42, 2, 0, 0, 0, 0, none, []),
  (42, .if_icmp .ge 6, 45, 48, 0, 0, 0, 0, none, []),
  (45, .iload 4, 47, 4, 0, 0, 0, 0, none, []),
  (47, .istore_n 2, 48, 2, 0, 0, 0, 0, none, [])]
theorem oX3_leastWeight_2 : ∀ q ∈ tX3_leastWeight_2, hy_ok mX3_leastWeight q.1 q.2 = true := by decide +kernel
def tX3_leastWeight_3 : List (Nat × hyE) := [(48, .iinc 3 1, 51, 3, 0, 0, 0, 1, none, []),
  (51, .goto (-44), 54, 7, 0, 0, 0, 0, none, []),
  (54, .iload_n 2, 55, 2, 0, 0, 0, 0, none, []),
  (55, .ireturn, 56, 0, 0, 0, 0, 0, none, [])]
theorem oX3_leastWeight_3 : ∀ q ∈ tX3_leastWeight_3, hy_ok mX3_leastWeight q.1 q.2 = true := by decide +kernel
def tX3_leastWeight : hyT := [tX3_leastWeight_0, tX3_leastWeight_1, tX3_leastWeight_2, tX3_leastWeight_3]
theorem oX3_leastWeight : hy_tok mX3_leastWeight tX3_leastWeight := List.forall_mem_cons.mpr ⟨oX3_leastWeight_0, List.forall_mem_cons.mpr ⟨oX3_leastWeight_1, List.forall_mem_cons.mpr ⟨oX3_leastWeight_2, List.forall_mem_cons.mpr ⟨oX3_leastWeight_3, fun _ h => absurd h List.not_mem_nil⟩⟩⟩⟩
def tX3_greatestWeight_0 : List (Nat × hyE) := [(0, .iconst (-1), 1, 0, 0, 0, 0, (-1), none, []),
  (1, .istore_n 2, 2, 2, 0, 0, 0, 0, none, []),
  (2, .aload_n 0, 3, 0, 0, 0, 0, 0, none, []),
  (3, .getfield 9, 6, 3, 0, 0, 0, 0, none, []),
  (6, .istore_n 3, 7, 3, 0, 0, 0, 0, none, []),
  (7, .iload_n 3, 8, 3, 0, 0, 0, 0, none, []),
  (8, .aload_n 0, 9, 0, 0, 0, 0, 0, none, []),
  (9, .getfield 15, 12, 3, 1, 0, 0, 0, none, []),
  (12, .if_icmp .gt 43, 15, 55, 0, 0, 0, 0, none, []),
  (15, .sipush 10000, 18, 0, 0, 0, 0, 10000, none, [])]
theorem oX3_greatestWeight_0 : ∀ q ∈ tX3_greatestWeight_0, hy_ok mX3_greatestWeight q.1 q.2 = true := by decide +kernel
def tX3_greatestWeight_1 : List (Nat × hyE) := [(18, .iload_n 1, 19, 1, 0, 0, 0, 0, none, []),
  (19, .iconst 1, 20, 0, 0, 0, 0, 1, none, []),
  (20, .iadd, 21, 0, 0, 0, 0, 0, none, []),
  (21, .iload_n 3, 22, 3, 0, 0, 0, 0, none, []),
  (22, .invokestatic 36, 25, 9, 2, 0, 0, 0, (some mX3_weightsBelow), []),
  (25, .invokestatic 42, 28, 0, 2, 0, 2, 0, (some mJ9_min_7cf53), []),
  (28, .istore 4, 30, 4, 0, 0, 0, 0, none, []),
  (30, .iload 4, 32, 4, 0, 0, 0, 0, none, [])]
theorem oX3_greatestWeight_1 : ∀ q ∈ tX3_greatestWeight_1, hy_ok mX3_greatestWeight q.1 q.2 = true := by decide +kernel
def tX3_greatestWeight_2 : List (Nat × hyE) := [(32, .iload_n 1, 33, 1, 0, 0, 0, 0, none, []),
  (33, .iload_n 3, 34, 3, 0, 0, 0, 0, none, []),
  (34, .invokestatic 39, 37, 12, 3, 0, 0, 0, (some mX3_isReadSo), []),
  (37, .ifCond .eq 12, 40, 49, 0, 0, 0, 0, none, []),
  (40, .iload 4, 42, 4, 0, 0, 0, 0, none, []),
  (42, .iload_n 2, 43, 2, 0, 0, 0, 0, none, []),
  (43, .if_icmp .le 6, 46, 49, 0, 0, 0, 0, none, []),
  (46, .iload 4, 48, 4, 0, 0, 0, 0, none, [])]
theorem oX3_greatestWeight_2 : ∀ q ∈ tX3_greatestWeight_2, hy_ok mX3_greatestWeight q.1 q.2 = true := by decide +kernel
def tX3_greatestWeight_3 : List (Nat × hyE) := [(48, .istore_n 2, 49, 2, 0, 0, 0, 0, none, []),
  (49, .iinc 3 1, 52, 3, 0, 0, 0, 1, none, []),
  (52, .goto (-45), 55, 7, 0, 0, 0, 0, none, []),
  (55, .iload_n 2, 56, 2, 0, 0, 0, 0, none, []),
  (56, .ireturn, 57, 0, 0, 0, 0, 0, none, [])]
theorem oX3_greatestWeight_3 : ∀ q ∈ tX3_greatestWeight_3, hy_ok mX3_greatestWeight q.1 q.2 = true := by decide +kernel
def tX3_greatestWeight : hyT := [tX3_greatestWeight_0, tX3_greatestWeight_1, tX3_greatestWeight_2, tX3_greatestWeight_3]
theorem oX3_greatestWeight : hy_tok mX3_greatestWeight tX3_greatestWeight := List.forall_mem_cons.mpr ⟨oX3_greatestWeight_0, List.forall_mem_cons.mpr ⟨oX3_greatestWeight_1, List.forall_mem_cons.mpr ⟨oX3_greatestWeight_2, List.forall_mem_cons.mpr ⟨oX3_greatestWeight_3, fun _ h => absurd h List.not_mem_nil⟩⟩⟩⟩
def tX3_readBy_0 : List (Nat × hyE) := [(0, .iload_n 0, 1, 0, 0, 0, 0, 0, none, []),
  (1, .sipush 1000, 4, 0, 0, 0, 0, 1000, none, []),
  (4, .iload_n 1, 5, 1, 0, 0, 0, 0, none, []),
  (5, .iadd, 6, 0, 0, 0, 0, 0, none, []),
  (6, .imul, 7, 0, 0, 0, 0, 0, none, []),
  (7, .sipush 1000, 10, 0, 0, 0, 0, 1000, none, []),
  (10, .idiv, 11, 0, 0, 0, 0, 0, none, []),
  (11, .ireturn, 12, 0, 0, 0, 0, 0, none, [])]
theorem oX3_readBy_0 : ∀ q ∈ tX3_readBy_0, hy_ok mX3_readBy q.1 q.2 = true := by decide +kernel
def tX3_readBy : hyT := [tX3_readBy_0]
theorem oX3_readBy : hy_tok mX3_readBy tX3_readBy := List.forall_mem_cons.mpr ⟨oX3_readBy_0, fun _ h => absurd h List.not_mem_nil⟩
def tX3_isReadSo_0 : List (Nat × hyE) := [(0, .iload_n 0, 1, 0, 0, 0, 0, 0, none, []),
  (1, .iconst 1, 2, 0, 0, 0, 0, 1, none, []),
  (2, .sipush 10000, 5, 0, 0, 0, 0, 10000, none, []),
  (5, .invokestatic 21, 8, 1, 3, 1, 0, 0, (some mX5_within), []),
  (8, .ifCond .eq 16, 11, 24, 0, 0, 0, 0, none, []),
  (11, .iload_n 0, 12, 0, 0, 0, 0, 0, none, []),
  (12, .iload_n 2, 13, 2, 0, 0, 0, 0, none, []),
  (13, .invokestatic 25, 16, 7, 2, 0, 0, 0, (some mX3_readBy), [])]
theorem oX3_isReadSo_0 : ∀ q ∈ tX3_isReadSo_0, hy_ok mX3_isReadSo q.1 q.2 = true := by decide +kernel
def tX3_isReadSo_1 : List (Nat × hyE) := [(16, .iload_n 1, 17, 1, 0, 0, 0, 0, none, []),
  (17, .if_icmp .ne 7, 20, 24, 0, 0, 0, 0, none, []),
  (20, .iconst 1, 21, 0, 0, 0, 0, 1, none, []),
  (21, .goto 4, 24, 25, 0, 0, 0, 0, none, []),
  (24, .iconst 0, 25, 0, 0, 0, 0, 0, none, []),
  (25, .ireturn, 26, 0, 0, 0, 0, 0, none, [])]
theorem oX3_isReadSo_1 : ∀ q ∈ tX3_isReadSo_1, hy_ok mX3_isReadSo q.1 q.2 = true := by decide +kernel
def tX3_isReadSo : hyT := [tX3_isReadSo_0, tX3_isReadSo_1]
theorem oX3_isReadSo : hy_tok mX3_isReadSo tX3_isReadSo := List.forall_mem_cons.mpr ⟨oX3_isReadSo_0, List.forall_mem_cons.mpr ⟨oX3_isReadSo_1, fun _ h => absurd h List.not_mem_nil⟩⟩
def tX3_weightsBelow_0 : List (Nat × hyE) := [(0, .sipush 1000, 3, 0, 0, 0, 0, 1000, none, []),
  (3, .iload_n 1, 4, 1, 0, 0, 0, 0, none, []),
  (4, .iadd, 5, 0, 0, 0, 0, 0, none, []),
  (5, .istore_n 2, 6, 2, 0, 0, 0, 0, none, []),
  (6, .iload_n 0, 7, 0, 0, 0, 0, 0, none, []),
  (7, .ifCond .le 7, 10, 14, 0, 0, 0, 0, none, []),
  (10, .iload_n 2, 11, 2, 0, 0, 0, 0, none, []),
  (11, .ifCond .gt 5, 14, 16, 0, 0, 0, 0, none, []),
  (14, .iconst 0, 15, 0, 0, 0, 0, 0, none, []),
  (15, .ireturn, 16, 0, 0, 0, 0, 0, none, [])]
theorem oX3_weightsBelow_0 : ∀ q ∈ tX3_weightsBelow_0, hy_ok mX3_weightsBelow q.1 q.2 = true := by decide +kernel
def tX3_weightsBelow_1 : List (Nat × hyE) := [(16, .iload_n 0, 17, 0, 0, 0, 0, 0, none, []),
  (17, .sipush 1000, 20, 0, 0, 0, 0, 1000, none, []),
  (20, .imul, 21, 0, 0, 0, 0, 0, none, []),
  (21, .iconst 1, 22, 0, 0, 0, 0, 1, none, []),
  (22, .isub, 23, 0, 0, 0, 0, 0, none, []),
  (23, .iload_n 2, 24, 2, 0, 0, 0, 0, none, []),
  (24, .idiv, 25, 0, 0, 0, 0, 0, none, []),
  (25, .ireturn, 26, 0, 0, 0, 0, 0, none, [])]
theorem oX3_weightsBelow_1 : ∀ q ∈ tX3_weightsBelow_1, hy_ok mX3_weightsBelow q.1 q.2 = true := by decide +kernel
def tX3_weightsBelow : hyT := [tX3_weightsBelow_0, tX3_weightsBelow_1]
theorem oX3_weightsBelow : hy_tok mX3_weightsBelow tX3_weightsBelow := List.forall_mem_cons.mpr ⟨oX3_weightsBelow_0, List.forall_mem_cons.mpr ⟨oX3_weightsBelow_1, fun _ h => absurd h List.not_mem_nil⟩⟩
def tX4_init_0 : List (Nat × hyE) := [(0, .aload_n 0, 1, 0, 0, 0, 0, 0, none, []),
  (1, .invokespecial 3, 4, 0, 0, 0, 0, 0, none, []),
  (4, .aload_n 0, 5, 0, 0, 0, 0, 0, none, []),
  (5, .bipush 7, 7, 0, 0, 0, 0, 7, none, []),
  (7, .newarray .int, 9, 0, 0, 0, 0, 0, none, []),
  (9, .putfield 11, 12, 4, 0, 2, 0, 0, none, []),
  (12, .aload_n 0, 13, 0, 0, 0, 0, 0, none, []),
  (13, .bipush 7, 15, 0, 0, 0, 0, 7, none, []),
  (15, .newarray .int, 17, 0, 0, 0, 0, 0, none, [])]
theorem oX4_init_0 : ∀ q ∈ tX4_init_0, hy_ok mX4_init q.1 q.2 = true := by decide +kernel
def tX4_init_1 : List (Nat × hyE) := [(17, .putfield 15, 20, 4, 1, 2, 0, 0, none, []),
  (20, .aload_n 0, 21, 0, 0, 0, 0, 0, none, []),
  (21, .bipush 7, 23, 0, 0, 0, 0, 7, none, []),
  (23, .newarray .int, 25, 0, 0, 0, 0, 0, none, []),
  (25, .putfield 18, 28, 4, 2, 2, 0, 0, none, []),
  (28, .aload_n 0, 29, 0, 0, 0, 0, 0, none, []),
  (29, .bipush 7, 31, 0, 0, 0, 0, 7, none, []),
  (31, .newarray .int, 33, 0, 0, 0, 0, 0, none, [])]
theorem oX4_init_1 : ∀ q ∈ tX4_init_1, hy_ok mX4_init q.1 q.2 = true := by decide +kernel
def tX4_init_2 : List (Nat × hyE) := [(33, .putfield 21, 36, 4, 3, 2, 0, 0, none, []),
  (36, .aload_n 0, 37, 0, 0, 0, 0, 0, none, []),
  (37, .bipush 7, 39, 0, 0, 0, 0, 7, none, []),
  (39, .newarray .int, 41, 0, 0, 0, 0, 0, none, []),
  (41, .putfield 24, 44, 4, 4, 2, 0, 0, none, []),
  (44, .aload_n 0, 45, 0, 0, 0, 0, 0, none, []),
  (45, .bipush 7, 47, 0, 0, 0, 0, 7, none, []),
  (47, .newarray .int, 49, 0, 0, 0, 0, 0, none, [])]
theorem oX4_init_2 : ∀ q ∈ tX4_init_2, hy_ok mX4_init q.1 q.2 = true := by decide +kernel
def tX4_init_3 : List (Nat × hyE) := [(49, .putfield 27, 52, 4, 5, 2, 0, 0, none, []),
  (52, .aload_n 0, 53, 0, 0, 0, 0, 0, none, []),
  (53, .iconst 2, 54, 0, 0, 0, 0, 2, none, []),
  (54, .putfield 30, 57, 4, 7, 0, 0, 0, none, []),
  (57, .return_, 58, 0, 0, 0, 0, 0, none, [])]
theorem oX4_init_3 : ∀ q ∈ tX4_init_3, hy_ok mX4_init q.1 q.2 = true := by decide +kernel
def tX4_init : hyT := [tX4_init_0, tX4_init_1, tX4_init_2, tX4_init_3]
theorem oX4_init : hy_tok mX4_init tX4_init := List.forall_mem_cons.mpr ⟨oX4_init_0, List.forall_mem_cons.mpr ⟨oX4_init_1, List.forall_mem_cons.mpr ⟨oX4_init_2, List.forall_mem_cons.mpr ⟨oX4_init_3, fun _ h => absurd h List.not_mem_nil⟩⟩⟩⟩
def tX4_count_0 : List (Nat × hyE) := [(0, .aload_n 0, 1, 0, 0, 0, 0, 0, none, []),
  (1, .getfield 34, 4, 4, 6, 0, 0, 0, none, []),
  (4, .ireturn, 5, 0, 0, 0, 0, 0, none, [])]
theorem oX4_count_0 : ∀ q ∈ tX4_count_0, hy_ok mX4_count q.1 q.2 = true := by decide +kernel
def tX4_count : hyT := [tX4_count_0]
theorem oX4_count : hy_tok mX4_count tX4_count := List.forall_mem_cons.mpr ⟨oX4_count_0, fun _ h => absurd h List.not_mem_nil⟩
def tX4_take_0 : List (Nat × hyE) := [(0, .iload_n 1, 1, 1, 0, 0, 0, 0, none, []),
  (1, .iconst 0, 2, 0, 0, 0, 0, 0, none, []),
  (2, .iconst 3, 3, 0, 0, 0, 0, 3, none, []),
  (3, .invokestatic 37, 6, 1, 3, 1, 0, 0, (some mX5_within), []),
  (6, .ifCond .eq 44, 9, 50, 0, 0, 0, 0, none, []),
  (9, .iload_n 2, 10, 2, 0, 0, 0, 0, none, []),
  (10, .iconst 1, 11, 0, 0, 0, 0, 1, none, []),
  (11, .bipush 100, 13, 0, 0, 0, 0, 100, none, []),
  (13, .invokestatic 37, 16, 1, 3, 1, 0, 0, (some mX5_within), [])]
theorem oX4_take_0 : ∀ q ∈ tX4_take_0, hy_ok mX4_take q.1 q.2 = true := by decide +kernel
def tX4_take_1 : List (Nat × hyE) := [(16, .ifCond .eq 34, 19, 50, 0, 0, 0, 0, none, []),
  (19, .iload_n 3, 20, 3, 0, 0, 0, 0, none, []),
  (20, .iconst 0, 21, 0, 0, 0, 0, 0, none, []),
  (21, .sipush 1000, 24, 0, 0, 0, 0, 1000, none, []),
  (24, .invokestatic 37, 27, 1, 3, 1, 0, 0, (some mX5_within), []),
  (27, .ifCond .eq 23, 30, 50, 0, 0, 0, 0, none, []),
  (30, .iload 4, 32, 4, 0, 0, 0, 0, none, [])]
theorem oX4_take_1 : ∀ q ∈ tX4_take_1, hy_ok mX4_take q.1 q.2 = true := by decide +kernel
def tX4_take_2 : List (Nat × hyE) := [(32, .iconst 1, 33, 0, 0, 0, 0, 1, none, []),
  (33, .bipush 9, 35, 0, 0, 0, 0, 9, none, []),
  (35, .invokestatic 37, 38, 1, 3, 1, 0, 0, (some mX5_within), []),
  (38, .ifCond .eq 12, 41, 50, 0, 0, 0, 0, none, []),
  (41, .aload_n 0, 42, 0, 0, 0, 0, 0, none, []),
  (42, .getfield 34, 45, 4, 6, 0, 0, 0, none, []),
  (45, .bipush 7, 47, 0, 0, 0, 0, 7, none, []),
  (47, .if_icmp .lt 5, 50, 52, 0, 0, 0, 0, none, [])]
theorem oX4_take_2 : ∀ q ∈ tX4_take_2, hy_ok mX4_take q.1 q.2 = true := by decide +kernel
def tX4_take_3 : List (Nat × hyE) := [(50, .iconst (-1), 51, 0, 0, 0, 0, (-1), none, []),
  (51, .ireturn, 52, 0, 0, 0, 0, 0, none, []),
  (52, .aload_n 0, 53, 0, 0, 0, 0, 0, none, []),
  (53, .getfield 11, 56, 4, 0, 0, 0, 0, none, []),
  (56, .aload_n 0, 57, 0, 0, 0, 0, 0, none, []),
  (57, .getfield 34, 60, 4, 6, 0, 0, 0, none, []),
  (60, .iload_n 1, 61, 1, 0, 0, 0, 0, none, []),
  (61, .iastore, 62, 0, 0, 0, 0, 0, none, []),
  (62, .aload_n 0, 63, 0, 0, 0, 0, 0, none, []),
  (63, .getfield 15, 66, 4, 1, 0, 0, 0, none, [])]
theorem oX4_take_3 : ∀ q ∈ tX4_take_3, hy_ok mX4_take q.1 q.2 = true := by decide +kernel
def tX4_take_4 : List (Nat × hyE) := [(66, .aload_n 0, 67, 0, 0, 0, 0, 0, none, []),
  (67, .getfield 34, 70, 4, 6, 0, 0, 0, none, []),
  (70, .iload_n 2, 71, 2, 0, 0, 0, 0, none, []),
  (71, .iastore, 72, 0, 0, 0, 0, 0, none, []),
  (72, .aload_n 0, 73, 0, 0, 0, 0, 0, none, []),
  (73, .getfield 18, 76, 4, 2, 0, 0, 0, none, []),
  (76, .aload_n 0, 77, 0, 0, 0, 0, 0, none, []),
  (77, .getfield 34, 80, 4, 6, 0, 0, 0, none, [])]
theorem oX4_take_4 : ∀ q ∈ tX4_take_4, hy_ok mX4_take q.1 q.2 = true := by decide +kernel
def tX4_take_5 : List (Nat × hyE) := [(80, .iload_n 3, 81, 3, 0, 0, 0, 0, none, []),
  (81, .iastore, 82, 0, 0, 0, 0, 0, none, []),
  (82, .aload_n 0, 83, 0, 0, 0, 0, 0, none, []),
  (83, .getfield 21, 86, 4, 3, 0, 0, 0, none, []),
  (86, .aload_n 0, 87, 0, 0, 0, 0, 0, none, []),
  (87, .getfield 34, 90, 4, 6, 0, 0, 0, none, []),
  (90, .iload 4, 92, 4, 0, 0, 0, 0, none, []),
  (92, .iastore, 93, 0, 0, 0, 0, 0, none, []),
  (93, .aload_n 0, 94, 0, 0, 0, 0, 0, none, []),
  (94, .dup, 95, 0, 0, 0, 0, 0, none, []),
  (95, .getfield 34, 98, 4, 6, 0, 0, 0, none, [])]
theorem oX4_take_5 : ∀ q ∈ tX4_take_5, hy_ok mX4_take q.1 q.2 = true := by decide +kernel
def tX4_take_6 : List (Nat × hyE) := [(98, .iconst 1, 99, 0, 0, 0, 0, 1, none, []),
  (99, .iadd, 100, 0, 0, 0, 0, 0, none, []),
  (100, .putfield 34, 103, 4, 6, 0, 0, 0, none, []),
  (103, .aload_n 0, 104, 0, 0, 0, 0, 0, none, []),
  (104, .iconst 0, 105, 0, 0, 0, 0, 0, none, []),
  (105, .putfield 41, 108, 4, 9, 1, 0, 0, none, []),
  (108, .aload_n 0, 109, 0, 0, 0, 0, 0, none, []),
  (109, .getfield 34, 112, 4, 6, 0, 0, 0, none, [])]
theorem oX4_take_6 : ∀ q ∈ tX4_take_6, hy_ok mX4_take q.1 q.2 = true := by decide +kernel
def tX4_take_7 : List (Nat × hyE) := [(112, .iconst 1, 113, 0, 0, 0, 0, 1, none, []),
  (113, .isub, 114, 0, 0, 0, 0, 0, none, []),
  (114, .ireturn, 115, 0, 0, 0, 0, 0, none, [])]
theorem oX4_take_7 : ∀ q ∈ tX4_take_7, hy_ok mX4_take q.1 q.2 = true := by decide +kernel
def tX4_take : hyT := [tX4_take_0, tX4_take_1, tX4_take_2, tX4_take_3, tX4_take_4, tX4_take_5, tX4_take_6, tX4_take_7]
theorem oX4_take : hy_tok mX4_take tX4_take := List.forall_mem_cons.mpr ⟨oX4_take_0, List.forall_mem_cons.mpr ⟨oX4_take_1, List.forall_mem_cons.mpr ⟨oX4_take_2, List.forall_mem_cons.mpr ⟨oX4_take_3, List.forall_mem_cons.mpr ⟨oX4_take_4, List.forall_mem_cons.mpr ⟨oX4_take_5, List.forall_mem_cons.mpr ⟨oX4_take_6, List.forall_mem_cons.mpr ⟨oX4_take_7, fun _ h => absurd h List.not_mem_nil⟩⟩⟩⟩⟩⟩⟩⟩
def tX4_setChange_0 : List (Nat × hyE) := [(0, .iload_n 1, 1, 1, 0, 0, 0, 0, none, []),
  (1, .iconst 0, 2, 0, 0, 0, 0, 0, none, []),
  (2, .bipush 50, 4, 0, 0, 0, 0, 50, none, []),
  (4, .invokestatic 37, 7, 1, 3, 1, 0, 0, (some mX5_within), []),
  (7, .ifCond .ne 5, 10, 12, 0, 0, 0, 0, none, []),
  (10, .iconst 0, 11, 0, 0, 0, 0, 0, none, []),
  (11, .ireturn, 12, 0, 0, 0, 0, 0, none, []),
  (12, .aload_n 0, 13, 0, 0, 0, 0, 0, none, []),
  (13, .iload_n 1, 14, 1, 0, 0, 0, 0, none, []),
  (14, .putfield 30, 17, 4, 7, 0, 0, 0, none, [])]
theorem oX4_setChange_0 : ∀ q ∈ tX4_setChange_0, hy_ok mX4_setChange q.1 q.2 = true := by decide +kernel
def tX4_setChange_1 : List (Nat × hyE) := [(17, .aload_n 0, 18, 0, 0, 0, 0, 0, none, []),
  (18, .iconst 0, 19, 0, 0, 0, 0, 0, none, []),
  (19, .putfield 41, 22, 4, 9, 1, 0, 0, none, []),
  (22, .iconst 1, 23, 0, 0, 0, 0, 1, none, []),
  (23, .ireturn, 24, 0, 0, 0, 0, 0, none, [])]
theorem oX4_setChange_1 : ∀ q ∈ tX4_setChange_1, hy_ok mX4_setChange q.1 q.2 = true := by decide +kernel
def tX4_setChange : hyT := [tX4_setChange_0, tX4_setChange_1]
theorem oX4_setChange : hy_tok mX4_setChange tX4_setChange := List.forall_mem_cons.mpr ⟨oX4_setChange_0, List.forall_mem_cons.mpr ⟨oX4_setChange_1, fun _ h => absurd h List.not_mem_nil⟩⟩
def tX4_dropOrders_0 : List (Nat × hyE) := [(0, .aload_n 0, 1, 0, 0, 0, 0, 0, none, []),
  (1, .getfield 34, 4, 4, 6, 0, 0, 0, none, []),
  (4, .istore_n 1, 5, 1, 0, 0, 0, 0, none, []),
  (5, .aload_n 0, 6, 0, 0, 0, 0, 0, none, []),
  (6, .iconst 0, 7, 0, 0, 0, 0, 0, none, []),
  (7, .putfield 34, 10, 4, 6, 0, 0, 0, none, []),
  (10, .aload_n 0, 11, 0, 0, 0, 0, 0, none, []),
  (11, .iconst 0, 12, 0, 0, 0, 0, 0, none, []),
  (12, .putfield 41, 15, 4, 9, 1, 0, 0, none, []),
  (15, .iload_n 1, 16, 1, 0, 0, 0, 0, none, [])]
theorem oX4_dropOrders_0 : ∀ q ∈ tX4_dropOrders_0, hy_ok mX4_dropOrders q.1 q.2 = true := by decide +kernel
def tX4_dropOrders_1 : List (Nat × hyE) := [(16, .ireturn, 17, 0, 0, 0, 0, 0, none, [])]
theorem oX4_dropOrders_1 : ∀ q ∈ tX4_dropOrders_1, hy_ok mX4_dropOrders q.1 q.2 = true := by decide +kernel
def tX4_dropOrders : hyT := [tX4_dropOrders_0, tX4_dropOrders_1]
theorem oX4_dropOrders : hy_tok mX4_dropOrders tX4_dropOrders := List.forall_mem_cons.mpr ⟨oX4_dropOrders_0, List.forall_mem_cons.mpr ⟨oX4_dropOrders_1, fun _ h => absurd h List.not_mem_nil⟩⟩
def tX4_leastLate_0 : List (Nat × hyE) := [(0, .aload_n 0, 1, 0, 0, 0, 0, 0, none, []),
  (1, .invokevirtual 45, 4, 0, 0, 0, 4, 0, (some mX4_plan), []),
  (4, .aload_n 0, 5, 0, 0, 0, 0, 0, none, []),
  (5, .getfield 48, 8, 4, 8, 0, 0, 0, none, []),
  (8, .ireturn, 9, 0, 0, 0, 0, 0, none, [])]
theorem oX4_leastLate_0 : ∀ q ∈ tX4_leastLate_0, hy_ok mX4_leastLate q.1 q.2 = true := by decide +kernel
def tX4_leastLate : hyT := [tX4_leastLate_0]
theorem oX4_leastLate : hy_tok mX4_leastLate tX4_leastLate := List.forall_mem_cons.mpr ⟨oX4_leastLate_0, fun _ h => absurd h List.not_mem_nil⟩
def tX4_orderAt_0 : List (Nat × hyE) := [(0, .iload_n 1, 1, 1, 0, 0, 0, 0, none, []),
  (1, .iconst 0, 2, 0, 0, 0, 0, 0, none, []),
  (2, .aload_n 0, 3, 0, 0, 0, 0, 0, none, []),
  (3, .getfield 34, 6, 4, 6, 0, 0, 0, none, []),
  (6, .iconst 1, 7, 0, 0, 0, 0, 1, none, []),
  (7, .isub, 8, 0, 0, 0, 0, 0, none, []),
  (8, .invokestatic 37, 11, 1, 3, 1, 0, 0, (some mX5_within), []),
  (11, .ifCond .ne 5, 14, 16, 0, 0, 0, 0, none, []),
  (14, .iconst (-1), 15, 0, 0, 0, 0, (-1), none, []),
  (15, .ireturn, 16, 0, 0, 0, 0, 0, none, [])]
theorem oX4_orderAt_0 : ∀ q ∈ tX4_orderAt_0, hy_ok mX4_orderAt q.1 q.2 = true := by decide +kernel
def tX4_orderAt_1 : List (Nat × hyE) := [(16, .aload_n 0, 17, 0, 0, 0, 0, 0, none, []),
  (17, .invokevirtual 45, 20, 0, 0, 0, 4, 0, (some mX4_plan), []),
  (20, .aload_n 0, 21, 0, 0, 0, 0, 0, none, []),
  (21, .getfield 27, 24, 4, 5, 0, 0, 0, none, []),
  (24, .iload_n 1, 25, 1, 0, 0, 0, 0, none, []),
  (25, .iaload, 26, 0, 0, 0, 0, 0, none, []),
  (26, .ireturn, 27, 0, 0, 0, 0, 0, none, [])]
theorem oX4_orderAt_1 : ∀ q ∈ tX4_orderAt_1, hy_ok mX4_orderAt q.1 q.2 = true := by decide +kernel
def tX4_orderAt : hyT := [tX4_orderAt_0, tX4_orderAt_1]
theorem oX4_orderAt : hy_tok mX4_orderAt tX4_orderAt := List.forall_mem_cons.mpr ⟨oX4_orderAt_0, List.forall_mem_cons.mpr ⟨oX4_orderAt_1, fun _ h => absurd h List.not_mem_nil⟩⟩
def tX4_endAt_0 : List (Nat × hyE) := [(0, .iload_n 1, 1, 1, 0, 0, 0, 0, none, []),
  (1, .iconst 0, 2, 0, 0, 0, 0, 0, none, []),
  (2, .aload_n 0, 3, 0, 0, 0, 0, 0, none, []),
  (3, .getfield 34, 6, 4, 6, 0, 0, 0, none, []),
  (6, .iconst 1, 7, 0, 0, 0, 0, 1, none, []),
  (7, .isub, 8, 0, 0, 0, 0, 0, none, []),
  (8, .invokestatic 37, 11, 1, 3, 1, 0, 0, (some mX5_within), []),
  (11, .ifCond .ne 5, 14, 16, 0, 0, 0, 0, none, []),
  (14, .iconst (-1), 15, 0, 0, 0, 0, (-1), none, []),
  (15, .ireturn, 16, 0, 0, 0, 0, 0, none, [])]
theorem oX4_endAt_0 : ∀ q ∈ tX4_endAt_0, hy_ok mX4_endAt q.1 q.2 = true := by decide +kernel
def tX4_endAt_1 : List (Nat × hyE) := [(16, .aload_n 0, 17, 0, 0, 0, 0, 0, none, []),
  (17, .invokevirtual 45, 20, 0, 0, 0, 4, 0, (some mX4_plan), []),
  (20, .iconst 0, 21, 0, 0, 0, 0, 0, none, []),
  (21, .istore_n 2, 22, 2, 0, 0, 0, 0, none, []),
  (22, .iconst 0, 23, 0, 0, 0, 0, 0, none, []),
  (23, .istore_n 3, 24, 3, 0, 0, 0, 0, none, []),
  (24, .iconst 0, 25, 0, 0, 0, 0, 0, none, []),
  (25, .istore 4, 27, 4, 0, 0, 0, 0, none, []),
  (27, .iload 4, 29, 4, 0, 0, 0, 0, none, []),
  (29, .iload_n 1, 30, 1, 0, 0, 0, 0, none, []),
  (30, .if_icmp .gt 36, 33, 66, 0, 0, 0, 0, none, [])]
theorem oX4_endAt_1 : ∀ q ∈ tX4_endAt_1, hy_ok mX4_endAt q.1 q.2 = true := by decide +kernel
def tX4_endAt_2 : List (Nat × hyE) := [(33, .aload_n 0, 34, 0, 0, 0, 0, 0, none, []),
  (34, .aload_n 0, 35, 0, 0, 0, 0, 0, none, []),
  (35, .getfield 27, 38, 4, 5, 0, 0, 0, none, []),
  (38, .iload 4, 40, 4, 0, 0, 0, 0, none, []),
  (40, .iaload, 41, 0, 0, 0, 0, 0, none, []),
  (41, .iload_n 2, 42, 2, 0, 0, 0, 0, none, []),
  (42, .iload_n 3, 43, 3, 0, 0, 0, 0, none, []),
  (43, .invokevirtual 51, 46, 0, 3, 0, 4, 0, (some mX4_endOf), []),
  (46, .istore_n 2, 47, 2, 0, 0, 0, 0, none, []),
  (47, .aload_n 0, 48, 0, 0, 0, 0, 0, none, [])]
theorem oX4_endAt_2 : ∀ q ∈ tX4_endAt_2, hy_ok mX4_endAt q.1 q.2 = true := by decide +kernel
def tX4_endAt_3 : List (Nat × hyE) := [(48, .getfield 11, 51, 4, 0, 0, 0, 0, none, []),
  (51, .aload_n 0, 52, 0, 0, 0, 0, 0, none, []),
  (52, .getfield 27, 55, 4, 5, 0, 0, 0, none, []),
  (55, .iload 4, 57, 4, 0, 0, 0, 0, none, []),
  (57, .iaload, 58, 0, 0, 0, 0, 0, none, []),
  (58, .iaload, 59, 0, 0, 0, 0, 0, none, []),
  (59, .istore_n 3, 60, 3, 0, 0, 0, 0, none, []),
  (60, .iinc 4 1, 63, 4, 0, 0, 0, 1, none, []),
  (63, .goto (-36), 66, 27, 0, 0, 0, 0, none, [])]
theorem oX4_endAt_3 : ∀ q ∈ tX4_endAt_3, hy_ok mX4_endAt q.1 q.2 = true := by decide +kernel
def tX4_endAt_4 : List (Nat × hyE) := [(66, .iload_n 2, 67, 2, 0, 0, 0, 0, none, []),
  (67, .ireturn, 68, 0, 0, 0, 0, 0, none, [])]
theorem oX4_endAt_4 : ∀ q ∈ tX4_endAt_4, hy_ok mX4_endAt q.1 q.2 = true := by decide +kernel
def tX4_endAt : hyT := [tX4_endAt_0, tX4_endAt_1, tX4_endAt_2, tX4_endAt_3, tX4_endAt_4]
theorem oX4_endAt : hy_tok mX4_endAt tX4_endAt := List.forall_mem_cons.mpr ⟨oX4_endAt_0, List.forall_mem_cons.mpr ⟨oX4_endAt_1, List.forall_mem_cons.mpr ⟨oX4_endAt_2, List.forall_mem_cons.mpr ⟨oX4_endAt_3, List.forall_mem_cons.mpr ⟨oX4_endAt_4, fun _ h => absurd h List.not_mem_nil⟩⟩⟩⟩⟩
def tX4_plan_0 : List (Nat × hyE) := [(0, .aload_n 0, 1, 0, 0, 0, 0, 0, none, []),
  (1, .getfield 41, 4, 4, 9, 0, 0, 0, none, []),
  (4, .ifCond .eq 4, 7, 8, 0, 0, 0, 0, none, []),
  (7, .return_, 8, 0, 0, 0, 0, 0, none, []),
  (8, .aload_n 0, 9, 0, 0, 0, 0, 0, none, []),
  (9, .iconst 1, 10, 0, 0, 0, 0, 1, none, []),
  (10, .putfield 41, 13, 4, 9, 1, 0, 0, none, []),
  (13, .aload_n 0, 14, 0, 0, 0, 0, 0, none, []),
  (14, .ldc 55, 16, 0, 0, 0, 0, 1000000, none, [])]
theorem oX4_plan_0 : ∀ q ∈ tX4_plan_0, hy_ok mX4_plan q.1 q.2 = true := by decide +kernel
def tX4_plan_1 : List (Nat × hyE) := [(16, .putfield 48, 19, 4, 8, 0, 0, 0, none, []),
  (19, .aload_n 0, 20, 0, 0, 0, 0, 0, none, []),
  (20, .iconst 0, 21, 0, 0, 0, 0, 0, none, []),
  (21, .iconst 0, 22, 0, 0, 0, 0, 0, none, []),
  (22, .iconst 0, 23, 0, 0, 0, 0, 0, none, []),
  (23, .iconst 0, 24, 0, 0, 0, 0, 0, none, []),
  (24, .iconst 0, 25, 0, 0, 0, 0, 0, none, []),
  (25, .invokevirtual 56, 28, 0, 5, 0, 4, 0, (some mX4_tryPlace), []),
  (28, .return_, 29, 0, 0, 0, 0, 0, none, [])]
theorem oX4_plan_1 : ∀ q ∈ tX4_plan_1, hy_ok mX4_plan q.1 q.2 = true := by decide +kernel
def tX4_plan : hyT := [tX4_plan_0, tX4_plan_1]
theorem oX4_plan : hy_tok mX4_plan tX4_plan := List.forall_mem_cons.mpr ⟨oX4_plan_0, List.forall_mem_cons.mpr ⟨oX4_plan_1, fun _ h => absurd h List.not_mem_nil⟩⟩
def tX4_tryPlace_0 : List (Nat × hyE) := [(0, .iload_n 1, 1, 1, 0, 0, 0, 0, none, []),
  (1, .aload_n 0, 2, 0, 0, 0, 0, 0, none, []),
  (2, .getfield 34, 5, 4, 6, 0, 0, 0, none, []),
  (5, .if_icmp .lt 10, 8, 15, 0, 0, 0, 0, none, []),
  (8, .aload_n 0, 9, 0, 0, 0, 0, 0, none, []),
  (9, .iload 5, 11, 5, 0, 0, 0, 0, none, []),
  (11, .invokevirtual 60, 14, 0, 1, 0, 4, 0, (some mX4_keepRow), []),
  (14, .return_, 15, 0, 0, 0, 0, 0, none, []),
  (15, .iconst 0, 16, 0, 0, 0, 0, 0, none, [])]
theorem oX4_tryPlace_0 : ∀ q ∈ tX4_tryPlace_0, hy_ok mX4_tryPlace q.1 q.2 = true := by decide +kernel
def tX4_tryPlace_1 : List (Nat × hyE) := [(16, .istore 6, 18, 6, 0, 0, 0, 0, none, []),
  (18, .iload 6, 20, 6, 0, 0, 0, 0, none, []),
  (20, .aload_n 0, 21, 0, 0, 0, 0, 0, none, []),
  (21, .getfield 34, 24, 4, 6, 0, 0, 0, none, []),
  (24, .if_icmp .ge 42, 27, 66, 0, 0, 0, 0, none, []),
  (27, .iload_n 2, 28, 2, 0, 0, 0, 0, none, []),
  (28, .iload 6, 30, 6, 0, 0, 0, 0, none, []),
  (30, .ishr, 31, 0, 0, 0, 0, 0, none, []),
  (31, .iconst 1, 32, 0, 0, 0, 0, 1, none, [])]
theorem oX4_tryPlace_1 : ∀ q ∈ tX4_tryPlace_1, hy_ok mX4_tryPlace q.1 q.2 = true := by decide +kernel
def tX4_tryPlace_2 : List (Nat × hyE) := [(32, .iand, 33, 0, 0, 0, 0, 0, none, []),
  (33, .ifCond .ne 27, 36, 60, 0, 0, 0, 0, none, []),
  (36, .aload_n 0, 37, 0, 0, 0, 0, 0, none, []),
  (37, .getfield 24, 40, 4, 4, 0, 0, 0, none, []),
  (40, .iload_n 1, 41, 1, 0, 0, 0, 0, none, []),
  (41, .iload 6, 43, 6, 0, 0, 0, 0, none, []),
  (43, .iastore, 44, 0, 0, 0, 0, 0, none, []),
  (44, .aload_n 0, 45, 0, 0, 0, 0, 0, none, []),
  (45, .iload_n 1, 46, 1, 0, 0, 0, 0, none, []),
  (46, .iload_n 2, 47, 2, 0, 0, 0, 0, none, []),
  (47, .iconst 1, 48, 0, 0, 0, 0, 1, none, [])]
theorem oX4_tryPlace_2 : ∀ q ∈ tX4_tryPlace_2, hy_ok mX4_tryPlace q.1 q.2 = true := by decide +kernel
def tX4_tryPlace_3 : List (Nat × hyE) := [(48, .iload 6, 50, 6, 0, 0, 0, 0, none, []),
  (50, .ishl, 51, 0, 0, 0, 0, 0, none, []),
  (51, .ior, 52, 0, 0, 0, 0, 0, none, []),
  (52, .iload_n 3, 53, 3, 0, 0, 0, 0, none, []),
  (53, .iload 4, 55, 4, 0, 0, 0, 0, none, []),
  (55, .iload 5, 57, 5, 0, 0, 0, 0, none, []),
  (57, .invokevirtual 64, 60, 0, 5, 0, 4, 0, (some mX4_tryRest), []),
  (60, .iinc 6 1, 63, 6, 0, 0, 0, 1, none, []),
  (63, .goto (-45), 66, 18, 0, 0, 0, 0, none, [])]
theorem oX4_tryPlace_3 : ∀ q ∈ tX4_tryPlace_3, hy_ok mX4_tryPlace q.1 q.2 = true := by decide +kernel
def tX4_tryPlace_4 : List (Nat × hyE) := [(66, .return_, 67, 0, 0, 0, 0, 0, none, [])]
theorem oX4_tryPlace_4 : ∀ q ∈ tX4_tryPlace_4, hy_ok mX4_tryPlace q.1 q.2 = true := by decide +kernel
def tX4_tryPlace : hyT := [tX4_tryPlace_0, tX4_tryPlace_1, tX4_tryPlace_2, tX4_tryPlace_3, tX4_tryPlace_4]
theorem oX4_tryPlace : hy_tok mX4_tryPlace tX4_tryPlace := List.forall_mem_cons.mpr ⟨oX4_tryPlace_0, List.forall_mem_cons.mpr ⟨oX4_tryPlace_1, List.forall_mem_cons.mpr ⟨oX4_tryPlace_2, List.forall_mem_cons.mpr ⟨oX4_tryPlace_3, List.forall_mem_cons.mpr ⟨oX4_tryPlace_4, fun _ h => absurd h List.not_mem_nil⟩⟩⟩⟩⟩
def tX4_tryRest_0 : List (Nat × hyE) := [(0, .aload_n 0, 1, 0, 0, 0, 0, 0, none, []),
  (1, .getfield 24, 4, 4, 4, 0, 0, 0, none, []),
  (4, .iload_n 1, 5, 1, 0, 0, 0, 0, none, []),
  (5, .iaload, 6, 0, 0, 0, 0, 0, none, []),
  (6, .istore 6, 8, 6, 0, 0, 0, 0, none, []),
  (8, .aload_n 0, 9, 0, 0, 0, 0, 0, none, []),
  (9, .iload 6, 11, 6, 0, 0, 0, 0, none, []),
  (11, .iload_n 3, 12, 3, 0, 0, 0, 0, none, []),
  (12, .iload 4, 14, 4, 0, 0, 0, 0, none, []),
  (14, .invokevirtual 51, 17, 0, 3, 0, 4, 0, (some mX4_endOf), [])]
theorem oX4_tryRest_0 : ∀ q ∈ tX4_tryRest_0, hy_ok mX4_tryRest q.1 q.2 = true := by decide +kernel
def tX4_tryRest_1 : List (Nat × hyE) := [(17, .istore 7, 19, 7, 0, 0, 0, 0, none, []),
  (19, .iload 5, 21, 5, 0, 0, 0, 0, none, []),
  (21, .iconst 0, 22, 0, 0, 0, 0, 0, none, []),
  (22, .iload 7, 24, 7, 0, 0, 0, 0, none, []),
  (24, .aload_n 0, 25, 0, 0, 0, 0, 0, none, []),
  (25, .getfield 18, 28, 4, 2, 0, 0, 0, none, []),
  (28, .iload 6, 30, 6, 0, 0, 0, 0, none, []),
  (30, .iaload, 31, 0, 0, 0, 0, 0, none, []),
  (31, .isub, 32, 0, 0, 0, 0, 0, none, [])]
theorem oX4_tryRest_1 : ∀ q ∈ tX4_tryRest_1, hy_ok mX4_tryRest q.1 q.2 = true := by decide +kernel
def tX4_tryRest_2 : List (Nat × hyE) := [(32, .invokestatic 67, 35, 0, 2, 0, 1, 0, (some mJ9_max_7cf53), []),
  (35, .aload_n 0, 36, 0, 0, 0, 0, 0, none, []),
  (36, .getfield 21, 39, 4, 3, 0, 0, 0, none, []),
  (39, .iload 6, 41, 6, 0, 0, 0, 0, none, []),
  (41, .iaload, 42, 0, 0, 0, 0, 0, none, []),
  (42, .imul, 43, 0, 0, 0, 0, 0, none, []),
  (43, .iadd, 44, 0, 0, 0, 0, 0, none, []),
  (44, .istore 8, 46, 8, 0, 0, 0, 0, none, []),
  (46, .iload 8, 48, 8, 0, 0, 0, 0, none, [])]
theorem oX4_tryRest_2 : ∀ q ∈ tX4_tryRest_2, hy_ok mX4_tryRest q.1 q.2 = true := by decide +kernel
def tX4_tryRest_3 : List (Nat × hyE) := [(48, .aload_n 0, 49, 0, 0, 0, 0, 0, none, []),
  (49, .getfield 48, 52, 4, 8, 0, 0, 0, none, []),
  (52, .if_icmp .ge 22, 55, 74, 0, 0, 0, 0, none, []),
  (55, .aload_n 0, 56, 0, 0, 0, 0, 0, none, []),
  (56, .iload_n 1, 57, 1, 0, 0, 0, 0, none, []),
  (57, .iconst 1, 58, 0, 0, 0, 0, 1, none, []),
  (58, .iadd, 59, 0, 0, 0, 0, 0, none, []),
  (59, .iload_n 2, 60, 2, 0, 0, 0, 0, none, []),
  (60, .iload 7, 62, 7, 0, 0, 0, 0, none, []),
  (62, .aload_n 0, 63, 0, 0, 0, 0, 0, none, []),
  (63, .getfield 11, 66, 4, 0, 0, 0, 0, none, [])]
theorem oX4_tryRest_3 : ∀ q ∈ tX4_tryRest_3, hy_ok mX4_tryRest q.1 q.2 = true := by decide +kernel
def tX4_tryRest_4 : List (Nat × hyE) := [(66, .iload 6, 68, 6, 0, 0, 0, 0, none, []),
  (68, .iaload, 69, 0, 0, 0, 0, 0, none, []),
  (69, .iload 8, 71, 8, 0, 0, 0, 0, none, []),
  (71, .invokevirtual 56, 74, 0, 5, 0, 4, 0, (some mX4_tryPlace), []),
  (74, .return_, 75, 0, 0, 0, 0, 0, none, [])]
theorem oX4_tryRest_4 : ∀ q ∈ tX4_tryRest_4, hy_ok mX4_tryRest q.1 q.2 = true := by decide +kernel
def tX4_tryRest : hyT := [tX4_tryRest_0, tX4_tryRest_1, tX4_tryRest_2, tX4_tryRest_3, tX4_tryRest_4]
theorem oX4_tryRest : hy_tok mX4_tryRest tX4_tryRest := List.forall_mem_cons.mpr ⟨oX4_tryRest_0, List.forall_mem_cons.mpr ⟨oX4_tryRest_1, List.forall_mem_cons.mpr ⟨oX4_tryRest_2, List.forall_mem_cons.mpr ⟨oX4_tryRest_3, List.forall_mem_cons.mpr ⟨oX4_tryRest_4, fun _ h => absurd h List.not_mem_nil⟩⟩⟩⟩⟩
def tX4_keepRow_0 : List (Nat × hyE) := [(0, .aload_n 0, 1, 0, 0, 0, 0, 0, none, []),
  (1, .iload_n 1, 2, 1, 0, 0, 0, 0, none, []),
  (2, .putfield 48, 5, 4, 8, 0, 0, 0, none, []),
  (5, .iconst 0, 6, 0, 0, 0, 0, 0, none, []),
  (6, .istore_n 2, 7, 2, 0, 0, 0, 0, none, []),
  (7, .iload_n 2, 8, 2, 0, 0, 0, 0, none, []),
  (8, .aload_n 0, 9, 0, 0, 0, 0, 0, none, []),
  (9, .getfield 34, 12, 4, 6, 0, 0, 0, none, []),
  (12, .if_icmp .ge 21, 15, 33, 0, 0, 0, 0, none, []),
  (15, .aload_n 0, 16, 0, 0, 0, 0, 0, none, [])]
theorem oX4_keepRow_0 : ∀ q ∈ tX4_keepRow_0, hy_ok mX4_keepRow q.1 q.2 = true := by decide +kernel
def tX4_keepRow_1 : List (Nat × hyE) := [(16, .getfield 27, 19, 4, 5, 0, 0, 0, none, []),
  (19, .iload_n 2, 20, 2, 0, 0, 0, 0, none, []),
  (20, .aload_n 0, 21, 0, 0, 0, 0, 0, none, []),
  (21, .getfield 24, 24, 4, 4, 0, 0, 0, none, []),
  (24, .iload_n 2, 25, 2, 0, 0, 0, 0, none, []),
  (25, .iaload, 26, 0, 0, 0, 0, 0, none, []),
  (26, .iastore, 27, 0, 0, 0, 0, 0, none, []),
  (27, .iinc 2 1, 30, 2, 0, 0, 0, 1, none, []),
  (30, .goto (-23), 33, 7, 0, 0, 0, 0, none, [])]
theorem oX4_keepRow_1 : ∀ q ∈ tX4_keepRow_1, hy_ok mX4_keepRow q.1 q.2 = true := by decide +kernel
def tX4_keepRow_2 : List (Nat × hyE) := [(33, .return_, 34, 0, 0, 0, 0, 0, none, [])]
theorem oX4_keepRow_2 : ∀ q ∈ tX4_keepRow_2, hy_ok mX4_keepRow q.1 q.2 = true := by decide +kernel
def tX4_keepRow : hyT := [tX4_keepRow_0, tX4_keepRow_1, tX4_keepRow_2]
theorem oX4_keepRow : hy_tok mX4_keepRow tX4_keepRow := List.forall_mem_cons.mpr ⟨oX4_keepRow_0, List.forall_mem_cons.mpr ⟨oX4_keepRow_1, List.forall_mem_cons.mpr ⟨oX4_keepRow_2, fun _ h => absurd h List.not_mem_nil⟩⟩⟩
def tX4_endOf_0 : List (Nat × hyE) := [(0, .aload_n 0, 1, 0, 0, 0, 0, 0, none, []),
  (1, .getfield 11, 4, 4, 0, 0, 0, 0, none, []),
  (4, .iload_n 1, 5, 1, 0, 0, 0, 0, none, []),
  (5, .iaload, 6, 0, 0, 0, 0, 0, none, []),
  (6, .iload_n 3, 7, 3, 0, 0, 0, 0, none, []),
  (7, .if_icmp .ne 7, 10, 14, 0, 0, 0, 0, none, []),
  (10, .iload_n 2, 11, 2, 0, 0, 0, 0, none, []),
  (11, .goto 9, 14, 20, 0, 0, 0, 0, none, []),
  (14, .iload_n 2, 15, 2, 0, 0, 0, 0, none, []),
  (15, .aload_n 0, 16, 0, 0, 0, 0, 0, none, [])]
theorem oX4_endOf_0 : ∀ q ∈ tX4_endOf_0, hy_ok mX4_endOf q.1 q.2 = true := by decide +kernel
def tX4_endOf_1 : List (Nat × hyE) := [(16, .getfield 30, 19, 4, 7, 0, 0, 0, none, []),
  (19, .iadd, 20, 0, 0, 0, 0, 0, none, []),
  (20, .istore 4, 22, 4, 0, 0, 0, 0, none, []),
  (22, .iload 4, 24, 4, 0, 0, 0, 0, none, []),
  (24, .aload_n 0, 25, 0, 0, 0, 0, 0, none, []),
  (25, .getfield 15, 28, 4, 1, 0, 0, 0, none, []),
  (28, .iload_n 1, 29, 1, 0, 0, 0, 0, none, []),
  (29, .iaload, 30, 0, 0, 0, 0, 0, none, []),
  (30, .iadd, 31, 0, 0, 0, 0, 0, none, []),
  (31, .ireturn, 32, 0, 0, 0, 0, 0, none, [])]
theorem oX4_endOf_1 : ∀ q ∈ tX4_endOf_1, hy_ok mX4_endOf q.1 q.2 = true := by decide +kernel
def tX4_endOf : hyT := [tX4_endOf_0, tX4_endOf_1]
theorem oX4_endOf : hy_tok mX4_endOf tX4_endOf := List.forall_mem_cons.mpr ⟨oX4_endOf_0, List.forall_mem_cons.mpr ⟨oX4_endOf_1, fun _ h => absurd h List.not_mem_nil⟩⟩
def tX1_init_0 : List (Nat × hyE) := [(0, .aload_n 0, 1, 0, 0, 0, 0, 0, none, []),
  (1, .invokespecial 5, 4, 0, 0, 0, 0, 0, none, []),
  (4, .aload_n 0, 5, 0, 0, 0, 0, 0, none, []),
  (5, .bipush 6, 7, 0, 0, 0, 0, 6, none, []),
  (7, .newarray .int, 9, 0, 0, 0, 0, 0, none, []),
  (9, .putfield 11, 12, 1, 0, 2, 0, 0, none, []),
  (12, .aload_n 0, 13, 0, 0, 0, 0, 0, none, []),
  (13, .bipush 6, 15, 0, 0, 0, 0, 6, none, []),
  (15, .newarray .int, 17, 0, 0, 0, 0, 0, none, [])]
theorem oX1_init_0 : ∀ q ∈ tX1_init_0, hy_ok mX1_init q.1 q.2 = true := by decide +kernel
def tX1_init_1 : List (Nat × hyE) := [(17, .putfield 15, 20, 1, 1, 2, 0, 0, none, []),
  (20, .aload_n 0, 21, 0, 0, 0, 0, 0, none, []),
  (21, .bipush 8, 23, 0, 0, 0, 0, 8, none, []),
  (23, .newarray .int, 25, 0, 0, 0, 0, 0, none, []),
  (25, .putfield 18, 28, 1, 2, 2, 0, 0, none, []),
  (28, .aload_n 0, 29, 0, 0, 0, 0, 0, none, []),
  (29, .bipush 8, 31, 0, 0, 0, 0, 8, none, []),
  (31, .newarray .int, 33, 0, 0, 0, 0, 0, none, [])]
theorem oX1_init_1 : ∀ q ∈ tX1_init_1, hy_ok mX1_init q.1 q.2 = true := by decide +kernel
def tX1_init_2 : List (Nat × hyE) := [(33, .putfield 21, 36, 1, 3, 2, 0, 0, none, []),
  (36, .aload_n 0, 37, 0, 0, 0, 0, 0, none, []),
  (37, .bipush 8, 39, 0, 0, 0, 0, 8, none, []),
  (39, .newarray .int, 41, 0, 0, 0, 0, 0, none, []),
  (41, .putfield 24, 44, 1, 4, 2, 0, 0, none, []),
  (44, .aload_n 0, 45, 0, 0, 0, 0, 0, none, []),
  (45, .sipush 256, 48, 0, 0, 0, 0, 256, none, [])]
theorem oX1_init_2 : ∀ q ∈ tX1_init_2, hy_ok mX1_init q.1 q.2 = true := by decide +kernel
def tX1_init_3 : List (Nat × hyE) := [(48, .newarray .int, 50, 0, 0, 0, 0, 0, none, []),
  (50, .putfield 27, 53, 1, 5, 2, 0, 0, none, []),
  (53, .aload_n 0, 54, 0, 0, 0, 0, 0, none, []),
  (54, .sipush 256, 57, 0, 0, 0, 0, 256, none, []),
  (57, .newarray .int, 59, 0, 0, 0, 0, 0, none, []),
  (59, .putfield 30, 62, 1, 6, 2, 0, 0, none, []),
  (62, .aload_n 0, 63, 0, 0, 0, 0, 0, none, []),
  (63, .bipush 16, 65, 0, 0, 0, 0, 16, none, [])]
theorem oX1_init_3 : ∀ q ∈ tX1_init_3, hy_ok mX1_init q.1 q.2 = true := by decide +kernel
def tX1_init_4 : List (Nat × hyE) := [(65, .newarray .int, 67, 0, 0, 0, 0, 0, none, []),
  (67, .putfield 33, 70, 1, 7, 2, 0, 0, none, []),
  (70, .return_, 71, 0, 0, 0, 0, 0, none, [])]
theorem oX1_init_4 : ∀ q ∈ tX1_init_4, hy_ok mX1_init q.1 q.2 = true := by decide +kernel
def tX1_init : hyT := [tX1_init_0, tX1_init_1, tX1_init_2, tX1_init_3, tX1_init_4]
theorem oX1_init : hy_tok mX1_init tX1_init := List.forall_mem_cons.mpr ⟨oX1_init_0, List.forall_mem_cons.mpr ⟨oX1_init_1, List.forall_mem_cons.mpr ⟨oX1_init_2, List.forall_mem_cons.mpr ⟨oX1_init_3, List.forall_mem_cons.mpr ⟨oX1_init_4, fun _ h => absurd h List.not_mem_nil⟩⟩⟩⟩⟩
def tX1_rollCount_0 : List (Nat × hyE) := [(0, .aload_n 0, 1, 0, 0, 0, 0, 0, none, []),
  (1, .getfield 36, 4, 1, 8, 0, 0, 0, none, []),
  (4, .ireturn, 5, 0, 0, 0, 0, 0, none, [])]
theorem oX1_rollCount_0 : ∀ q ∈ tX1_rollCount_0, hy_ok mX1_rollCount q.1 q.2 = true := by decide +kernel
def tX1_rollCount : hyT := [tX1_rollCount_0]
theorem oX1_rollCount : hy_tok mX1_rollCount tX1_rollCount := List.forall_mem_cons.mpr ⟨oX1_rollCount_0, fun _ h => absurd h List.not_mem_nil⟩
def tX1_cutCount_0 : List (Nat × hyE) := [(0, .aload_n 0, 1, 0, 0, 0, 0, 0, none, []),
  (1, .getfield 40, 4, 1, 9, 0, 0, 0, none, []),
  (4, .ireturn, 5, 0, 0, 0, 0, 0, none, [])]
theorem oX1_cutCount_0 : ∀ q ∈ tX1_cutCount_0, hy_ok mX1_cutCount q.1 q.2 = true := by decide +kernel
def tX1_cutCount : hyT := [tX1_cutCount_0]
theorem oX1_cutCount : hy_tok mX1_cutCount tX1_cutCount := List.forall_mem_cons.mpr ⟨oX1_cutCount_0, fun _ h => absurd h List.not_mem_nil⟩
def tX1_addRoll_0 : List (Nat × hyE) := [(0, .iload_n 1, 1, 1, 0, 0, 0, 0, none, []),
  (1, .iconst 1, 2, 0, 0, 0, 0, 1, none, []),
  (2, .sipush 1000, 5, 0, 0, 0, 0, 1000, none, []),
  (5, .invokestatic 43, 8, 1, 3, 1, 0, 0, (some mX5_within), []),
  (8, .ifCond .eq 21, 11, 29, 0, 0, 0, 0, none, []),
  (11, .iload_n 2, 12, 2, 0, 0, 0, 0, none, []),
  (12, .iconst 0, 13, 0, 0, 0, 0, 0, none, []),
  (13, .iconst 2, 14, 0, 0, 0, 0, 2, none, []),
  (14, .invokestatic 43, 17, 1, 3, 1, 0, 0, (some mX5_within), [])]
theorem oX1_addRoll_0 : ∀ q ∈ tX1_addRoll_0, hy_ok mX1_addRoll q.1 q.2 = true := by decide +kernel
def tX1_addRoll_1 : List (Nat × hyE) := [(17, .ifCond .eq 12, 20, 29, 0, 0, 0, 0, none, []),
  (20, .aload_n 0, 21, 0, 0, 0, 0, 0, none, []),
  (21, .getfield 36, 24, 1, 8, 0, 0, 0, none, []),
  (24, .bipush 6, 26, 0, 0, 0, 0, 6, none, []),
  (26, .if_icmp .lt 5, 29, 31, 0, 0, 0, 0, none, []),
  (29, .iconst (-1), 30, 0, 0, 0, 0, (-1), none, []),
  (30, .ireturn, 31, 0, 0, 0, 0, 0, none, []),
  (31, .aload_n 0, 32, 0, 0, 0, 0, 0, none, [])]
theorem oX1_addRoll_1 : ∀ q ∈ tX1_addRoll_1, hy_ok mX1_addRoll q.1 q.2 = true := by decide +kernel
def tX1_addRoll_2 : List (Nat × hyE) := [(32, .getfield 11, 35, 1, 0, 0, 0, 0, none, []),
  (35, .aload_n 0, 36, 0, 0, 0, 0, 0, none, []),
  (36, .getfield 36, 39, 1, 8, 0, 0, 0, none, []),
  (39, .iload_n 1, 40, 1, 0, 0, 0, 0, none, []),
  (40, .iastore, 41, 0, 0, 0, 0, 0, none, []),
  (41, .aload_n 0, 42, 0, 0, 0, 0, 0, none, []),
  (42, .getfield 15, 45, 1, 1, 0, 0, 0, none, []),
  (45, .aload_n 0, 46, 0, 0, 0, 0, 0, none, []),
  (46, .getfield 36, 49, 1, 8, 0, 0, 0, none, [])]
theorem oX1_addRoll_2 : ∀ q ∈ tX1_addRoll_2, hy_ok mX1_addRoll q.1 q.2 = true := by decide +kernel
def tX1_addRoll_3 : List (Nat × hyE) := [(49, .iload_n 2, 50, 2, 0, 0, 0, 0, none, []),
  (50, .iastore, 51, 0, 0, 0, 0, 0, none, []),
  (51, .aload_n 0, 52, 0, 0, 0, 0, 0, none, []),
  (52, .dup, 53, 0, 0, 0, 0, 0, none, []),
  (53, .getfield 36, 56, 1, 8, 0, 0, 0, none, []),
  (56, .iconst 1, 57, 0, 0, 0, 0, 1, none, []),
  (57, .iadd, 58, 0, 0, 0, 0, 0, none, []),
  (58, .putfield 36, 61, 1, 8, 0, 0, 0, none, []),
  (61, .aload_n 0, 62, 0, 0, 0, 0, 0, none, []),
  (62, .iconst 0, 63, 0, 0, 0, 0, 0, none, []),
  (63, .putfield 47, 66, 1, 11, 1, 0, 0, none, [])]
theorem oX1_addRoll_3 : ∀ q ∈ tX1_addRoll_3, hy_ok mX1_addRoll q.1 q.2 = true := by decide +kernel
def tX1_addRoll_4 : List (Nat × hyE) := [(66, .aload_n 0, 67, 0, 0, 0, 0, 0, none, []),
  (67, .getfield 36, 70, 1, 8, 0, 0, 0, none, []),
  (70, .iconst 1, 71, 0, 0, 0, 0, 1, none, []),
  (71, .isub, 72, 0, 0, 0, 0, 0, none, []),
  (72, .ireturn, 73, 0, 0, 0, 0, 0, none, [])]
theorem oX1_addRoll_4 : ∀ q ∈ tX1_addRoll_4, hy_ok mX1_addRoll q.1 q.2 = true := by decide +kernel
def tX1_addRoll : hyT := [tX1_addRoll_0, tX1_addRoll_1, tX1_addRoll_2, tX1_addRoll_3, tX1_addRoll_4]
theorem oX1_addRoll : hy_tok mX1_addRoll tX1_addRoll := List.forall_mem_cons.mpr ⟨oX1_addRoll_0, List.forall_mem_cons.mpr ⟨oX1_addRoll_1, List.forall_mem_cons.mpr ⟨oX1_addRoll_2, List.forall_mem_cons.mpr ⟨oX1_addRoll_3, List.forall_mem_cons.mpr ⟨oX1_addRoll_4, fun _ h => absurd h List.not_mem_nil⟩⟩⟩⟩⟩
def tX1_addCut_0 : List (Nat × hyE) := [(0, .iload_n 1, 1, 1, 0, 0, 0, 0, none, []),
  (1, .iconst 1, 2, 0, 0, 0, 0, 1, none, []),
  (2, .sipush 500, 5, 0, 0, 0, 0, 500, none, []),
  (5, .invokestatic 43, 8, 1, 3, 1, 0, 0, (some mX5_within), []),
  (8, .ifCond .eq 21, 11, 29, 0, 0, 0, 0, none, []),
  (11, .iload_n 2, 12, 2, 0, 0, 0, 0, none, []),
  (12, .iconst 0, 13, 0, 0, 0, 0, 0, none, []),
  (13, .iconst 3, 14, 0, 0, 0, 0, 3, none, []),
  (14, .invokestatic 43, 17, 1, 3, 1, 0, 0, (some mX5_within), [])]
theorem oX1_addCut_0 : ∀ q ∈ tX1_addCut_0, hy_ok mX1_addCut q.1 q.2 = true := by decide +kernel
def tX1_addCut_1 : List (Nat × hyE) := [(17, .ifCond .eq 12, 20, 29, 0, 0, 0, 0, none, []),
  (20, .aload_n 0, 21, 0, 0, 0, 0, 0, none, []),
  (21, .getfield 40, 24, 1, 9, 0, 0, 0, none, []),
  (24, .bipush 8, 26, 0, 0, 0, 0, 8, none, []),
  (26, .if_icmp .lt 5, 29, 31, 0, 0, 0, 0, none, []),
  (29, .iconst (-1), 30, 0, 0, 0, 0, (-1), none, []),
  (30, .ireturn, 31, 0, 0, 0, 0, 0, none, []),
  (31, .aload_n 0, 32, 0, 0, 0, 0, 0, none, [])]
theorem oX1_addCut_1 : ∀ q ∈ tX1_addCut_1, hy_ok mX1_addCut q.1 q.2 = true := by decide +kernel
def tX1_addCut_2 : List (Nat × hyE) := [(32, .getfield 18, 35, 1, 2, 0, 0, 0, none, []),
  (35, .aload_n 0, 36, 0, 0, 0, 0, 0, none, []),
  (36, .getfield 40, 39, 1, 9, 0, 0, 0, none, []),
  (39, .iload_n 1, 40, 1, 0, 0, 0, 0, none, []),
  (40, .iastore, 41, 0, 0, 0, 0, 0, none, []),
  (41, .aload_n 0, 42, 0, 0, 0, 0, 0, none, []),
  (42, .getfield 21, 45, 1, 3, 0, 0, 0, none, []),
  (45, .aload_n 0, 46, 0, 0, 0, 0, 0, none, []),
  (46, .getfield 40, 49, 1, 9, 0, 0, 0, none, [])]
theorem oX1_addCut_2 : ∀ q ∈ tX1_addCut_2, hy_ok mX1_addCut q.1 q.2 = true := by decide +kernel
def tX1_addCut_3 : List (Nat × hyE) := [(49, .iload_n 2, 50, 2, 0, 0, 0, 0, none, []),
  (50, .iastore, 51, 0, 0, 0, 0, 0, none, []),
  (51, .aload_n 0, 52, 0, 0, 0, 0, 0, none, []),
  (52, .dup, 53, 0, 0, 0, 0, 0, none, []),
  (53, .getfield 40, 56, 1, 9, 0, 0, 0, none, []),
  (56, .iconst 1, 57, 0, 0, 0, 0, 1, none, []),
  (57, .iadd, 58, 0, 0, 0, 0, 0, none, []),
  (58, .putfield 40, 61, 1, 9, 0, 0, 0, none, []),
  (61, .aload_n 0, 62, 0, 0, 0, 0, 0, none, []),
  (62, .iconst 0, 63, 0, 0, 0, 0, 0, none, []),
  (63, .putfield 47, 66, 1, 11, 1, 0, 0, none, [])]
theorem oX1_addCut_3 : ∀ q ∈ tX1_addCut_3, hy_ok mX1_addCut q.1 q.2 = true := by decide +kernel
def tX1_addCut_4 : List (Nat × hyE) := [(66, .aload_n 0, 67, 0, 0, 0, 0, 0, none, []),
  (67, .getfield 40, 70, 1, 9, 0, 0, 0, none, []),
  (70, .iconst 1, 71, 0, 0, 0, 0, 1, none, []),
  (71, .isub, 72, 0, 0, 0, 0, 0, none, []),
  (72, .ireturn, 73, 0, 0, 0, 0, 0, none, [])]
theorem oX1_addCut_4 : ∀ q ∈ tX1_addCut_4, hy_ok mX1_addCut q.1 q.2 = true := by decide +kernel
def tX1_addCut : hyT := [tX1_addCut_0, tX1_addCut_1, tX1_addCut_2, tX1_addCut_3, tX1_addCut_4]
theorem oX1_addCut : hy_tok mX1_addCut tX1_addCut := List.forall_mem_cons.mpr ⟨oX1_addCut_0, List.forall_mem_cons.mpr ⟨oX1_addCut_1, List.forall_mem_cons.mpr ⟨oX1_addCut_2, List.forall_mem_cons.mpr ⟨oX1_addCut_3, List.forall_mem_cons.mpr ⟨oX1_addCut_4, fun _ h => absurd h List.not_mem_nil⟩⟩⟩⟩⟩
def tX1_dropAll_0 : List (Nat × hyE) := [(0, .aload_n 0, 1, 0, 0, 0, 0, 0, none, []),
  (1, .getfield 40, 4, 1, 9, 0, 0, 0, none, []),
  (4, .istore_n 1, 5, 1, 0, 0, 0, 0, none, []),
  (5, .aload_n 0, 6, 0, 0, 0, 0, 0, none, []),
  (6, .iconst 0, 7, 0, 0, 0, 0, 0, none, []),
  (7, .putfield 36, 10, 1, 8, 0, 0, 0, none, []),
  (10, .aload_n 0, 11, 0, 0, 0, 0, 0, none, []),
  (11, .iconst 0, 12, 0, 0, 0, 0, 0, none, []),
  (12, .putfield 40, 15, 1, 9, 0, 0, 0, none, []),
  (15, .aload_n 0, 16, 0, 0, 0, 0, 0, none, [])]
theorem oX1_dropAll_0 : ∀ q ∈ tX1_dropAll_0, hy_ok mX1_dropAll q.1 q.2 = true := by decide +kernel
def tX1_dropAll_1 : List (Nat × hyE) := [(16, .iconst 0, 17, 0, 0, 0, 0, 0, none, []),
  (17, .putfield 47, 20, 1, 11, 1, 0, 0, none, []),
  (20, .iload_n 1, 21, 1, 0, 0, 0, 0, none, []),
  (21, .ireturn, 22, 0, 0, 0, 0, 0, none, [])]
theorem oX1_dropAll_1 : ∀ q ∈ tX1_dropAll_1, hy_ok mX1_dropAll q.1 q.2 = true := by decide +kernel
def tX1_dropAll : hyT := [tX1_dropAll_0, tX1_dropAll_1]
theorem oX1_dropAll : hy_tok mX1_dropAll tX1_dropAll := List.forall_mem_cons.mpr ⟨oX1_dropAll_0, List.forall_mem_cons.mpr ⟨oX1_dropAll_1, fun _ h => absurd h List.not_mem_nil⟩⟩
def tX1_leastOpened_0 : List (Nat × hyE) := [(0, .aload_n 0, 1, 0, 0, 0, 0, 0, none, []),
  (1, .invokevirtual 51, 4, 0, 0, 0, 1, 0, (some mX1_lay), []),
  (4, .aload_n 0, 5, 0, 0, 0, 0, 0, none, []),
  (5, .getfield 54, 8, 1, 10, 0, 0, 0, none, []),
  (8, .ireturn, 9, 0, 0, 0, 0, 0, none, [])]
theorem oX1_leastOpened_0 : ∀ q ∈ tX1_leastOpened_0, hy_ok mX1_leastOpened q.1 q.2 = true := by decide +kernel
def tX1_leastOpened : hyT := [tX1_leastOpened_0]
theorem oX1_leastOpened : hy_tok mX1_leastOpened tX1_leastOpened := List.forall_mem_cons.mpr ⟨oX1_leastOpened_0, fun _ h => absurd h List.not_mem_nil⟩
def tX1_rollUnder_0 : List (Nat × hyE) := [(0, .iload_n 1, 1, 1, 0, 0, 0, 0, none, []),
  (1, .iconst 0, 2, 0, 0, 0, 0, 0, none, []),
  (2, .aload_n 0, 3, 0, 0, 0, 0, 0, none, []),
  (3, .getfield 40, 6, 1, 9, 0, 0, 0, none, []),
  (6, .iconst 1, 7, 0, 0, 0, 0, 1, none, []),
  (7, .isub, 8, 0, 0, 0, 0, 0, none, []),
  (8, .invokestatic 43, 11, 1, 3, 1, 0, 0, (some mX5_within), []),
  (11, .ifCond .ne 5, 14, 16, 0, 0, 0, 0, none, []),
  (14, .iconst (-1), 15, 0, 0, 0, 0, (-1), none, []),
  (15, .ireturn, 16, 0, 0, 0, 0, 0, none, [])]
theorem oX1_rollUnder_0 : ∀ q ∈ tX1_rollUnder_0, hy_ok mX1_rollUnder q.1 q.2 = true := by decide +kernel
def tX1_rollUnder_1 : List (Nat × hyE) := [(16, .aload_n 0, 17, 0, 0, 0, 0, 0, none, []),
  (17, .invokevirtual 51, 20, 0, 0, 0, 1, 0, (some mX1_lay), []),
  (20, .aload_n 0, 21, 0, 0, 0, 0, 0, none, []),
  (21, .getfield 54, 24, 1, 10, 0, 0, 0, none, []),
  (24, .iconst (-1), 25, 0, 0, 0, 0, (-1), none, []),
  (25, .if_icmp .ne 7, 28, 32, 0, 0, 0, 0, none, []),
  (28, .iconst (-1), 29, 0, 0, 0, 0, (-1), none, []),
  (29, .goto 9, 32, 38, 0, 0, 0, 0, none, [])]
theorem oX1_rollUnder_1 : ∀ q ∈ tX1_rollUnder_1, hy_ok mX1_rollUnder q.1 q.2 = true := by decide +kernel
def tX1_rollUnder_2 : List (Nat × hyE) := [(32, .aload_n 0, 33, 0, 0, 0, 0, 0, none, []),
  (33, .getfield 24, 36, 1, 4, 0, 0, 0, none, []),
  (36, .iload_n 1, 37, 1, 0, 0, 0, 0, none, []),
  (37, .iaload, 38, 0, 0, 0, 0, 0, none, []),
  (38, .ireturn, 39, 0, 0, 0, 0, 0, none, [])]
theorem oX1_rollUnder_2 : ∀ q ∈ tX1_rollUnder_2, hy_ok mX1_rollUnder q.1 q.2 = true := by decide +kernel
def tX1_rollUnder : hyT := [tX1_rollUnder_0, tX1_rollUnder_1, tX1_rollUnder_2]
theorem oX1_rollUnder : hy_tok mX1_rollUnder tX1_rollUnder := List.forall_mem_cons.mpr ⟨oX1_rollUnder_0, List.forall_mem_cons.mpr ⟨oX1_rollUnder_1, List.forall_mem_cons.mpr ⟨oX1_rollUnder_2, fun _ h => absurd h List.not_mem_nil⟩⟩⟩
def tX1_lay_0 : List (Nat × hyE) := [(0, .aload_n 0, 1, 0, 0, 0, 0, 0, none, []),
  (1, .getfield 47, 4, 1, 11, 0, 0, 0, none, []),
  (4, .ifCond .eq 4, 7, 8, 0, 0, 0, 0, none, []),
  (7, .return_, 8, 0, 0, 0, 0, 0, none, []),
  (8, .aload_n 0, 9, 0, 0, 0, 0, 0, none, []),
  (9, .iconst 1, 10, 0, 0, 0, 0, 1, none, []),
  (10, .putfield 47, 13, 1, 11, 1, 0, 0, none, []),
  (13, .aload_n 0, 14, 0, 0, 0, 0, 0, none, []),
  (14, .invokevirtual 57, 17, 0, 0, 0, 1, 0, (some mX1_measureSets), [])]
theorem oX1_lay_0 : ∀ q ∈ tX1_lay_0, hy_ok mX1_lay q.1 q.2 = true := by decide +kernel
def tX1_lay_1 : List (Nat × hyE) := [(17, .aload_n 0, 18, 0, 0, 0, 0, 0, none, []),
  (18, .aload_n 0, 19, 0, 0, 0, 0, 0, none, []),
  (19, .iconst 0, 20, 0, 0, 0, 0, 0, none, []),
  (20, .invokevirtual 60, 23, 0, 1, 0, 1, 0, (some mX1_leastWith), []),
  (23, .putfield 54, 26, 1, 10, 0, 0, 0, none, []),
  (26, .aload_n 0, 27, 0, 0, 0, 0, 0, none, []),
  (27, .getfield 54, 30, 1, 10, 0, 0, 0, none, []),
  (30, .ldc 64, 32, 0, 0, 0, 0, 1000000, none, [])]
theorem oX1_lay_1 : ∀ q ∈ tX1_lay_1, hy_ok mX1_lay q.1 q.2 = true := by decide +kernel
def tX1_lay_2 : List (Nat × hyE) := [(32, .if_icmp .lt 9, 35, 41, 0, 0, 0, 0, none, []),
  (35, .aload_n 0, 36, 0, 0, 0, 0, 0, none, []),
  (36, .iconst (-1), 37, 0, 0, 0, 0, (-1), none, []),
  (37, .putfield 54, 40, 1, 10, 0, 0, 0, none, []),
  (40, .return_, 41, 0, 0, 0, 0, 0, none, []),
  (41, .iconst 0, 42, 0, 0, 0, 0, 0, none, []),
  (42, .istore_n 1, 43, 1, 0, 0, 0, 0, none, []),
  (43, .iload_n 1, 44, 1, 0, 0, 0, 0, none, []),
  (44, .aload_n 0, 45, 0, 0, 0, 0, 0, none, []),
  (45, .getfield 40, 48, 1, 9, 0, 0, 0, none, [])]
theorem oX1_lay_2 : ∀ q ∈ tX1_lay_2, hy_ok mX1_lay q.1 q.2 = true := by decide +kernel
def tX1_lay_3 : List (Nat × hyE) := [(48, .if_icmp .ge 14, 51, 62, 0, 0, 0, 0, none, []),
  (51, .aload_n 0, 52, 0, 0, 0, 0, 0, none, []),
  (52, .iload_n 1, 53, 1, 0, 0, 0, 0, none, []),
  (53, .invokevirtual 65, 56, 0, 1, 0, 1, 0, (some mX1_layOnLowestRoll), []),
  (56, .iinc 1 1, 59, 1, 0, 0, 0, 1, none, []),
  (59, .goto (-16), 62, 43, 0, 0, 0, 0, none, []),
  (62, .return_, 63, 0, 0, 0, 0, 0, none, [])]
theorem oX1_lay_3 : ∀ q ∈ tX1_lay_3, hy_ok mX1_lay q.1 q.2 = true := by decide +kernel
def tX1_lay : hyT := [tX1_lay_0, tX1_lay_1, tX1_lay_2, tX1_lay_3]
theorem oX1_lay : hy_tok mX1_lay tX1_lay := List.forall_mem_cons.mpr ⟨oX1_lay_0, List.forall_mem_cons.mpr ⟨oX1_lay_1, List.forall_mem_cons.mpr ⟨oX1_lay_2, List.forall_mem_cons.mpr ⟨oX1_lay_3, fun _ h => absurd h List.not_mem_nil⟩⟩⟩⟩
def tX1_measureSets_0 : List (Nat × hyE) := [(0, .iconst 1, 1, 0, 0, 0, 0, 1, none, []),
  (1, .aload_n 0, 2, 0, 0, 0, 0, 0, none, []),
  (2, .getfield 40, 5, 1, 9, 0, 0, 0, none, []),
  (5, .ishl, 6, 0, 0, 0, 0, 0, none, []),
  (6, .istore_n 1, 7, 1, 0, 0, 0, 0, none, []),
  (7, .iconst 0, 8, 0, 0, 0, 0, 0, none, []),
  (8, .istore_n 2, 9, 2, 0, 0, 0, 0, none, []),
  (9, .iload_n 2, 10, 2, 0, 0, 0, 0, none, []),
  (10, .iload_n 1, 11, 1, 0, 0, 0, 0, none, []),
  (11, .if_icmp .ge 53, 14, 64, 0, 0, 0, 0, none, []),
  (14, .iconst 0, 15, 0, 0, 0, 0, 0, none, []),
  (15, .istore_n 3, 16, 3, 0, 0, 0, 0, none, [])]
theorem oX1_measureSets_0 : ∀ q ∈ tX1_measureSets_0, hy_ok mX1_measureSets q.1 q.2 = true := by decide +kernel
def tX1_measureSets_1 : List (Nat × hyE) := [(16, .iconst 0, 17, 0, 0, 0, 0, 0, none, []),
  (17, .istore 4, 19, 4, 0, 0, 0, 0, none, []),
  (19, .iload 4, 21, 4, 0, 0, 0, 0, none, []),
  (21, .aload_n 0, 22, 0, 0, 0, 0, 0, none, []),
  (22, .getfield 40, 25, 1, 9, 0, 0, 0, none, []),
  (25, .if_icmp .ge 26, 28, 51, 0, 0, 0, 0, none, []),
  (28, .iload_n 3, 29, 3, 0, 0, 0, 0, none, []),
  (29, .iload_n 2, 30, 2, 0, 0, 0, 0, none, []),
  (30, .iload 4, 32, 4, 0, 0, 0, 0, none, [])]
theorem oX1_measureSets_1 : ∀ q ∈ tX1_measureSets_1, hy_ok mX1_measureSets q.1 q.2 = true := by decide +kernel
def tX1_measureSets_2 : List (Nat × hyE) := [(32, .ishr, 33, 0, 0, 0, 0, 0, none, []),
  (33, .iconst 1, 34, 0, 0, 0, 0, 1, none, []),
  (34, .iand, 35, 0, 0, 0, 0, 0, none, []),
  (35, .aload_n 0, 36, 0, 0, 0, 0, 0, none, []),
  (36, .getfield 18, 39, 1, 2, 0, 0, 0, none, []),
  (39, .iload 4, 41, 4, 0, 0, 0, 0, none, []),
  (41, .iaload, 42, 0, 0, 0, 0, 0, none, []),
  (42, .imul, 43, 0, 0, 0, 0, 0, none, []),
  (43, .iadd, 44, 0, 0, 0, 0, 0, none, []),
  (44, .istore_n 3, 45, 3, 0, 0, 0, 0, none, []),
  (45, .iinc 4 1, 48, 4, 0, 0, 0, 1, none, [])]
theorem oX1_measureSets_2 : ∀ q ∈ tX1_measureSets_2, hy_ok mX1_measureSets q.1 q.2 = true := by decide +kernel
def tX1_measureSets_3 : List (Nat × hyE) := [(48, .goto (-29), 51, 19, 0, 0, 0, 0, none, []),
  (51, .aload_n 0, 52, 0, 0, 0, 0, 0, none, []),
  (52, .getfield 27, 55, 1, 5, 0, 0, 0, none, []),
  (55, .iload_n 2, 56, 2, 0, 0, 0, 0, none, []),
  (56, .iload_n 3, 57, 3, 0, 0, 0, 0, none, []),
  (57, .iastore, 58, 0, 0, 0, 0, 0, none, []),
  (58, .iinc 2 1, 61, 2, 0, 0, 0, 1, none, []),
  (61, .goto (-52), 64, 9, 0, 0, 0, 0, none, [])]
theorem oX1_measureSets_3 : ∀ q ∈ tX1_measureSets_3, hy_ok mX1_measureSets q.1 q.2 = true := by decide +kernel
def tX1_measureSets_4 : List (Nat × hyE) := [(64, .return_, 65, 0, 0, 0, 0, 0, none, [])]
theorem oX1_measureSets_4 : ∀ q ∈ tX1_measureSets_4, hy_ok mX1_measureSets q.1 q.2 = true := by decide +kernel
def tX1_measureSets : hyT := [tX1_measureSets_0, tX1_measureSets_1, tX1_measureSets_2, tX1_measureSets_3, tX1_measureSets_4]
theorem oX1_measureSets : hy_tok mX1_measureSets tX1_measureSets := List.forall_mem_cons.mpr ⟨oX1_measureSets_0, List.forall_mem_cons.mpr ⟨oX1_measureSets_1, List.forall_mem_cons.mpr ⟨oX1_measureSets_2, List.forall_mem_cons.mpr ⟨oX1_measureSets_3, List.forall_mem_cons.mpr ⟨oX1_measureSets_4, fun _ h => absurd h List.not_mem_nil⟩⟩⟩⟩⟩
def tX1_layOnLowestRoll_0 : List (Nat × hyE) := [(0, .iconst 0, 1, 0, 0, 0, 0, 0, none, []),
  (1, .istore_n 2, 2, 2, 0, 0, 0, 0, none, []),
  (2, .iload_n 2, 3, 2, 0, 0, 0, 0, none, []),
  (3, .aload_n 0, 4, 0, 0, 0, 0, 0, none, []),
  (4, .getfield 36, 7, 1, 8, 0, 0, 0, none, []),
  (7, .if_icmp .ge 31, 10, 38, 0, 0, 0, 0, none, []),
  (10, .aload_n 0, 11, 0, 0, 0, 0, 0, none, []),
  (11, .getfield 24, 14, 1, 4, 0, 0, 0, none, []),
  (14, .iload_n 1, 15, 1, 0, 0, 0, 0, none, []),
  (15, .iload_n 2, 16, 2, 0, 0, 0, 0, none, [])]
theorem oX1_layOnLowestRoll_0 : ∀ q ∈ tX1_layOnLowestRoll_0, hy_ok mX1_layOnLowestRoll q.1 q.2 = true := by decide +kernel
def tX1_layOnLowestRoll_1 : List (Nat × hyE) := [(16, .iastore, 17, 0, 0, 0, 0, 0, none, []),
  (17, .aload_n 0, 18, 0, 0, 0, 0, 0, none, []),
  (18, .iload_n 1, 19, 1, 0, 0, 0, 0, none, []),
  (19, .iconst 1, 20, 0, 0, 0, 0, 1, none, []),
  (20, .iadd, 21, 0, 0, 0, 0, 0, none, []),
  (21, .invokevirtual 60, 24, 0, 1, 0, 1, 0, (some mX1_leastWith), []),
  (24, .aload_n 0, 25, 0, 0, 0, 0, 0, none, []),
  (25, .getfield 54, 28, 1, 10, 0, 0, 0, none, []),
  (28, .if_icmp .ne 4, 31, 32, 0, 0, 0, 0, none, []),
  (31, .return_, 32, 0, 0, 0, 0, 0, none, [])]
theorem oX1_layOnLowestRoll_1 : ∀ q ∈ tX1_layOnLowestRoll_1, hy_ok mX1_layOnLowestRoll q.1 q.2 = true := by decide +kernel
def tX1_layOnLowestRoll_2 : List (Nat × hyE) := [(32, .iinc 2 1, 35, 2, 0, 0, 0, 1, none, []),
  (35, .goto (-33), 38, 2, 0, 0, 0, 0, none, []),
  (38, .return_, 39, 0, 0, 0, 0, 0, none, [])]
theorem oX1_layOnLowestRoll_2 : ∀ q ∈ tX1_layOnLowestRoll_2, hy_ok mX1_layOnLowestRoll q.1 q.2 = true := by decide +kernel
def tX1_layOnLowestRoll : hyT := [tX1_layOnLowestRoll_0, tX1_layOnLowestRoll_1, tX1_layOnLowestRoll_2]
theorem oX1_layOnLowestRoll : hy_tok mX1_layOnLowestRoll tX1_layOnLowestRoll := List.forall_mem_cons.mpr ⟨oX1_layOnLowestRoll_0, List.forall_mem_cons.mpr ⟨oX1_layOnLowestRoll_1, List.forall_mem_cons.mpr ⟨oX1_layOnLowestRoll_2, fun _ h => absurd h List.not_mem_nil⟩⟩⟩
def tX1_leastWith_0 : List (Nat × hyE) := [(0, .iconst 0, 1, 0, 0, 0, 0, 0, none, []),
  (1, .istore_n 2, 2, 2, 0, 0, 0, 0, none, []),
  (2, .iconst 0, 3, 0, 0, 0, 0, 0, none, []),
  (3, .istore_n 3, 4, 3, 0, 0, 0, 0, none, []),
  (4, .iload_n 3, 5, 3, 0, 0, 0, 0, none, []),
  (5, .aload_n 0, 6, 0, 0, 0, 0, 0, none, []),
  (6, .getfield 36, 9, 1, 8, 0, 0, 0, none, []),
  (9, .if_icmp .ge 49, 12, 58, 0, 0, 0, 0, none, []),
  (12, .aload_n 0, 13, 0, 0, 0, 0, 0, none, []),
  (13, .iload_n 3, 14, 3, 0, 0, 0, 0, none, []),
  (14, .iload_n 1, 15, 1, 0, 0, 0, 0, none, []),
  (15, .invokevirtual 69, 18, 0, 2, 0, 1, 0, (some mX1_usedOf), [])]
theorem oX1_leastWith_0 : ∀ q ∈ tX1_leastWith_0, hy_ok mX1_leastWith q.1 q.2 = true := by decide +kernel
def tX1_leastWith_1 : List (Nat × hyE) := [(18, .istore 4, 20, 4, 0, 0, 0, 0, none, []),
  (20, .iload 4, 22, 4, 0, 0, 0, 0, none, []),
  (22, .aload_n 0, 23, 0, 0, 0, 0, 0, none, []),
  (23, .getfield 11, 26, 1, 0, 0, 0, 0, none, []),
  (26, .iload_n 3, 27, 3, 0, 0, 0, 0, none, []),
  (27, .iaload, 28, 0, 0, 0, 0, 0, none, []),
  (28, .if_icmp .le 6, 31, 34, 0, 0, 0, 0, none, []),
  (31, .ldc 64, 33, 0, 0, 0, 0, 1000000, none, [])]
theorem oX1_leastWith_1 : ∀ q ∈ tX1_leastWith_1, hy_ok mX1_leastWith q.1 q.2 = true := by decide +kernel
def tX1_leastWith_2 : List (Nat × hyE) := [(33, .ireturn, 34, 0, 0, 0, 0, 0, none, []),
  (34, .iload_n 2, 35, 2, 0, 0, 0, 0, none, []),
  (35, .iload 4, 37, 4, 0, 0, 0, 0, none, []),
  (37, .ifCond .le 12, 40, 49, 0, 0, 0, 0, none, []),
  (40, .aload_n 0, 41, 0, 0, 0, 0, 0, none, []),
  (41, .getfield 11, 44, 1, 0, 0, 0, 0, none, []),
  (44, .iload_n 3, 45, 3, 0, 0, 0, 0, none, []),
  (45, .iaload, 46, 0, 0, 0, 0, 0, none, []),
  (46, .goto 4, 49, 50, 0, 0, 0, 0, none, [])]
theorem oX1_leastWith_2 : ∀ q ∈ tX1_leastWith_2, hy_ok mX1_leastWith q.1 q.2 = true := by decide +kernel
def tX1_leastWith_3 : List (Nat × hyE) := [(49, .iconst 0, 50, 0, 0, 0, 0, 0, none, []),
  (50, .iadd, 51, 0, 0, 0, 0, 0, none, []),
  (51, .istore_n 2, 52, 2, 0, 0, 0, 0, none, []),
  (52, .iinc 3 1, 55, 3, 0, 0, 0, 1, none, []),
  (55, .goto (-51), 58, 4, 0, 0, 0, 0, none, []),
  (58, .iconst 1, 59, 0, 0, 0, 0, 1, none, []),
  (59, .istore_n 3, 60, 3, 0, 0, 0, 0, none, []),
  (60, .iload_n 3, 61, 3, 0, 0, 0, 0, none, []),
  (61, .bipush 16, 63, 0, 0, 0, 0, 16, none, []),
  (63, .if_icmp .ge 17, 66, 80, 0, 0, 0, 0, none, [])]
theorem oX1_leastWith_3 : ∀ q ∈ tX1_leastWith_3, hy_ok mX1_leastWith q.1 q.2 = true := by decide +kernel
def tX1_leastWith_4 : List (Nat × hyE) := [(66, .aload_n 0, 67, 0, 0, 0, 0, 0, none, []),
  (67, .getfield 33, 70, 1, 7, 0, 0, 0, none, []),
  (70, .iload_n 3, 71, 3, 0, 0, 0, 0, none, []),
  (71, .ldc 64, 73, 0, 0, 0, 0, 1000000, none, []),
  (73, .iastore, 74, 0, 0, 0, 0, 0, none, []),
  (74, .iinc 3 1, 77, 3, 0, 0, 0, 1, none, []),
  (77, .goto (-17), 80, 60, 0, 0, 0, 0, none, [])]
theorem oX1_leastWith_4 : ∀ q ∈ tX1_leastWith_4, hy_ok mX1_leastWith q.1 q.2 = true := by decide +kernel
def tX1_leastWith_5 : List (Nat × hyE) := [(80, .aload_n 0, 81, 0, 0, 0, 0, 0, none, []),
  (81, .getfield 33, 84, 1, 7, 0, 0, 0, none, []),
  (84, .iconst 0, 85, 0, 0, 0, 0, 0, none, []),
  (85, .iconst 0, 86, 0, 0, 0, 0, 0, none, []),
  (86, .iastore, 87, 0, 0, 0, 0, 0, none, []),
  (87, .iconst 0, 88, 0, 0, 0, 0, 0, none, []),
  (88, .istore_n 3, 89, 3, 0, 0, 0, 0, none, []),
  (89, .iload_n 3, 90, 3, 0, 0, 0, 0, none, []),
  (90, .iconst 3, 91, 0, 0, 0, 0, 3, none, []),
  (91, .if_icmp .ge 21, 94, 112, 0, 0, 0, 0, none, []),
  (94, .aload_n 0, 95, 0, 0, 0, 0, 0, none, []),
  (95, .iload_n 3, 96, 3, 0, 0, 0, 0, none, [])]
theorem oX1_leastWith_5 : ∀ q ∈ tX1_leastWith_5, hy_ok mX1_leastWith q.1 q.2 = true := by decide +kernel
def tX1_leastWith_6 : List (Nat × hyE) := [(96, .iload_n 1, 97, 1, 0, 0, 0, 0, none, []),
  (97, .invokevirtual 73, 100, 0, 2, 0, 1, 0, (some mX1_packLot), []),
  (100, .aload_n 0, 101, 0, 0, 0, 0, 0, none, []),
  (101, .iload_n 3, 102, 3, 0, 0, 0, 0, none, []),
  (102, .iload_n 1, 103, 1, 0, 0, 0, 0, none, []),
  (103, .invokevirtual 77, 106, 0, 2, 0, 1, 0, (some mX1_joinLot), []),
  (106, .iinc 3 1, 109, 3, 0, 0, 0, 1, none, []),
  (109, .goto (-20), 112, 89, 0, 0, 0, 0, none, [])]
theorem oX1_leastWith_6 : ∀ q ∈ tX1_leastWith_6, hy_ok mX1_leastWith q.1 q.2 = true := by decide +kernel
def tX1_leastWith_7 : List (Nat × hyE) := [(112, .ldc 64, 114, 0, 0, 0, 0, 1000000, none, []),
  (114, .iload_n 2, 115, 2, 0, 0, 0, 0, none, []),
  (115, .aload_n 0, 116, 0, 0, 0, 0, 0, none, []),
  (116, .getfield 33, 119, 1, 7, 0, 0, 0, none, []),
  (119, .bipush 15, 121, 0, 0, 0, 0, 15, none, []),
  (121, .iaload, 122, 0, 0, 0, 0, 0, none, []),
  (122, .iadd, 123, 0, 0, 0, 0, 0, none, []),
  (123, .invokestatic 80, 126, 0, 2, 0, 2, 0, (some mJ9_min_7cf53), []),
  (126, .ireturn, 127, 0, 0, 0, 0, 0, none, [])]
theorem oX1_leastWith_7 : ∀ q ∈ tX1_leastWith_7, hy_ok mX1_leastWith q.1 q.2 = true := by decide +kernel
def tX1_leastWith : hyT := [tX1_leastWith_0, tX1_leastWith_1, tX1_leastWith_2, tX1_leastWith_3, tX1_leastWith_4, tX1_leastWith_5, tX1_leastWith_6, tX1_leastWith_7]
theorem oX1_leastWith : hy_tok mX1_leastWith tX1_leastWith := List.forall_mem_cons.mpr ⟨oX1_leastWith_0, List.forall_mem_cons.mpr ⟨oX1_leastWith_1, List.forall_mem_cons.mpr ⟨oX1_leastWith_2, List.forall_mem_cons.mpr ⟨oX1_leastWith_3, List.forall_mem_cons.mpr ⟨oX1_leastWith_4, List.forall_mem_cons.mpr ⟨oX1_leastWith_5, List.forall_mem_cons.mpr ⟨oX1_leastWith_6, List.forall_mem_cons.mpr ⟨oX1_leastWith_7, fun _ h => absurd h List.not_mem_nil⟩⟩⟩⟩⟩⟩⟩⟩
def tX1_usedOf_0 : List (Nat × hyE) := [(0, .iconst 0, 1, 0, 0, 0, 0, 0, none, []),
  (1, .istore_n 3, 2, 3, 0, 0, 0, 0, none, []),
  (2, .iconst 0, 3, 0, 0, 0, 0, 0, none, []),
  (3, .istore 4, 5, 4, 0, 0, 0, 0, none, []),
  (5, .iload 4, 7, 4, 0, 0, 0, 0, none, []),
  (7, .iload_n 2, 8, 2, 0, 0, 0, 0, none, []),
  (8, .if_icmp .ge 30, 11, 38, 0, 0, 0, 0, none, []),
  (11, .aload_n 0, 12, 0, 0, 0, 0, 0, none, []),
  (12, .getfield 24, 15, 1, 4, 0, 0, 0, none, []),
  (15, .iload 4, 17, 4, 0, 0, 0, 0, none, [])]
theorem oX1_usedOf_0 : ∀ q ∈ tX1_usedOf_0, hy_ok mX1_usedOf q.1 q.2 = true := by decide +kernel
def tX1_usedOf_1 : List (Nat × hyE) := [(17, .iaload, 18, 0, 0, 0, 0, 0, none, []),
  (18, .iload_n 1, 19, 1, 0, 0, 0, 0, none, []),
  (19, .if_icmp .ne 13, 22, 32, 0, 0, 0, 0, none, []),
  (22, .iload_n 3, 23, 3, 0, 0, 0, 0, none, []),
  (23, .aload_n 0, 24, 0, 0, 0, 0, 0, none, []),
  (24, .getfield 18, 27, 1, 2, 0, 0, 0, none, []),
  (27, .iload 4, 29, 4, 0, 0, 0, 0, none, []),
  (29, .iaload, 30, 0, 0, 0, 0, 0, none, []),
  (30, .iadd, 31, 0, 0, 0, 0, 0, none, []),
  (31, .istore_n 3, 32, 3, 0, 0, 0, 0, none, [])]
theorem oX1_usedOf_1 : ∀ q ∈ tX1_usedOf_1, hy_ok mX1_usedOf q.1 q.2 = true := by decide +kernel
def tX1_usedOf_2 : List (Nat × hyE) := [(32, .iinc 4 1, 35, 4, 0, 0, 0, 1, none, []),
  (35, .goto (-30), 38, 5, 0, 0, 0, 0, none, []),
  (38, .iload_n 3, 39, 3, 0, 0, 0, 0, none, []),
  (39, .ireturn, 40, 0, 0, 0, 0, 0, none, [])]
theorem oX1_usedOf_2 : ∀ q ∈ tX1_usedOf_2, hy_ok mX1_usedOf q.1 q.2 = true := by decide +kernel
def tX1_usedOf : hyT := [tX1_usedOf_0, tX1_usedOf_1, tX1_usedOf_2]
theorem oX1_usedOf : hy_tok mX1_usedOf tX1_usedOf := List.forall_mem_cons.mpr ⟨oX1_usedOf_0, List.forall_mem_cons.mpr ⟨oX1_usedOf_1, List.forall_mem_cons.mpr ⟨oX1_usedOf_2, fun _ h => absurd h List.not_mem_nil⟩⟩⟩
def tX1_packLot_0 : List (Nat × hyE) := [(0, .iconst 1, 1, 0, 0, 0, 0, 1, none, []),
  (1, .aload_n 0, 2, 0, 0, 0, 0, 0, none, []),
  (2, .getfield 40, 5, 1, 9, 0, 0, 0, none, []),
  (5, .iload_n 2, 6, 2, 0, 0, 0, 0, none, []),
  (6, .isub, 7, 0, 0, 0, 0, 0, none, []),
  (7, .ishl, 8, 0, 0, 0, 0, 0, none, []),
  (8, .iconst 1, 9, 0, 0, 0, 0, 1, none, []),
  (9, .isub, 10, 0, 0, 0, 0, 0, none, []),
  (10, .istore_n 3, 11, 3, 0, 0, 0, 0, none, []),
  (11, .iconst 1, 12, 0, 0, 0, 0, 1, none, []),
  (12, .istore 4, 14, 4, 0, 0, 0, 0, none, []),
  (14, .iload 4, 16, 4, 0, 0, 0, 0, none, [])]
theorem oX1_packLot_0 : ∀ q ∈ tX1_packLot_0, hy_ok mX1_packLot q.1 q.2 = true := by decide +kernel
def tX1_packLot_1 : List (Nat × hyE) := [(16, .iload_n 3, 17, 3, 0, 0, 0, 0, none, []),
  (17, .if_icmp .gt 18, 20, 35, 0, 0, 0, 0, none, []),
  (20, .aload_n 0, 21, 0, 0, 0, 0, 0, none, []),
  (21, .getfield 30, 24, 1, 6, 0, 0, 0, none, []),
  (24, .iload 4, 26, 4, 0, 0, 0, 0, none, []),
  (26, .ldc 64, 28, 0, 0, 0, 0, 1000000, none, []),
  (28, .iastore, 29, 0, 0, 0, 0, 0, none, []),
  (29, .iinc 4 1, 32, 4, 0, 0, 0, 1, none, [])]
theorem oX1_packLot_1 : ∀ q ∈ tX1_packLot_1, hy_ok mX1_packLot q.1 q.2 = true := by decide +kernel
def tX1_packLot_2 : List (Nat × hyE) := [(32, .goto (-18), 35, 14, 0, 0, 0, 0, none, []),
  (35, .aload_n 0, 36, 0, 0, 0, 0, 0, none, []),
  (36, .getfield 30, 39, 1, 6, 0, 0, 0, none, []),
  (39, .iconst 0, 40, 0, 0, 0, 0, 0, none, []),
  (40, .iconst 0, 41, 0, 0, 0, 0, 0, none, []),
  (41, .iastore, 42, 0, 0, 0, 0, 0, none, []),
  (42, .iconst 0, 43, 0, 0, 0, 0, 0, none, []),
  (43, .istore 4, 45, 4, 0, 0, 0, 0, none, []),
  (45, .iload 4, 47, 4, 0, 0, 0, 0, none, []),
  (47, .aload_n 0, 48, 0, 0, 0, 0, 0, none, [])]
theorem oX1_packLot_2 : ∀ q ∈ tX1_packLot_2, hy_ok mX1_packLot q.1 q.2 = true := by decide +kernel
def tX1_packLot_3 : List (Nat × hyE) := [(48, .getfield 36, 51, 1, 8, 0, 0, 0, none, []),
  (51, .if_icmp .ge 65, 54, 116, 0, 0, 0, 0, none, []),
  (54, .aload_n 0, 55, 0, 0, 0, 0, 0, none, []),
  (55, .getfield 15, 58, 1, 1, 0, 0, 0, none, []),
  (58, .iload 4, 60, 4, 0, 0, 0, 0, none, []),
  (60, .iaload, 61, 0, 0, 0, 0, 0, none, []),
  (61, .iload_n 1, 62, 1, 0, 0, 0, 0, none, []),
  (62, .if_icmp .ne 48, 65, 110, 0, 0, 0, 0, none, [])]
theorem oX1_packLot_3 : ∀ q ∈ tX1_packLot_3, hy_ok mX1_packLot q.1 q.2 = true := by decide +kernel
def tX1_packLot_4 : List (Nat × hyE) := [(65, .aload_n 0, 66, 0, 0, 0, 0, 0, none, []),
  (66, .iload 4, 68, 4, 0, 0, 0, 0, none, []),
  (68, .iload_n 2, 69, 2, 0, 0, 0, 0, none, []),
  (69, .invokevirtual 69, 72, 0, 2, 0, 1, 0, (some mX1_usedOf), []),
  (72, .istore 5, 74, 5, 0, 0, 0, 0, none, []),
  (74, .iload 5, 76, 5, 0, 0, 0, 0, none, []),
  (76, .ifCond .le 7, 79, 83, 0, 0, 0, 0, none, []),
  (79, .iconst 0, 80, 0, 0, 0, 0, 0, none, [])]
theorem oX1_packLot_4 : ∀ q ∈ tX1_packLot_4, hy_ok mX1_packLot q.1 q.2 = true := by decide +kernel
def tX1_packLot_5 : List (Nat × hyE) := [(80, .goto 10, 83, 90, 0, 0, 0, 0, none, []),
  (83, .aload_n 0, 84, 0, 0, 0, 0, 0, none, []),
  (84, .getfield 11, 87, 1, 0, 0, 0, 0, none, []),
  (87, .iload 4, 89, 4, 0, 0, 0, 0, none, []),
  (89, .iaload, 90, 0, 0, 0, 0, 0, none, []),
  (90, .istore 6, 92, 6, 0, 0, 0, 0, none, []),
  (92, .aload_n 0, 93, 0, 0, 0, 0, 0, none, []),
  (93, .aload_n 0, 94, 0, 0, 0, 0, 0, none, []),
  (94, .getfield 11, 97, 1, 0, 0, 0, 0, none, [])]
theorem oX1_packLot_5 : ∀ q ∈ tX1_packLot_5, hy_ok mX1_packLot q.1 q.2 = true := by decide +kernel
def tX1_packLot_6 : List (Nat × hyE) := [(97, .iload 4, 99, 4, 0, 0, 0, 0, none, []),
  (99, .iaload, 100, 0, 0, 0, 0, 0, none, []),
  (100, .iload 5, 102, 5, 0, 0, 0, 0, none, []),
  (102, .isub, 103, 0, 0, 0, 0, 0, none, []),
  (103, .iload 6, 105, 6, 0, 0, 0, 0, none, []),
  (105, .iload_n 2, 106, 2, 0, 0, 0, 0, none, []),
  (106, .iload_n 3, 107, 3, 0, 0, 0, 0, none, []),
  (107, .invokevirtual 85, 110, 0, 4, 0, 1, 0, (some mX1_packRoll), []),
  (110, .iinc 4 1, 113, 4, 0, 0, 0, 1, none, [])]
theorem oX1_packLot_6 : ∀ q ∈ tX1_packLot_6, hy_ok mX1_packLot q.1 q.2 = true := by decide +kernel
def tX1_packLot_7 : List (Nat × hyE) := [(113, .goto (-68), 116, 45, 0, 0, 0, 0, none, []),
  (116, .return_, 117, 0, 0, 0, 0, 0, none, [])]
theorem oX1_packLot_7 : ∀ q ∈ tX1_packLot_7, hy_ok mX1_packLot q.1 q.2 = true := by decide +kernel
def tX1_packLot : hyT := [tX1_packLot_0, tX1_packLot_1, tX1_packLot_2, tX1_packLot_3, tX1_packLot_4, tX1_packLot_5, tX1_packLot_6, tX1_packLot_7]
theorem oX1_packLot : hy_tok mX1_packLot tX1_packLot := List.forall_mem_cons.mpr ⟨oX1_packLot_0, List.forall_mem_cons.mpr ⟨oX1_packLot_1, List.forall_mem_cons.mpr ⟨oX1_packLot_2, List.forall_mem_cons.mpr ⟨oX1_packLot_3, List.forall_mem_cons.mpr ⟨oX1_packLot_4, List.forall_mem_cons.mpr ⟨oX1_packLot_5, List.forall_mem_cons.mpr ⟨oX1_packLot_6, List.forall_mem_cons.mpr ⟨oX1_packLot_7, fun _ h => absurd h List.not_mem_nil⟩⟩⟩⟩⟩⟩⟩⟩
def tX1_packRoll_0 : List (Nat × hyE) := [(0, .iload 4, 2, 4, 0, 0, 0, 0, none, []),
  (2, .istore 5, 4, 5, 0, 0, 0, 0, none, []),
  (4, .iload 5, 6, 5, 0, 0, 0, 0, none, []),
  (6, .ifCond .le 86, 9, 92, 0, 0, 0, 0, none, []),
  (9, .aload_n 0, 10, 0, 0, 0, 0, 0, none, []),
  (10, .getfield 30, 13, 1, 6, 0, 0, 0, none, []),
  (13, .iload 5, 15, 5, 0, 0, 0, 0, none, []),
  (15, .iaload, 16, 0, 0, 0, 0, 0, none, [])]
theorem oX1_packRoll_0 : ∀ q ∈ tX1_packRoll_0, hy_ok mX1_packRoll q.1 q.2 = true := by decide +kernel
def tX1_packRoll_1 : List (Nat × hyE) := [(16, .istore 6, 18, 6, 0, 0, 0, 0, none, []),
  (18, .iload 5, 20, 5, 0, 0, 0, 0, none, []),
  (20, .istore 7, 22, 7, 0, 0, 0, 0, none, []),
  (22, .iload 7, 24, 7, 0, 0, 0, 0, none, []),
  (24, .ifCond .le 53, 27, 77, 0, 0, 0, 0, none, []),
  (27, .aload_n 0, 28, 0, 0, 0, 0, 0, none, []),
  (28, .getfield 30, 31, 1, 6, 0, 0, 0, none, []),
  (31, .iload 5, 33, 5, 0, 0, 0, 0, none, [])]
theorem oX1_packRoll_1 : ∀ q ∈ tX1_packRoll_1, hy_ok mX1_packRoll q.1 q.2 = true := by decide +kernel
def tX1_packRoll_2 : List (Nat × hyE) := [(33, .iload 7, 35, 7, 0, 0, 0, 0, none, []),
  (35, .ixor, 36, 0, 0, 0, 0, 0, none, []),
  (36, .iaload, 37, 0, 0, 0, 0, 0, none, []),
  (37, .iload_n 2, 38, 2, 0, 0, 0, 0, none, []),
  (38, .iadd, 39, 0, 0, 0, 0, 0, none, []),
  (39, .istore 8, 41, 8, 0, 0, 0, 0, none, []),
  (41, .iload 8, 43, 8, 0, 0, 0, 0, none, []),
  (43, .iload 6, 45, 6, 0, 0, 0, 0, none, []),
  (45, .if_icmp .ge 20, 48, 65, 0, 0, 0, 0, none, [])]
theorem oX1_packRoll_2 : ∀ q ∈ tX1_packRoll_2, hy_ok mX1_packRoll q.1 q.2 = true := by decide +kernel
def tX1_packRoll_3 : List (Nat × hyE) := [(48, .aload_n 0, 49, 0, 0, 0, 0, 0, none, []),
  (49, .getfield 27, 52, 1, 5, 0, 0, 0, none, []),
  (52, .iload 7, 54, 7, 0, 0, 0, 0, none, []),
  (54, .iload_n 3, 55, 3, 0, 0, 0, 0, none, []),
  (55, .ishl, 56, 0, 0, 0, 0, 0, none, []),
  (56, .iaload, 57, 0, 0, 0, 0, 0, none, []),
  (57, .iload_n 1, 58, 1, 0, 0, 0, 0, none, []),
  (58, .if_icmp .gt 7, 61, 65, 0, 0, 0, 0, none, []),
  (61, .iload 8, 63, 8, 0, 0, 0, 0, none, []),
  (63, .istore 6, 65, 6, 0, 0, 0, 0, none, [])]
theorem oX1_packRoll_3 : ∀ q ∈ tX1_packRoll_3, hy_ok mX1_packRoll q.1 q.2 = true := by decide +kernel
def tX1_packRoll_4 : List (Nat × hyE) := [(65, .iload 7, 67, 7, 0, 0, 0, 0, none, []),
  (67, .iconst 1, 68, 0, 0, 0, 0, 1, none, []),
  (68, .isub, 69, 0, 0, 0, 0, 0, none, []),
  (69, .iload 5, 71, 5, 0, 0, 0, 0, none, []),
  (71, .iand, 72, 0, 0, 0, 0, 0, none, []),
  (72, .istore 7, 74, 7, 0, 0, 0, 0, none, []),
  (74, .goto (-52), 77, 22, 0, 0, 0, 0, none, []),
  (77, .aload_n 0, 78, 0, 0, 0, 0, 0, none, []),
  (78, .getfield 30, 81, 1, 6, 0, 0, 0, none, [])]
theorem oX1_packRoll_4 : ∀ q ∈ tX1_packRoll_4, hy_ok mX1_packRoll q.1 q.2 = true := by decide +kernel
def tX1_packRoll_5 : List (Nat × hyE) := [(81, .iload 5, 83, 5, 0, 0, 0, 0, none, []),
  (83, .iload 6, 85, 6, 0, 0, 0, 0, none, []),
  (85, .iastore, 86, 0, 0, 0, 0, 0, none, []),
  (86, .iinc 5 (-1), 89, 5, 0, 0, 0, (-1), none, []),
  (89, .goto (-85), 92, 4, 0, 0, 0, 0, none, []),
  (92, .return_, 93, 0, 0, 0, 0, 0, none, [])]
theorem oX1_packRoll_5 : ∀ q ∈ tX1_packRoll_5, hy_ok mX1_packRoll q.1 q.2 = true := by decide +kernel
def tX1_packRoll : hyT := [tX1_packRoll_0, tX1_packRoll_1, tX1_packRoll_2, tX1_packRoll_3, tX1_packRoll_4, tX1_packRoll_5]
theorem oX1_packRoll : hy_tok mX1_packRoll tX1_packRoll := List.forall_mem_cons.mpr ⟨oX1_packRoll_0, List.forall_mem_cons.mpr ⟨oX1_packRoll_1, List.forall_mem_cons.mpr ⟨oX1_packRoll_2, List.forall_mem_cons.mpr ⟨oX1_packRoll_3, List.forall_mem_cons.mpr ⟨oX1_packRoll_4, List.forall_mem_cons.mpr ⟨oX1_packRoll_5, fun _ h => absurd h List.not_mem_nil⟩⟩⟩⟩⟩⟩
def tX1_joinLot_0 : List (Nat × hyE) := [(0, .bipush 15, 2, 0, 0, 0, 0, 15, none, []),
  (2, .istore_n 3, 3, 3, 0, 0, 0, 0, none, []),
  (3, .iload_n 3, 4, 3, 0, 0, 0, 0, none, []),
  (4, .ifCond .le 84, 7, 88, 0, 0, 0, 0, none, []),
  (7, .aload_n 0, 8, 0, 0, 0, 0, 0, none, []),
  (8, .getfield 33, 11, 1, 7, 0, 0, 0, none, []),
  (11, .iload_n 3, 12, 3, 0, 0, 0, 0, none, []),
  (12, .iaload, 13, 0, 0, 0, 0, 0, none, []),
  (13, .istore 4, 15, 4, 0, 0, 0, 0, none, []),
  (15, .iload_n 3, 16, 3, 0, 0, 0, 0, none, [])]
theorem oX1_joinLot_0 : ∀ q ∈ tX1_joinLot_0, hy_ok mX1_joinLot q.1 q.2 = true := by decide +kernel
def tX1_joinLot_1 : List (Nat × hyE) := [(16, .istore 5, 18, 5, 0, 0, 0, 0, none, []),
  (18, .iload 5, 20, 5, 0, 0, 0, 0, none, []),
  (20, .ifCond .le 54, 23, 74, 0, 0, 0, 0, none, []),
  (23, .aload_n 0, 24, 0, 0, 0, 0, 0, none, []),
  (24, .iload 5, 26, 5, 0, 0, 0, 0, none, []),
  (26, .iload_n 1, 27, 1, 0, 0, 0, 0, none, []),
  (27, .iload_n 2, 28, 2, 0, 0, 0, 0, none, []),
  (28, .invokevirtual 89, 31, 0, 3, 0, 1, 0, (some mX1_cutsToLay), []),
  (31, .istore 6, 33, 6, 0, 0, 0, 0, none, [])]
theorem oX1_joinLot_1 : ∀ q ∈ tX1_joinLot_1, hy_ok mX1_joinLot q.1 q.2 = true := by decide +kernel
def tX1_joinLot_2 : List (Nat × hyE) := [(33, .iload 6, 35, 6, 0, 0, 0, 0, none, []),
  (35, .iconst (-1), 36, 0, 0, 0, 0, (-1), none, []),
  (36, .if_icmp .eq 27, 39, 63, 0, 0, 0, 0, none, []),
  (39, .iload 4, 41, 4, 0, 0, 0, 0, none, []),
  (41, .aload_n 0, 42, 0, 0, 0, 0, 0, none, []),
  (42, .getfield 33, 45, 1, 7, 0, 0, 0, none, []),
  (45, .iload_n 3, 46, 3, 0, 0, 0, 0, none, []),
  (46, .iload 5, 48, 5, 0, 0, 0, 0, none, [])]
theorem oX1_joinLot_2 : ∀ q ∈ tX1_joinLot_2, hy_ok mX1_joinLot q.1 q.2 = true := by decide +kernel
def tX1_joinLot_3 : List (Nat × hyE) := [(48, .ixor, 49, 0, 0, 0, 0, 0, none, []),
  (49, .iaload, 50, 0, 0, 0, 0, 0, none, []),
  (50, .aload_n 0, 51, 0, 0, 0, 0, 0, none, []),
  (51, .getfield 30, 54, 1, 6, 0, 0, 0, none, []),
  (54, .iload 6, 56, 6, 0, 0, 0, 0, none, []),
  (56, .iaload, 57, 0, 0, 0, 0, 0, none, []),
  (57, .iadd, 58, 0, 0, 0, 0, 0, none, []),
  (58, .invokestatic 80, 61, 0, 2, 0, 2, 0, (some mJ9_min_7cf53), []),
  (61, .istore 4, 63, 4, 0, 0, 0, 0, none, []),
  (63, .iload 5, 65, 5, 0, 0, 0, 0, none, [])]
theorem oX1_joinLot_3 : ∀ q ∈ tX1_joinLot_3, hy_ok mX1_joinLot q.1 q.2 = true := by decide +kernel
def tX1_joinLot_4 : List (Nat × hyE) := [(65, .iconst 1, 66, 0, 0, 0, 0, 1, none, []),
  (66, .isub, 67, 0, 0, 0, 0, 0, none, []),
  (67, .iload_n 3, 68, 3, 0, 0, 0, 0, none, []),
  (68, .iand, 69, 0, 0, 0, 0, 0, none, []),
  (69, .istore 5, 71, 5, 0, 0, 0, 0, none, []),
  (71, .goto (-53), 74, 18, 0, 0, 0, 0, none, []),
  (74, .aload_n 0, 75, 0, 0, 0, 0, 0, none, []),
  (75, .getfield 33, 78, 1, 7, 0, 0, 0, none, []),
  (78, .iload_n 3, 79, 3, 0, 0, 0, 0, none, []),
  (79, .iload 4, 81, 4, 0, 0, 0, 0, none, [])]
theorem oX1_joinLot_4 : ∀ q ∈ tX1_joinLot_4, hy_ok mX1_joinLot q.1 q.2 = true := by decide +kernel
def tX1_joinLot_5 : List (Nat × hyE) := [(81, .iastore, 82, 0, 0, 0, 0, 0, none, []),
  (82, .iinc 3 (-1), 85, 3, 0, 0, 0, (-1), none, []),
  (85, .goto (-82), 88, 3, 0, 0, 0, 0, none, []),
  (88, .return_, 89, 0, 0, 0, 0, 0, none, [])]
theorem oX1_joinLot_5 : ∀ q ∈ tX1_joinLot_5, hy_ok mX1_joinLot q.1 q.2 = true := by decide +kernel
def tX1_joinLot : hyT := [tX1_joinLot_0, tX1_joinLot_1, tX1_joinLot_2, tX1_joinLot_3, tX1_joinLot_4, tX1_joinLot_5]
theorem oX1_joinLot : hy_tok mX1_joinLot tX1_joinLot := List.forall_mem_cons.mpr ⟨oX1_joinLot_0, List.forall_mem_cons.mpr ⟨oX1_joinLot_1, List.forall_mem_cons.mpr ⟨oX1_joinLot_2, List.forall_mem_cons.mpr ⟨oX1_joinLot_3, List.forall_mem_cons.mpr ⟨oX1_joinLot_4, List.forall_mem_cons.mpr ⟨oX1_joinLot_5, fun _ h => absurd h List.not_mem_nil⟩⟩⟩⟩⟩⟩
def tX1_cutsToLay_0 : List (Nat × hyE) := [(0, .iconst 0, 1, 0, 0, 0, 0, 0, none, []),
  (1, .istore 4, 3, 4, 0, 0, 0, 0, none, []),
  (3, .iconst 0, 4, 0, 0, 0, 0, 0, none, []),
  (4, .istore 5, 6, 5, 0, 0, 0, 0, none, []),
  (6, .iload 5, 8, 5, 0, 0, 0, 0, none, []),
  (8, .aload_n 0, 9, 0, 0, 0, 0, 0, none, []),
  (9, .getfield 40, 12, 1, 9, 0, 0, 0, none, []),
  (12, .if_icmp .ge 61, 15, 73, 0, 0, 0, 0, none, []),
  (15, .iload_n 1, 16, 1, 0, 0, 0, 0, none, [])]
theorem oX1_cutsToLay_0 : ∀ q ∈ tX1_cutsToLay_0, hy_ok mX1_cutsToLay q.1 q.2 = true := by decide +kernel
def tX1_cutsToLay_1 : List (Nat × hyE) := [(16, .aload_n 0, 17, 0, 0, 0, 0, 0, none, []),
  (17, .getfield 21, 20, 1, 3, 0, 0, 0, none, []),
  (20, .iload 5, 22, 5, 0, 0, 0, 0, none, []),
  (22, .iaload, 23, 0, 0, 0, 0, 0, none, []),
  (23, .ishr, 24, 0, 0, 0, 0, 0, none, []),
  (24, .iconst 1, 25, 0, 0, 0, 0, 1, none, []),
  (25, .iand, 26, 0, 0, 0, 0, 0, none, []),
  (26, .ifCond .eq 41, 29, 67, 0, 0, 0, 0, none, []),
  (29, .iload 5, 31, 5, 0, 0, 0, 0, none, []),
  (31, .iload_n 3, 32, 3, 0, 0, 0, 0, none, [])]
theorem oX1_cutsToLay_1 : ∀ q ∈ tX1_cutsToLay_1, hy_ok mX1_cutsToLay q.1 q.2 = true := by decide +kernel
def tX1_cutsToLay_2 : List (Nat × hyE) := [(32, .if_icmp .lt 17, 35, 49, 0, 0, 0, 0, none, []),
  (35, .iload 4, 37, 4, 0, 0, 0, 0, none, []),
  (37, .iconst 1, 38, 0, 0, 0, 0, 1, none, []),
  (38, .iload 5, 40, 5, 0, 0, 0, 0, none, []),
  (40, .iload_n 3, 41, 3, 0, 0, 0, 0, none, []),
  (41, .isub, 42, 0, 0, 0, 0, 0, none, []),
  (42, .ishl, 43, 0, 0, 0, 0, 0, none, []),
  (43, .ior, 44, 0, 0, 0, 0, 0, none, []),
  (44, .istore 4, 46, 4, 0, 0, 0, 0, none, []),
  (46, .goto 21, 49, 67, 0, 0, 0, 0, none, [])]
theorem oX1_cutsToLay_2 : ∀ q ∈ tX1_cutsToLay_2, hy_ok mX1_cutsToLay q.1 q.2 = true := by decide +kernel
def tX1_cutsToLay_3 : List (Nat × hyE) := [(49, .aload_n 0, 50, 0, 0, 0, 0, 0, none, []),
  (50, .getfield 15, 53, 1, 1, 0, 0, 0, none, []),
  (53, .aload_n 0, 54, 0, 0, 0, 0, 0, none, []),
  (54, .getfield 24, 57, 1, 4, 0, 0, 0, none, []),
  (57, .iload 5, 59, 5, 0, 0, 0, 0, none, []),
  (59, .iaload, 60, 0, 0, 0, 0, 0, none, []),
  (60, .iaload, 61, 0, 0, 0, 0, 0, none, []),
  (61, .iload_n 2, 62, 2, 0, 0, 0, 0, none, []),
  (62, .if_icmp .eq 5, 65, 67, 0, 0, 0, 0, none, [])]
theorem oX1_cutsToLay_3 : ∀ q ∈ tX1_cutsToLay_3, hy_ok mX1_cutsToLay q.1 q.2 = true := by decide +kernel
def tX1_cutsToLay_4 : List (Nat × hyE) := [(65, .iconst (-1), 66, 0, 0, 0, 0, (-1), none, []),
  (66, .ireturn, 67, 0, 0, 0, 0, 0, none, []),
  (67, .iinc 5 1, 70, 5, 0, 0, 0, 1, none, []),
  (70, .goto (-64), 73, 6, 0, 0, 0, 0, none, []),
  (73, .iload 4, 75, 4, 0, 0, 0, 0, none, []),
  (75, .ireturn, 76, 0, 0, 0, 0, 0, none, [])]
theorem oX1_cutsToLay_4 : ∀ q ∈ tX1_cutsToLay_4, hy_ok mX1_cutsToLay q.1 q.2 = true := by decide +kernel
def tX1_cutsToLay : hyT := [tX1_cutsToLay_0, tX1_cutsToLay_1, tX1_cutsToLay_2, tX1_cutsToLay_3, tX1_cutsToLay_4]
theorem oX1_cutsToLay : hy_tok mX1_cutsToLay tX1_cutsToLay := List.forall_mem_cons.mpr ⟨oX1_cutsToLay_0, List.forall_mem_cons.mpr ⟨oX1_cutsToLay_1, List.forall_mem_cons.mpr ⟨oX1_cutsToLay_2, List.forall_mem_cons.mpr ⟨oX1_cutsToLay_3, List.forall_mem_cons.mpr ⟨oX1_cutsToLay_4, fun _ h => absurd h List.not_mem_nil⟩⟩⟩⟩⟩
def tX5_init_0 : List (Nat × hyE) := [(0, .aload_n 0, 1, 0, 0, 0, 0, 0, none, []),
  (1, .invokespecial 1, 4, 0, 0, 0, 0, 0, none, []),
  (4, .aload_n 0, 5, 0, 0, 0, 0, 0, none, []),
  (5, .new 7, 8, 2, 11, 0, 0, 0, none, []),
  (8, .dup, 9, 0, 0, 0, 0, 0, none, []),
  (9, .invokespecial 9, 12, 0, 0, 0, 0, 0, (some mX2_init), []),
  (12, .putfield 10, 15, 5, 0, 2, 0, 0, none, []),
  (15, .aload_n 0, 16, 0, 0, 0, 0, 0, none, [])]
theorem oX5_init_0 : ∀ q ∈ tX5_init_0, hy_ok mX5_init q.1 q.2 = true := by decide +kernel
def tX5_init_1 : List (Nat × hyE) := [(16, .new 16, 19, 0, 3, 0, 0, 0, none, []),
  (19, .dup, 20, 0, 0, 0, 0, 0, none, []),
  (20, .invokespecial 18, 23, 0, 0, 1, 0, 0, (some mX0_init), []),
  (23, .putfield 19, 26, 5, 1, 2, 0, 0, none, []),
  (26, .aload_n 0, 27, 0, 0, 0, 0, 0, none, []),
  (27, .new 23, 30, 4, 10, 0, 0, 0, none, []),
  (30, .dup, 31, 0, 0, 0, 0, 0, none, []),
  (31, .invokespecial 25, 34, 0, 0, 1, 0, 0, (some mX4_init), [])]
theorem oX5_init_1 : ∀ q ∈ tX5_init_1, hy_ok mX5_init q.1 q.2 = true := by decide +kernel
def tX5_init_2 : List (Nat × hyE) := [(34, .putfield 26, 37, 5, 2, 2, 0, 0, none, []),
  (37, .aload_n 0, 38, 0, 0, 0, 0, 0, none, []),
  (38, .new 30, 41, 1, 12, 0, 0, 0, none, []),
  (41, .dup, 42, 0, 0, 0, 0, 0, none, []),
  (42, .invokespecial 32, 45, 0, 0, 1, 0, 0, (some mX1_init), []),
  (45, .putfield 33, 48, 5, 3, 2, 0, 0, none, [])]
theorem oX5_init_2 : ∀ q ∈ tX5_init_2, hy_ok mX5_init q.1 q.2 = true := by decide +kernel
def tX5_init_3 : List (Nat × hyE) := [(48, .aload_n 0, 49, 0, 0, 0, 0, 0, none, []),
  (49, .new 37, 52, 3, 3, 0, 0, 0, none, []),
  (52, .dup, 53, 0, 0, 0, 0, 0, none, []),
  (53, .invokespecial 39, 56, 0, 0, 1, 0, 0, (some mX3_init), []),
  (56, .putfield 40, 59, 5, 4, 2, 0, 0, none, []),
  (59, .return_, 60, 0, 0, 0, 0, 0, none, [])]
theorem oX5_init_3 : ∀ q ∈ tX5_init_3, hy_ok mX5_init q.1 q.2 = true := by decide +kernel
def tX5_init : hyT := [tX5_init_0, tX5_init_1, tX5_init_2, tX5_init_3]
theorem oX5_init : hy_tok mX5_init tX5_init := List.forall_mem_cons.mpr ⟨oX5_init_0, List.forall_mem_cons.mpr ⟨oX5_init_1, List.forall_mem_cons.mpr ⟨oX5_init_2, List.forall_mem_cons.mpr ⟨oX5_init_3, fun _ h => absurd h List.not_mem_nil⟩⟩⟩⟩
def tX5_salt_0 : List (Nat × hyE) := [(0, .aload_n 0, 1, 0, 0, 0, 0, 0, none, []),
  (1, .getfield 10, 4, 5, 0, 0, 0, 0, none, []),
  (4, .iload_n 1, 5, 1, 0, 0, 0, 0, none, []),
  (5, .iload_n 2, 6, 2, 0, 0, 0, 0, none, []),
  (6, .invokevirtual 44, 9, 0, 2, 0, 2, 0, (some mX2_setSalt), []),
  (9, .ireturn, 10, 0, 0, 0, 0, 0, none, [])]
theorem oX5_salt_0 : ∀ q ∈ tX5_salt_0, hy_ok mX5_salt q.1 q.2 = true := by decide +kernel
def tX5_salt : hyT := [tX5_salt_0]
theorem oX5_salt : hy_tok mX5_salt tX5_salt := List.forall_mem_cons.mpr ⟨oX5_salt_0, fun _ h => absurd h List.not_mem_nil⟩
def tX5_ripens_0 : List (Nat × hyE) := [(0, .aload_n 0, 1, 0, 0, 0, 0, 0, none, []),
  (1, .getfield 10, 4, 5, 0, 0, 0, 0, none, []),
  (4, .iload_n 1, 5, 1, 0, 0, 0, 0, none, []),
  (5, .iload_n 2, 6, 2, 0, 0, 0, 0, none, []),
  (6, .invokevirtual 48, 9, 0, 2, 0, 2, 0, (some mX2_setRipens), []),
  (9, .ireturn, 10, 0, 0, 0, 0, 0, none, [])]
theorem oX5_ripens_0 : ∀ q ∈ tX5_ripens_0, hy_ok mX5_ripens q.1 q.2 = true := by decide +kernel
def tX5_ripens : hyT := [tX5_ripens_0]
theorem oX5_ripens : hy_tok mX5_ripens tX5_ripens := List.forall_mem_cons.mpr ⟨oX5_ripens_0, fun _ h => absurd h List.not_mem_nil⟩
def tX5_net_0 : List (Nat × hyE) := [(0, .aload_n 0, 1, 0, 0, 0, 0, 0, none, []),
  (1, .getfield 10, 4, 5, 0, 0, 0, 0, none, []),
  (4, .iload_n 1, 5, 1, 0, 0, 0, 0, none, []),
  (5, .iload_n 2, 6, 2, 0, 0, 0, 0, none, []),
  (6, .iload_n 3, 7, 3, 0, 0, 0, 0, none, []),
  (7, .iload 4, 9, 4, 0, 0, 0, 0, none, []),
  (9, .invokevirtual 51, 12, 0, 4, 0, 2, 0, (some mX2_putIn), []),
  (12, .ireturn, 13, 0, 0, 0, 0, 0, none, [])]
theorem oX5_net_0 : ∀ q ∈ tX5_net_0, hy_ok mX5_net q.1 q.2 = true := by decide +kernel
def tX5_net : hyT := [tX5_net_0]
theorem oX5_net : hy_tok mX5_net tX5_net := List.forall_mem_cons.mpr ⟨oX5_net_0, fun _ h => absurd h List.not_mem_nil⟩
def tX5_weeks_0 : List (Nat × hyE) := [(0, .aload_n 0, 1, 0, 0, 0, 0, 0, none, []),
  (1, .getfield 10, 4, 5, 0, 0, 0, 0, none, []),
  (4, .iload_n 1, 5, 1, 0, 0, 0, 0, none, []),
  (5, .invokevirtual 55, 8, 0, 1, 0, 2, 0, (some mX2_goBy), []),
  (8, .ireturn, 9, 0, 0, 0, 0, 0, none, [])]
theorem oX5_weeks_0 : ∀ q ∈ tX5_weeks_0, hy_ok mX5_weeks q.1 q.2 = true := by decide +kernel
def tX5_weeks : hyT := [tX5_weeks_0]
theorem oX5_weeks : hy_tok mX5_weeks tX5_weeks := List.forall_mem_cons.mpr ⟨oX5_weeks_0, fun _ h => absurd h List.not_mem_nil⟩
def tX5_pull_0 : List (Nat × hyE) := [(0, .aload_n 0, 1, 0, 0, 0, 0, 0, none, []),
  (1, .getfield 10, 4, 5, 0, 0, 0, 0, none, []),
  (4, .iload_n 1, 5, 1, 0, 0, 0, 0, none, []),
  (5, .invokevirtual 59, 8, 0, 1, 0, 2, 0, (some mX2_takeOut), []),
  (8, .ireturn, 9, 0, 0, 0, 0, 0, none, [])]
theorem oX5_pull_0 : ∀ q ∈ tX5_pull_0, hy_ok mX5_pull q.1 q.2 = true := by decide +kernel
def tX5_pull : hyT := [tX5_pull_0]
theorem oX5_pull : hy_tok mX5_pull tX5_pull := List.forall_mem_cons.mpr ⟨oX5_pull_0, fun _ h => absurd h List.not_mem_nil⟩
def tX5_flood_0 : List (Nat × hyE) := [(0, .aload_n 0, 1, 0, 0, 0, 0, 0, none, []),
  (1, .getfield 10, 4, 5, 0, 0, 0, 0, none, []),
  (4, .iload_n 1, 5, 1, 0, 0, 0, 0, none, []),
  (5, .invokevirtual 62, 8, 0, 1, 0, 2, 0, (some mX2_floatOff), []),
  (8, .ireturn, 9, 0, 0, 0, 0, 0, none, [])]
theorem oX5_flood_0 : ∀ q ∈ tX5_flood_0, hy_ok mX5_flood q.1 q.2 = true := by decide +kernel
def tX5_flood : hyT := [tX5_flood_0]
theorem oX5_flood : hy_tok mX5_flood tX5_flood := List.forall_mem_cons.mpr ⟨oX5_flood_0, fun _ h => absurd h List.not_mem_nil⟩
def tX5_find_0 : List (Nat × hyE) := [(0, .iload_n 1, 1, 1, 0, 0, 0, 0, none, []),
  (1, .invokestatic 65, 4, 10, 1, 0, 0, 0, (some mX5_isMarks), []),
  (4, .ifCond .eq 16, 7, 20, 0, 0, 0, 0, none, []),
  (7, .iload_n 2, 8, 2, 0, 0, 0, 0, none, []),
  (8, .invokestatic 65, 11, 10, 1, 0, 0, 0, (some mX5_isMarks), []),
  (11, .ifCond .eq 9, 14, 20, 0, 0, 0, 0, none, []),
  (14, .iload_n 1, 15, 1, 0, 0, 0, 0, none, []),
  (15, .iload_n 2, 16, 2, 0, 0, 0, 0, none, [])]
theorem oX5_find_0 : ∀ q ∈ tX5_find_0, hy_ok mX5_find q.1 q.2 = true := by decide +kernel
def tX5_find_1 : List (Nat × hyE) := [(16, .iand, 17, 0, 0, 0, 0, 0, none, []),
  (17, .ifCond .eq 5, 20, 22, 0, 0, 0, 0, none, []),
  (20, .iconst (-1), 21, 0, 0, 0, 0, (-1), none, []),
  (21, .ireturn, 22, 0, 0, 0, 0, 0, none, []),
  (22, .aload_n 0, 23, 0, 0, 0, 0, 0, none, []),
  (23, .getfield 19, 26, 5, 1, 0, 0, 0, none, []),
  (26, .aload_n 0, 27, 0, 0, 0, 0, 0, none, []),
  (27, .getfield 10, 30, 5, 0, 0, 0, 0, none, []),
  (30, .iload_n 1, 31, 1, 0, 0, 0, 0, none, []),
  (31, .iload_n 2, 32, 2, 0, 0, 0, 0, none, [])]
theorem oX5_find_1 : ∀ q ∈ tX5_find_1, hy_ok mX5_find q.1 q.2 = true := by decide +kernel
def tX5_find_2 : List (Nat × hyE) := [(32, .invokevirtual 69, 35, 0, 2, 0, 2, 0, (some mX2_afloatWith), []),
  (35, .invokevirtual 73, 38, 0, 1, 0, 0, 0, (some mX0_tell), []),
  (38, .istore_n 3, 39, 3, 0, 0, 0, 0, none, []),
  (39, .iload_n 3, 40, 3, 0, 0, 0, 0, none, []),
  (40, .iconst (-1), 41, 0, 0, 0, 0, (-1), none, []),
  (41, .if_icmp .eq 7, 44, 48, 0, 0, 0, 0, none, []),
  (44, .aload_n 0, 45, 0, 0, 0, 0, 0, none, []),
  (45, .invokevirtual 76, 48, 0, 0, 0, 5, 0, (some mX5_bringBackTheSure), [])]
theorem oX5_find_2 : ∀ q ∈ tX5_find_2, hy_ok mX5_find q.1 q.2 = true := by decide +kernel
def tX5_find_3 : List (Nat × hyE) := [(48, .iload_n 3, 49, 3, 0, 0, 0, 0, none, []),
  (49, .ireturn, 50, 0, 0, 0, 0, 0, none, [])]
theorem oX5_find_3 : ∀ q ∈ tX5_find_3, hy_ok mX5_find q.1 q.2 = true := by decide +kernel
def tX5_find : hyT := [tX5_find_0, tX5_find_1, tX5_find_2, tX5_find_3]
theorem oX5_find : hy_tok mX5_find tX5_find := List.forall_mem_cons.mpr ⟨oX5_find_0, List.forall_mem_cons.mpr ⟨oX5_find_1, List.forall_mem_cons.mpr ⟨oX5_find_2, List.forall_mem_cons.mpr ⟨oX5_find_3, fun _ h => absurd h List.not_mem_nil⟩⟩⟩⟩
def tX5_found_0 : List (Nat × hyE) := [(0, .iload_n 2, 1, 2, 0, 0, 0, 0, none, []),
  (1, .lookupswitch 45 #[(0, 27), (1, 36)], 28, 46, 0, 27, 0, 0, none, [(0, 28), (1, 37)])]
theorem oX5_found_0 : ∀ q ∈ tX5_found_0, hy_ok mX5_found q.1 q.2 = true := by decide +kernel
def tX5_found_1 : List (Nat × hyE) := [(28, .aload_n 0, 29, 0, 0, 0, 0, 0, none, []),
  (29, .getfield 19, 32, 5, 1, 0, 0, 0, none, [])]
theorem oX5_found_1 : ∀ q ∈ tX5_found_1, hy_ok mX5_found q.1 q.2 = true := by decide +kernel
def tX5_found_2 : List (Nat × hyE) := [(32, .iload_n 1, 33, 1, 0, 0, 0, 0, none, []),
  (33, .invokevirtual 79, 36, 0, 1, 0, 0, 0, (some mX0_howManyFit), []),
  (36, .ireturn, 37, 0, 0, 0, 0, 0, none, []),
  (37, .aload_n 0, 38, 0, 0, 0, 0, 0, none, []),
  (38, .getfield 19, 41, 5, 1, 0, 0, 0, none, []),
  (41, .iload_n 1, 42, 1, 0, 0, 0, 0, none, []),
  (42, .invokevirtual 82, 45, 0, 1, 0, 0, 0, (some mX0_sureNet), []),
  (45, .ireturn, 46, 0, 0, 0, 0, 0, none, []),
  (46, .iconst (-1), 47, 0, 0, 0, 0, (-1), none, []),
  (47, .ireturn, 48, 0, 0, 0, 0, 0, none, [])]
theorem oX5_found_2 : ∀ q ∈ tX5_found_2, hy_ok mX5_found q.1 q.2 = true := by decide +kernel
def tX5_found : hyT := [tX5_found_0, tX5_found_1, tX5_found_2]
theorem oX5_found : hy_tok mX5_found tX5_found := List.forall_mem_cons.mpr ⟨oX5_found_0, List.forall_mem_cons.mpr ⟨oX5_found_1, List.forall_mem_cons.mpr ⟨oX5_found_2, fun _ h => absurd h List.not_mem_nil⟩⟩⟩
def tX5_netOf_0 : List (Nat × hyE) := [(0, .iload_n 2, 1, 2, 0, 0, 0, 0, none, []),
  (1, .bipush 6, 3, 0, 0, 0, 0, 6, none, []),
  (3, .if_icmp .ne 14, 6, 17, 0, 0, 0, 0, none, []),
  (6, .aload_n 0, 7, 0, 0, 0, 0, 0, none, []),
  (7, .getfield 19, 10, 5, 1, 0, 0, 0, none, []),
  (10, .iload_n 1, 11, 1, 0, 0, 0, 0, none, []),
  (11, .invokevirtual 85, 14, 0, 1, 0, 0, 0, (some mX0_sureFind), []),
  (14, .goto 12, 17, 26, 0, 0, 0, 0, none, [])]
theorem oX5_netOf_0 : ∀ q ∈ tX5_netOf_0, hy_ok mX5_netOf q.1 q.2 = true := by decide +kernel
def tX5_netOf_1 : List (Nat × hyE) := [(17, .aload_n 0, 18, 0, 0, 0, 0, 0, none, []),
  (18, .getfield 10, 21, 5, 0, 0, 0, 0, none, []),
  (21, .iload_n 1, 22, 1, 0, 0, 0, 0, none, []),
  (22, .iload_n 2, 23, 2, 0, 0, 0, 0, none, []),
  (23, .invokevirtual 88, 26, 0, 2, 0, 2, 0, (some mX2_tellOf), []),
  (26, .ireturn, 27, 0, 0, 0, 0, 0, none, [])]
theorem oX5_netOf_1 : ∀ q ∈ tX5_netOf_1, hy_ok mX5_netOf q.1 q.2 = true := by decide +kernel
def tX5_netOf : hyT := [tX5_netOf_0, tX5_netOf_1]
theorem oX5_netOf : hy_tok mX5_netOf tX5_netOf := List.forall_mem_cons.mpr ⟨oX5_netOf_0, List.forall_mem_cons.mpr ⟨oX5_netOf_1, fun _ h => absurd h List.not_mem_nil⟩⟩
def tX5_order_0 : List (Nat × hyE) := [(0, .aload_n 0, 1, 0, 0, 0, 0, 0, none, []),
  (1, .getfield 26, 4, 5, 2, 0, 0, 0, none, []),
  (4, .iload_n 1, 5, 1, 0, 0, 0, 0, none, []),
  (5, .iload_n 2, 6, 2, 0, 0, 0, 0, none, []),
  (6, .iload_n 3, 7, 3, 0, 0, 0, 0, none, []),
  (7, .iload 4, 9, 4, 0, 0, 0, 0, none, []),
  (9, .invokevirtual 91, 12, 0, 4, 0, 4, 0, (some mX4_take), []),
  (12, .ireturn, 13, 0, 0, 0, 0, 0, none, [])]
theorem oX5_order_0 : ∀ q ∈ tX5_order_0, hy_ok mX5_order q.1 q.2 = true := by decide +kernel
def tX5_order : hyT := [tX5_order_0]
theorem oX5_order : hy_tok mX5_order tX5_order := List.forall_mem_cons.mpr ⟨oX5_order_0, fun _ h => absurd h List.not_mem_nil⟩
def tX5_change_0 : List (Nat × hyE) := [(0, .aload_n 0, 1, 0, 0, 0, 0, 0, none, []),
  (1, .getfield 26, 4, 5, 2, 0, 0, 0, none, []),
  (4, .iload_n 1, 5, 1, 0, 0, 0, 0, none, []),
  (5, .invokevirtual 94, 8, 0, 1, 0, 4, 0, (some mX4_setChange), []),
  (8, .ireturn, 9, 0, 0, 0, 0, 0, none, [])]
theorem oX5_change_0 : ∀ q ∈ tX5_change_0, hy_ok mX5_change q.1 q.2 = true := by decide +kernel
def tX5_change : hyT := [tX5_change_0]
theorem oX5_change : hy_tok mX5_change tX5_change := List.forall_mem_cons.mpr ⟨oX5_change_0, fun _ h => absurd h List.not_mem_nil⟩
def tX5_late_0 : List (Nat × hyE) := [(0, .aload_n 0, 1, 0, 0, 0, 0, 0, none, []),
  (1, .getfield 26, 4, 5, 2, 0, 0, 0, none, []),
  (4, .invokevirtual 97, 7, 0, 0, 0, 4, 0, (some mX4_leastLate), []),
  (7, .ireturn, 8, 0, 0, 0, 0, 0, none, [])]
theorem oX5_late_0 : ∀ q ∈ tX5_late_0, hy_ok mX5_late q.1 q.2 = true := by decide +kernel
def tX5_late : hyT := [tX5_late_0]
theorem oX5_late : hy_tok mX5_late tX5_late := List.forall_mem_cons.mpr ⟨oX5_late_0, fun _ h => absurd h List.not_mem_nil⟩
def tX5_spun_0 : List (Nat × hyE) := [(0, .iload_n 2, 1, 2, 0, 0, 0, 0, none, []),
  (1, .lookupswitch 45 #[(0, 27), (1, 36)], 28, 46, 0, 27, 0, 0, none, [(0, 28), (1, 37)])]
theorem oX5_spun_0 : ∀ q ∈ tX5_spun_0, hy_ok mX5_spun q.1 q.2 = true := by decide +kernel
def tX5_spun_1 : List (Nat × hyE) := [(28, .aload_n 0, 29, 0, 0, 0, 0, 0, none, []),
  (29, .getfield 26, 32, 5, 2, 0, 0, 0, none, [])]
theorem oX5_spun_1 : ∀ q ∈ tX5_spun_1, hy_ok mX5_spun q.1 q.2 = true := by decide +kernel
def tX5_spun_2 : List (Nat × hyE) := [(32, .iload_n 1, 33, 1, 0, 0, 0, 0, none, []),
  (33, .invokevirtual 101, 36, 0, 1, 0, 4, 0, (some mX4_orderAt), []),
  (36, .ireturn, 37, 0, 0, 0, 0, 0, none, []),
  (37, .aload_n 0, 38, 0, 0, 0, 0, 0, none, []),
  (38, .getfield 26, 41, 5, 2, 0, 0, 0, none, []),
  (41, .iload_n 1, 42, 1, 0, 0, 0, 0, none, []),
  (42, .invokevirtual 104, 45, 0, 1, 0, 4, 0, (some mX4_endAt), []),
  (45, .ireturn, 46, 0, 0, 0, 0, 0, none, []),
  (46, .iconst (-1), 47, 0, 0, 0, 0, (-1), none, []),
  (47, .ireturn, 48, 0, 0, 0, 0, 0, none, [])]
theorem oX5_spun_2 : ∀ q ∈ tX5_spun_2, hy_ok mX5_spun q.1 q.2 = true := by decide +kernel
def tX5_spun : hyT := [tX5_spun_0, tX5_spun_1, tX5_spun_2]
theorem oX5_spun : hy_tok mX5_spun tX5_spun := List.forall_mem_cons.mpr ⟨oX5_spun_0, List.forall_mem_cons.mpr ⟨oX5_spun_1, List.forall_mem_cons.mpr ⟨oX5_spun_2, fun _ h => absurd h List.not_mem_nil⟩⟩⟩
def tX5_clear_0 : List (Nat × hyE) := [(0, .aload_n 0, 1, 0, 0, 0, 0, 0, none, []),
  (1, .getfield 26, 4, 5, 2, 0, 0, 0, none, []),
  (4, .invokevirtual 107, 7, 0, 0, 0, 4, 0, (some mX4_dropOrders), []),
  (7, .ireturn, 8, 0, 0, 0, 0, 0, none, [])]
theorem oX5_clear_0 : ∀ q ∈ tX5_clear_0, hy_ok mX5_clear q.1 q.2 = true := by decide +kernel
def tX5_clear : hyT := [tX5_clear_0]
theorem oX5_clear : hy_tok mX5_clear tX5_clear := List.forall_mem_cons.mpr ⟨oX5_clear_0, fun _ h => absurd h List.not_mem_nil⟩
def tX5_roll_0 : List (Nat × hyE) := [(0, .aload_n 0, 1, 0, 0, 0, 0, 0, none, []),
  (1, .getfield 33, 4, 5, 3, 0, 0, 0, none, []),
  (4, .iload_n 1, 5, 1, 0, 0, 0, 0, none, []),
  (5, .iload_n 2, 6, 2, 0, 0, 0, 0, none, []),
  (6, .invokevirtual 110, 9, 0, 2, 0, 1, 0, (some mX1_addRoll), []),
  (9, .ireturn, 10, 0, 0, 0, 0, 0, none, [])]
theorem oX5_roll_0 : ∀ q ∈ tX5_roll_0, hy_ok mX5_roll q.1 q.2 = true := by decide +kernel
def tX5_roll : hyT := [tX5_roll_0]
theorem oX5_roll : hy_tok mX5_roll tX5_roll := List.forall_mem_cons.mpr ⟨oX5_roll_0, fun _ h => absurd h List.not_mem_nil⟩
def tX5_cut_0 : List (Nat × hyE) := [(0, .aload_n 0, 1, 0, 0, 0, 0, 0, none, []),
  (1, .getfield 33, 4, 5, 3, 0, 0, 0, none, []),
  (4, .iload_n 1, 5, 1, 0, 0, 0, 0, none, []),
  (5, .iload_n 2, 6, 2, 0, 0, 0, 0, none, []),
  (6, .invokevirtual 113, 9, 0, 2, 0, 1, 0, (some mX1_addCut), []),
  (9, .ireturn, 10, 0, 0, 0, 0, 0, none, [])]
theorem oX5_cut_0 : ∀ q ∈ tX5_cut_0, hy_ok mX5_cut q.1 q.2 = true := by decide +kernel
def tX5_cut : hyT := [tX5_cut_0]
theorem oX5_cut : hy_tok mX5_cut tX5_cut := List.forall_mem_cons.mpr ⟨oX5_cut_0, fun _ h => absurd h List.not_mem_nil⟩
def tX5_opened_0 : List (Nat × hyE) := [(0, .aload_n 0, 1, 0, 0, 0, 0, 0, none, []),
  (1, .getfield 33, 4, 5, 3, 0, 0, 0, none, []),
  (4, .invokevirtual 116, 7, 0, 0, 0, 1, 0, (some mX1_leastOpened), []),
  (7, .ireturn, 8, 0, 0, 0, 0, 0, none, [])]
theorem oX5_opened_0 : ∀ q ∈ tX5_opened_0, hy_ok mX5_opened q.1 q.2 = true := by decide +kernel
def tX5_opened : hyT := [tX5_opened_0]
theorem oX5_opened : hy_tok mX5_opened tX5_opened := List.forall_mem_cons.mpr ⟨oX5_opened_0, fun _ h => absurd h List.not_mem_nil⟩
def tX5_from_0 : List (Nat × hyE) := [(0, .aload_n 0, 1, 0, 0, 0, 0, 0, none, []),
  (1, .getfield 33, 4, 5, 3, 0, 0, 0, none, []),
  (4, .iload_n 1, 5, 1, 0, 0, 0, 0, none, []),
  (5, .invokevirtual 119, 8, 0, 1, 0, 1, 0, (some mX1_rollUnder), []),
  (8, .ireturn, 9, 0, 0, 0, 0, 0, none, [])]
theorem oX5_from_0 : ∀ q ∈ tX5_from_0, hy_ok mX5_from q.1 q.2 = true := by decide +kernel
def tX5_from : hyT := [tX5_from_0]
theorem oX5_from : hy_tok mX5_from tX5_from := List.forall_mem_cons.mpr ⟨oX5_from_0, fun _ h => absurd h List.not_mem_nil⟩
def tX5_away_0 : List (Nat × hyE) := [(0, .aload_n 0, 1, 0, 0, 0, 0, 0, none, []),
  (1, .getfield 33, 4, 5, 3, 0, 0, 0, none, []),
  (4, .invokevirtual 122, 7, 0, 0, 0, 1, 0, (some mX1_dropAll), []),
  (7, .ireturn, 8, 0, 0, 0, 0, 0, none, [])]
theorem oX5_away_0 : ∀ q ∈ tX5_away_0, hy_ok mX5_away q.1 q.2 = true := by decide +kernel
def tX5_away : hyT := [tX5_away_0]
theorem oX5_away : hy_tok mX5_away tX5_away := List.forall_mem_cons.mpr ⟨oX5_away_0, fun _ h => absurd h List.not_mem_nil⟩
def tX5_reading_0 : List (Nat × hyE) := [(0, .aload_n 0, 1, 0, 0, 0, 0, 0, none, []),
  (1, .getfield 40, 4, 5, 4, 0, 0, 0, none, []),
  (4, .iload_n 1, 5, 1, 0, 0, 0, 0, none, []),
  (5, .iload_n 2, 6, 2, 0, 0, 0, 0, none, []),
  (6, .invokevirtual 125, 9, 0, 2, 0, 3, 0, (some mX3_tell), []),
  (9, .ireturn, 10, 0, 0, 0, 0, 0, none, [])]
theorem oX5_reading_0 : ∀ q ∈ tX5_reading_0, hy_ok mX5_reading q.1 q.2 = true := by decide +kernel
def tX5_reading : hyT := [tX5_reading_0]
theorem oX5_reading : hy_tok mX5_reading tX5_reading := List.forall_mem_cons.mpr ⟨oX5_reading_0, fun _ h => absurd h List.not_mem_nil⟩
def tX5_errs_0 : List (Nat × hyE) := [(0, .aload_n 0, 1, 0, 0, 0, 0, 0, none, []),
  (1, .getfield 40, 4, 5, 4, 0, 0, 0, none, []),
  (4, .iload_n 1, 5, 1, 0, 0, 0, 0, none, []),
  (5, .invokevirtual 127, 8, 0, 1, 0, 3, 0, (some mX3_bound), []),
  (8, .ireturn, 9, 0, 0, 0, 0, 0, none, [])]
theorem oX5_errs_0 : ∀ q ∈ tX5_errs_0, hy_ok mX5_errs q.1 q.2 = true := by decide +kernel
def tX5_errs : hyT := [tX5_errs_0]
theorem oX5_errs : hy_tok mX5_errs tX5_errs := List.forall_mem_cons.mpr ⟨oX5_errs_0, fun _ h => absurd h List.not_mem_nil⟩
def tX5_back_0 : List (Nat × hyE) := [(0, .aload_n 0, 1, 0, 0, 0, 0, 0, none, []),
  (1, .getfield 40, 4, 5, 4, 0, 0, 0, none, []),
  (4, .iload_n 1, 5, 1, 0, 0, 0, 0, none, []),
  (5, .iload_n 2, 6, 2, 0, 0, 0, 0, none, []),
  (6, .invokevirtual 131, 9, 0, 2, 0, 3, 0, (some mX3_weightFor), []),
  (9, .ireturn, 10, 0, 0, 0, 0, 0, none, [])]
theorem oX5_back_0 : ∀ q ∈ tX5_back_0, hy_ok mX5_back q.1 q.2 = true := by decide +kernel
def tX5_back : hyT := [tX5_back_0]
theorem oX5_back : hy_tok mX5_back tX5_back := List.forall_mem_cons.mpr ⟨oX5_back_0, fun _ h => absurd h List.not_mem_nil⟩
def tX5_about_0 : List (Nat × hyE) := [(0, .iload_n 1, 1, 1, 0, 0, 0, 0, none, []),
  (1, .tableswitch 137 0 9 #[55, 63, 71, 79, 87, 95, 103, 111, 119, 128], 56, 138, 0, 55, 0, 0, none, [(0, 56), (1, 64), (2, 72), (3, 80), (4, 88), (5, 96), (6, 104), (7, 112), (8, 120), (9, 129)])]
theorem oX5_about_0 : ∀ q ∈ tX5_about_0, hy_ok mX5_about q.1 q.2 = true := by decide +kernel
def tX5_about_1 : List (Nat × hyE) := []
theorem oX5_about_1 : ∀ q ∈ tX5_about_1, hy_ok mX5_about q.1 q.2 = true := by decide +kernel
def tX5_about_2 : List (Nat × hyE) := []
theorem oX5_about_2 : ∀ q ∈ tX5_about_2, hy_ok mX5_about q.1 q.2 = true := by decide +kernel
def tX5_about_3 : List (Nat × hyE) := [(56, .aload_n 0, 57, 0, 0, 0, 0, 0, none, []),
  (57, .getfield 10, 60, 5, 0, 0, 0, 0, none, []),
  (60, .invokevirtual 135, 63, 0, 0, 0, 2, 0, (some mX2_clock), []),
  (63, .ireturn, 64, 0, 0, 0, 0, 0, none, [])]
theorem oX5_about_3 : ∀ q ∈ tX5_about_3, hy_ok mX5_about q.1 q.2 = true := by decide +kernel
def tX5_about_4 : List (Nat × hyE) := [(64, .aload_n 0, 65, 0, 0, 0, 0, 0, none, []),
  (65, .getfield 10, 68, 5, 0, 0, 0, 0, none, []),
  (68, .invokevirtual 138, 71, 0, 0, 0, 2, 0, (some mX2_count), []),
  (71, .ireturn, 72, 0, 0, 0, 0, 0, none, []),
  (72, .aload_n 0, 73, 0, 0, 0, 0, 0, none, []),
  (73, .getfield 19, 76, 5, 1, 0, 0, 0, none, []),
  (76, .invokevirtual 141, 79, 0, 0, 0, 0, 0, (some mX0_count), []),
  (79, .ireturn, 80, 0, 0, 0, 0, 0, none, [])]
theorem oX5_about_4 : ∀ q ∈ tX5_about_4, hy_ok mX5_about q.1 q.2 = true := by decide +kernel
def tX5_about_5 : List (Nat × hyE) := [(80, .aload_n 0, 81, 0, 0, 0, 0, 0, none, []),
  (81, .getfield 26, 84, 5, 2, 0, 0, 0, none, []),
  (84, .invokevirtual 142, 87, 0, 0, 0, 4, 0, (some mX4_count), []),
  (87, .ireturn, 88, 0, 0, 0, 0, 0, none, []),
  (88, .aload_n 0, 89, 0, 0, 0, 0, 0, none, []),
  (89, .getfield 33, 92, 5, 3, 0, 0, 0, none, []),
  (92, .invokevirtual 143, 95, 0, 0, 0, 1, 0, (some mX1_rollCount), []),
  (95, .ireturn, 96, 0, 0, 0, 0, 0, none, [])]
theorem oX5_about_5 : ∀ q ∈ tX5_about_5, hy_ok mX5_about q.1 q.2 = true := by decide +kernel
def tX5_about_6 : List (Nat × hyE) := [(96, .aload_n 0, 97, 0, 0, 0, 0, 0, none, []),
  (97, .getfield 33, 100, 5, 3, 0, 0, 0, none, []),
  (100, .invokevirtual 146, 103, 0, 0, 0, 1, 0, (some mX1_cutCount), []),
  (103, .ireturn, 104, 0, 0, 0, 0, 0, none, []),
  (104, .aload_n 0, 105, 0, 0, 0, 0, 0, none, []),
  (105, .getfield 40, 108, 5, 4, 0, 0, 0, none, []),
  (108, .invokevirtual 149, 111, 0, 0, 0, 3, 0, (some mX3_count), []),
  (111, .ireturn, 112, 0, 0, 0, 0, 0, none, [])]
theorem oX5_about_6 : ∀ q ∈ tX5_about_6, hy_ok mX5_about q.1 q.2 = true := by decide +kernel
def tX5_about_7 : List (Nat × hyE) := [(112, .aload_n 0, 113, 0, 0, 0, 0, 0, none, []),
  (113, .getfield 10, 116, 5, 0, 0, 0, 0, none, []),
  (116, .invokevirtual 150, 119, 0, 0, 0, 2, 0, (some mX2_huskTotal), []),
  (119, .ireturn, 120, 0, 0, 0, 0, 0, none, []),
  (120, .aload_n 0, 121, 0, 0, 0, 0, 0, none, []),
  (121, .getfield 10, 124, 5, 0, 0, 0, 0, none, []),
  (124, .iconst 2, 125, 0, 0, 0, 0, 2, none, []),
  (125, .invokevirtual 153, 128, 0, 1, 0, 2, 0, (some mX2_countIn), [])]
theorem oX5_about_7 : ∀ q ∈ tX5_about_7, hy_ok mX5_about q.1 q.2 = true := by decide +kernel
def tX5_about_8 : List (Nat × hyE) := [(128, .ireturn, 129, 0, 0, 0, 0, 0, none, []),
  (129, .aload_n 0, 130, 0, 0, 0, 0, 0, none, []),
  (130, .getfield 10, 133, 5, 0, 0, 0, 0, none, []),
  (133, .iconst 3, 134, 0, 0, 0, 0, 3, none, []),
  (134, .invokevirtual 153, 137, 0, 1, 0, 2, 0, (some mX2_countIn), []),
  (137, .ireturn, 138, 0, 0, 0, 0, 0, none, []),
  (138, .iconst (-1), 139, 0, 0, 0, 0, (-1), none, []),
  (139, .ireturn, 140, 0, 0, 0, 0, 0, none, [])]
theorem oX5_about_8 : ∀ q ∈ tX5_about_8, hy_ok mX5_about q.1 q.2 = true := by decide +kernel
def tX5_about : hyT := [tX5_about_0, tX5_about_1, tX5_about_2, tX5_about_3, tX5_about_4, tX5_about_5, tX5_about_6, tX5_about_7, tX5_about_8]
theorem oX5_about : hy_tok mX5_about tX5_about := List.forall_mem_cons.mpr ⟨oX5_about_0, List.forall_mem_cons.mpr ⟨oX5_about_1, List.forall_mem_cons.mpr ⟨oX5_about_2, List.forall_mem_cons.mpr ⟨oX5_about_3, List.forall_mem_cons.mpr ⟨oX5_about_4, List.forall_mem_cons.mpr ⟨oX5_about_5, List.forall_mem_cons.mpr ⟨oX5_about_6, List.forall_mem_cons.mpr ⟨oX5_about_7, List.forall_mem_cons.mpr ⟨oX5_about_8, fun _ h => absurd h List.not_mem_nil⟩⟩⟩⟩⟩⟩⟩⟩⟩
def tX5_bringBackTheSure_0 : List (Nat × hyE) := [(0, .iconst 0, 1, 0, 0, 0, 0, 0, none, []),
  (1, .istore_n 1, 2, 1, 0, 0, 0, 0, none, []),
  (2, .iload_n 1, 3, 1, 0, 0, 0, 0, none, []),
  (3, .aload_n 0, 4, 0, 0, 0, 0, 0, none, []),
  (4, .getfield 19, 7, 5, 1, 0, 0, 0, none, []),
  (7, .invokevirtual 141, 10, 0, 0, 0, 0, 0, (some mX0_count), []),
  (10, .if_icmp .ge 24, 13, 34, 0, 0, 0, 0, none, []),
  (13, .aload_n 0, 14, 0, 0, 0, 0, 0, none, []),
  (14, .getfield 10, 17, 5, 0, 0, 0, 0, none, [])]
theorem oX5_bringBackTheSure_0 : ∀ q ∈ tX5_bringBackTheSure_0, hy_ok mX5_bringBackTheSure q.1 q.2 = true := by decide +kernel
def tX5_bringBackTheSure_1 : List (Nat × hyE) := [(17, .aload_n 0, 18, 0, 0, 0, 0, 0, none, []),
  (18, .getfield 19, 21, 5, 1, 0, 0, 0, none, []),
  (21, .iload_n 1, 22, 1, 0, 0, 0, 0, none, []),
  (22, .invokevirtual 82, 25, 0, 1, 0, 0, 0, (some mX0_sureNet), []),
  (25, .invokevirtual 156, 28, 0, 1, 0, 2, 0, (some mX2_comeBack), []),
  (28, .iinc 1 1, 31, 1, 0, 0, 0, 1, none, []),
  (31, .goto (-29), 34, 2, 0, 0, 0, 0, none, [])]
theorem oX5_bringBackTheSure_1 : ∀ q ∈ tX5_bringBackTheSure_1, hy_ok mX5_bringBackTheSure q.1 q.2 = true := by decide +kernel
def tX5_bringBackTheSure_2 : List (Nat × hyE) := [(34, .return_, 35, 0, 0, 0, 0, 0, none, [])]
theorem oX5_bringBackTheSure_2 : ∀ q ∈ tX5_bringBackTheSure_2, hy_ok mX5_bringBackTheSure q.1 q.2 = true := by decide +kernel
def tX5_bringBackTheSure : hyT := [tX5_bringBackTheSure_0, tX5_bringBackTheSure_1, tX5_bringBackTheSure_2]
theorem oX5_bringBackTheSure : hy_tok mX5_bringBackTheSure tX5_bringBackTheSure := List.forall_mem_cons.mpr ⟨oX5_bringBackTheSure_0, List.forall_mem_cons.mpr ⟨oX5_bringBackTheSure_1, List.forall_mem_cons.mpr ⟨oX5_bringBackTheSure_2, fun _ h => absurd h List.not_mem_nil⟩⟩⟩
def tX5_isMarks_0 : List (Nat × hyE) := [(0, .iload_n 0, 1, 0, 0, 0, 0, 0, none, []),
  (1, .iconst 0, 2, 0, 0, 0, 0, 0, none, []),
  (2, .sipush 255, 5, 0, 0, 0, 0, 255, none, []),
  (5, .invokestatic 160, 8, 1, 3, 0, 0, 0, (some mX5_within), []),
  (8, .ireturn, 9, 0, 0, 0, 0, 0, none, [])]
theorem oX5_isMarks_0 : ∀ q ∈ tX5_isMarks_0, hy_ok mX5_isMarks q.1 q.2 = true := by decide +kernel
def tX5_isMarks : hyT := [tX5_isMarks_0]
theorem oX5_isMarks : hy_tok mX5_isMarks tX5_isMarks := List.forall_mem_cons.mpr ⟨oX5_isMarks_0, fun _ h => absurd h List.not_mem_nil⟩
