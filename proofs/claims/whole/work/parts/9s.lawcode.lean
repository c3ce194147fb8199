/-! the law's three that catch: codes -/
def k_Law_house : List Op := [(0, .aload_n 3, []), (1, .iconst 0, []), (2, .aload_n 0, []), (3, .iload_n 1, []), (4, .iload_n 2, []), (5, .nop, []), (5, .invokevirtual 7, [1, 5, 2, 1, 11]), (8, .nop, []), (8, .i2l, []), (9, .lastore, []), (10, .goto 7, [17]), (13, .astore 4, []), (15, .nop, []), (15, .iconst 1, []), (16, .ireturn, []), (17, .iconst 0, []), (18, .ireturn, [])]
set_option maxRecDepth 100000 in
theorem ok_Law_house : chkT false 275 14 k_Law_house = true := by decide +kernel
def k_Law_plan : List Op := [(0, .aload_n 3, []), (1, .iconst 0, []), (2, .aload_n 0, []), (3, .iload_n 1, []), (4, .iload_n 2, []), (5, .nop, []), (5, .invokevirtual 15, [1, 16, 2, 1, 11]), (8, .nop, []), (8, .i2l, []), (9, .lastore, []), (10, .goto 7, [17]), (13, .astore 4, []), (15, .nop, []), (15, .iconst 1, []), (16, .ireturn, []), (17, .iconst 0, []), (18, .ireturn, [])]
set_option maxRecDepth 100000 in
theorem ok_Law_plan : chkT false 276 14 k_Law_plan = true := by decide +kernel
def k_Law_sure : List Op := [(0, .aload 4, []), (2, .iconst 0, []), (3, .aload_n 0, []), (4, .iload_n 1, []), (5, .iload_n 2, []), (6, .iload_n 3, []), (7, .nop, []), (7, .invokevirtual 18, [1, 18, 3, 1, 11]), (10, .nop, []), (10, .i2l, []), (11, .lastore, []), (12, .goto 7, [19]), (15, .astore 5, []), (17, .nop, []), (17, .iconst 1, []), (18, .ireturn, []), (19, .iconst 0, []), (20, .ireturn, [])]
set_option maxRecDepth 100000 in
theorem ok_Law_sure : chkT false 277 14 k_Law_sure = true := by decide +kernel
theorem lawM : mOK 5 = true ∧ mOK 16 = true ∧ mOK 18 = true := ⟨mOK_all (by decide) (by decide), mOK_all (by decide) (by decide), mOK_all (by decide) (by decide)⟩
theorem law_nm : yN 275 = ⟨"BagsRiverLaw", "house", "(LBagsRiver;II[J)I"⟩ ∧ yM 275 = 5 ∧ yR 275 = some .int ∧ Rn 14 = "BagsRiverLaw" := ⟨rfl, rfl, rfl, rfl⟩
