/-! ===== the start: what the Statement gives ===== -/
def flatA (c : Cond) (acc : List Cond) : List Cond := match c with
  | .and a b => flatA a (flatA b acc)
  | c => c :: acc
theorem flatA_mem : ∀ (c : Cond) (acc : List Cond) (w : Cond), w ∈ flatA c acc → w ∈ flatC c ∨ w ∈ acc := by
  intro c
  induction c with
  | and a b iha ihb =>
    intro acc w h
    rcases iha _ _ h with q | q
    · exact Or.inl (List.mem_append_left _ q)
    · rcases ihb _ _ q with z | z
      · exact Or.inl (List.mem_append_right _ z)
      · exact Or.inr z
  | _ => intro acc w h; exact (List.mem_cons.mp h).imp (fun e => by rw [e]; exact List.mem_singleton_self _) id
def nwL : List Cond := flatA (Jvm.Cond.and given_1 narrow_1) []
theorem nwL_ok {args : Array Value} {s : State} (h : (Jvm.Cond.and given_1 narrow_1).before args s = true) : ∀ w ∈ nwL, w.before args s = true := fun w hw => flat_of_before _ h w ((flatA_mem _ _ _ hw).resolve_right (by simp))
def peT : List Nat := [210, 228, 58, 247, 267, 288, 310, 333, 357, 61, 65, 70, 76, 191, 175, 83, 91, 100, 110, 121, 133, 146, 160]
def rkE : List Nat := [15, 16, 0, 17, 18, 19, 20, 21, 22, 1, 2, 3, 4, 14, 13, 5, 6, 7, 8, 9, 10, 11, 12]
def laT : List Nat := [2111, 2112, 756, 2113, 2114, 2115, 2116, 2117, 2118, 1140, 1142, 1144, 1146, 1259, 1257, 1223, 1225, 1227, 1230, 1232, 1234, 1236, 1238]
def inT : List Nat := [470, 554, 217, 422, 510, 442, 353, 211, 189, 135, 127, 1445]
abbrev stE (i : Nat) : Term := .static RX11 (wordN.getD i "") "LBagsRiver$Word;"
abbrev stA : Term := .static RX11 "ALL" "[LBagsRiver$Word;"
abbrev stS : Term := .static RX0 "$SwitchMap$BagsRiver$Word" "[I"
def ndP (i j : Nat) : Nat := if rkE.getD i 0 < rkE.getD j 0 then peT.getD j 0 + 3 + rkE.getD i 0 else peT.getD i 0 + 3 + rkE.getD j 0
set_option maxRecDepth 100000 in
theorem enA : ∀ i, i < 23 → nwL[peT.getD i 0]? = some (.exactly (stE i) RX11) ∧ nwL[peT.getD i 0 + 1]? = some (.eq (.field (stE i) "java/lang/Enum" "ordinal" "I") (.int (I i))) ∧ nwL[peT.getD i 0 + 2]? = some (.eq (.field (stE i) RX11 "packed" "J") (.long (pkTab i))) ∧ lw_tbl[laT.getD i 0]? = some (.laysStatic RX11 (wordN.getD i "") "LBagsRiver$Word;") := by decide +kernel
set_option maxRecDepth 100000 in
theorem enD : ∀ i, i < 23 → ∀ j, j < 23 → i ≠ j → nwL[ndP i j]? = some (.not (.eq (stE i) (stE j))) ∨ nwL[ndP i j]? = some (.not (.eq (stE j) (stE i))) := by decide +kernel
set_option maxRecDepth 100000 in
theorem enT : nwL[6]? = some (.arrayOf stA (.object RX11)) ∧ nwL[7]? = some (.eq (.length stA) (.int 23)) ∧ (∀ j, j < 23 → nwL[9 + j]? = some (.eq (.elem stA (.int (Int32.ofNat j))) (stE j))) ∧ nwL[33]? = some (.arrayOf stS .int) ∧ nwL[34]? = some (.eq (.length stS) (.int 23)) ∧ (∀ j, j < 23 → nwL[35 + j]? = some (.eq (.elem stS (.int (Int32.ofNat j))) (.int (I (swTab j))))) ∧ lw_tbl[689]? = some (.laysStatic RX11 "ALL" "[LBagsRiver$Word;") ∧ lw_tbl[707]? = some (.laysStatic RX0 "$SwitchMap$BagsRiver$Word" "[I") ∧ lw_tbl[118]? = some (.initialized RX11) ∧ lw_tbl[119]? = some (.initialized RX0) := by decide +kernel
set_option maxRecDepth 100000 in
theorem enX : nwL[208]? = some (.isRef (.static Bundle.tN "UNASSIGNED_STACK" Bundle.steD)) ∧ nwL[209]? = some (.isRef (.static Bundle.tN "SUPPRESSED_SENTINEL" Bundle.listD)) ∧ nwL[440]? = some (.exactly (.string "BagsRiver" 167) "java/lang/String") ∧ nwL[488]? = some (.exactly (.string "BagsRiver" 310) "java/lang/String") ∧ nwL[549]? = some (.exactly (.string "BagsRiver" 328) "java/lang/String") ∧ lw_tbl[1351]? = some (.laysStatic Bundle.tN "UNASSIGNED_STACK" Bundle.steD) ∧ lw_tbl[1353]? = some (.laysStatic Bundle.tN "SUPPRESSED_SENTINEL" Bundle.listD) ∧ lw_tbl[120]? = some (.initialized Bundle.tN) ∧ lw_tbl[1363]? = some (.stringRef "BagsRiver" 167 xT1) ∧ lw_tbl[1397]? = some (.stringRef "BagsRiver" 310 xT2) ∧ lw_tbl[1433]? = some (.stringRef "BagsRiver" 328 xT3) := by decide +kernel
set_option maxRecDepth 100000 in
theorem enK : (∀ ci, ci < 12 → lw_tbl[inT.getD ci 0]? = some (.instantiable (cq ci).1 (cq ci).2.2)) ∧ lw_tbl[187]? = some (.arrayClass .int) ∧ lw_tbl[240]? = some (.arrayClass .long) ∧ lw_tbl[1389]? = some (.arrayClass .byte) ∧ lw_tbl[1646]? = some (.arrayClass .boolean) ∧ lw_tbl[448]? = some (.arrayOver (.object RX11)) ∧ lw_tbl[428]? = some (.arrayOver (.object RX7)) ∧ lw_tbl[553]? = some (.arrayOver (.object RX2)) ∧ lw_tbl[516]? = some wMul := by decide +kernel
set_option maxRecDepth 100000 in
theorem enN : (∀ q ∈ nestC, (Cond.methodLinkNest (Rn q.1) q.2.1 q.2.2 RX12) ∈ lw_tbl) ∧ ∀ q ∈ nestQ, (Cond.methodLinkNest (Rn q.1) q.2.1 (yN q.2.2) RX12) ∈ lw_tbl := by decide +kernel
