/-! ===== the constructors: their checks ===== -/
theorem kcw_0 : Cond.code yX10_init cX10_init 1 none ∈ gtb := List.mem_filter.mpr ⟨inT1 (List.mem_of_getElem? (i := 35) rfl), rfl⟩
theorem kcw_1 : Cond.code yX9_init cX9_init 2 none ∈ gtb := List.mem_filter.mpr ⟨inT1 (List.mem_of_getElem? (i := 89) rfl), rfl⟩
theorem kcw_2 : Cond.code yX3_init cX3_init 2 none ∈ gtb := List.mem_filter.mpr ⟨inT1 (List.mem_of_getElem? (i := 117) rfl), rfl⟩
theorem kcw_3 : Cond.code yX8_clear cX8_clear 1 none ∈ gtb := List.mem_filter.mpr ⟨inT1 (List.mem_of_getElem? (i := 141) rfl), rfl⟩
theorem kcw_4 : Cond.code yX8_init cX8_init 1 none ∈ gtb := List.mem_filter.mpr ⟨inT1 (List.mem_of_getElem? (i := 111) rfl), rfl⟩
theorem kcw_5 : Cond.code yX7_init cX7_init 1 none ∈ gtb := List.mem_filter.mpr ⟨inT2 (List.mem_of_getElem? (i := 13) rfl), rfl⟩
theorem kcw_6 : Cond.code yX7_begin cX7_begin 3 none ∈ gtb := List.mem_filter.mpr ⟨inT2 (List.mem_of_getElem? (i := 77) rfl), rfl⟩
theorem kcw_7 : Cond.code yX4_init cX4_init 2 none ∈ gtb := List.mem_filter.mpr ⟨inT2 (List.mem_of_getElem? (i := 82) rfl), rfl⟩
theorem kcw_8 : Cond.code yX6_init cX6_init 1 none ∈ gtb := List.mem_filter.mpr ⟨inT2 (List.mem_of_getElem? (i := 102) rfl), rfl⟩
theorem kcw_9 : Cond.code yX1_init cX1_init 1 none ∈ gtb := List.mem_filter.mpr ⟨inT2 (List.mem_of_getElem? (i := 130) rfl), rfl⟩
theorem kcw_10 : Cond.code yX5_init cX5_init 1 none ∈ gtb := List.mem_filter.mpr ⟨inT2 (List.mem_of_getElem? (i := 170) rfl), rfl⟩
theorem kcw_11 : Cond.code yX2_init cX2_init 1 none ∈ gtb := List.mem_filter.mpr ⟨inT2 (List.mem_of_getElem? (i := 214) rfl), rfl⟩
theorem kcw_12 : Cond.code yX12_init cX12_init 2 none ∈ gtb := List.mem_filter.mpr ⟨inT1 (List.mem_of_getElem? (i := 27) rfl), rfl⟩
theorem kcw_13 : Cond.code yX13_clears cX13_clears 2 none ∈ gtb := List.mem_filter.mpr ⟨inT6 (List.mem_of_getElem? (i := 179) rfl), rfl⟩
theorem kcw_14 : Cond.code yX13_init cX13_init 2 none ∈ gtb := List.mem_filter.mpr ⟨inT6 (List.mem_of_getElem? (i := 151) rfl), rfl⟩
theorem kcw : ∀ k, k < 15 → Cond.code (kN k) (kB k) (kM k) none ∈ gtb
  | 0, _ => kcw_0
  | 1, _ => kcw_1
  | 2, _ => kcw_2
  | 3, _ => kcw_3
  | 4, _ => kcw_4
  | 5, _ => kcw_5
  | 6, _ => kcw_6
  | 7, _ => kcw_7
  | 8, _ => kcw_8
  | 9, _ => kcw_9
  | 10, _ => kcw_10
  | 11, _ => kcw_11
  | 12, _ => kcw_12
  | 13, _ => kcw_13
  | 14, _ => kcw_14
  | k + 15, h => absurd h (by omega)
theorem kObjC : Cond.code Lib.objectInit ⟨#[0xb1]⟩ 1 none ∈ gtb := List.mem_filter.mpr ⟨inT1 (List.mem_of_getElem? (i := 30) rfl), rfl⟩
theorem kObjI : Cond.instanceMethod Lib.objectInit ∈ gtb := inP_gtb (p := 132) (by decide +kernel)
theorem kMaxS : Cond.static Lib.Math.max.name ∈ gtb := inP_gtb (p := 223) (by decide +kernel)
theorem kMaxN : Cond.initialized "java/lang/Math" ∈ gtb := inP_gtb (p := 109) (by decide +kernel)
theorem kMaxC : Cond.code Lib.Math.max.name Lib.Math.max.code 2 (some .int) ∈ gtb := List.mem_filter.mpr ⟨inT1 (List.mem_of_getElem? (i := 121) rfl), rfl⟩
def kokB (k : Nat) : Bool := inP ((kP k).getD 0 0) (.initialized (kN k).cls) && (inP ((kP k).getD 1 0) (.instanceMethod (kN k)) && (((kini k && decide ((kN k).name = "<init>")) || (!kini k && inP ((kP k).getD 2 0) (.selects (kN k).cls (kN k) (kN k)))) && (plainY (kN k) && (Nat.ble (kM k) 40 && (plainName (kN k).cls && (decide (Rn (kCn k) = (kN k).cls) && decide (hdP (kC k) = some 0)))))))
set_option maxRecDepth 100000 in
theorem kok : ∀ k, k < 15 → kokB k = true := by decide +kernel
set_option maxRecDepth 100000 in
theorem kchk : ∀ k, k < 15 → chkC (kB k) (kM k) (kCn k) (kini k) (kC k) = true := by decide +kernel
set_option maxRecDepth 100000 in
theorem kchkL : chkC code 7 14 false kLaw0 = true := by decide +kernel
set_option maxRecDepth 100000 in
theorem tyC_ok : ∀ ci, ci < 12 → ∀ k, k < (cq ci).2.2 → (((FT.getD ci []).getD k []).headD 9 = 0 → tyq ci k = .int) ∧ (2 ≤ ((FT.getD ci []).getD k []).headD 9 → ((FT.getD ci []).getD k []).headD 9 ≤ 4 → (tyq ci k).isReference = true) := by decide +kernel
