set_option maxRecDepth 100000 in
theorem cpL12_0_ok : ∀ e ∈ cpL12_0, linkOK 12 e = true := by decide +kernel
set_option maxRecDepth 100000 in
theorem cpL12_1_ok : ∀ e ∈ cpL12_1, linkOK 12 e = true := by decide +kernel
set_option maxRecDepth 100000 in
theorem cpL13_0_ok : ∀ e ∈ cpL13_0, linkOK 13 e = true := by decide +kernel
set_option maxRecDepth 100000 in
theorem cpL13_1_ok : ∀ e ∈ cpL13_1, linkOK 13 e = true := by decide +kernel
set_option maxRecDepth 100000 in
theorem cpL13_2_ok : ∀ e ∈ cpL13_2, linkOK 13 e = true := by decide +kernel
set_option maxRecDepth 100000 in
theorem cpL1_0_ok : ∀ e ∈ cpL1_0, linkOK 1 e = true := by decide +kernel
set_option maxRecDepth 100000 in
theorem cpL3_0_ok : ∀ e ∈ cpL3_0, linkOK 3 e = true := by decide +kernel
set_option maxRecDepth 100000 in
theorem cpL4_0_ok : ∀ e ∈ cpL4_0, linkOK 4 e = true := by decide +kernel
set_option maxRecDepth 100000 in
theorem cpL5_0_ok : ∀ e ∈ cpL5_0, linkOK 5 e = true := by decide +kernel
set_option maxRecDepth 100000 in
theorem cpL6_0_ok : ∀ e ∈ cpL6_0, linkOK 6 e = true := by decide +kernel
set_option maxRecDepth 100000 in
theorem cpL7_0_ok : ∀ e ∈ cpL7_0, linkOK 7 e = true := by decide +kernel
set_option maxRecDepth 100000 in
theorem cpL8_0_ok : ∀ e ∈ cpL8_0, linkOK 8 e = true := by decide +kernel
set_option maxRecDepth 100000 in
theorem cpL9_0_ok : ∀ e ∈ cpL9_0, linkOK 9 e = true := by decide +kernel
set_option maxRecDepth 100000 in
theorem cpL10_0_ok : ∀ e ∈ cpL10_0, linkOK 10 e = true := by decide +kernel
set_option maxRecDepth 100000 in
theorem cpL11_0_ok : ∀ e ∈ cpL11_0, linkOK 11 e = true := by decide +kernel
set_option maxRecDepth 100000 in
theorem cpL14_0_ok : ∀ e ∈ cpL14_0, linkOK 14 e = true := by decide +kernel
set_option maxRecDepth 100000 in
theorem cpL14_1_ok : ∀ e ∈ cpL14_1, linkOK 14 e = true := by decide +kernel
set_option maxRecDepth 100000 in
theorem cpL15_0_ok : ∀ e ∈ cpL15_0, linkOK 15 e = true := by decide +kernel
theorem cpL12_ok : ∀ e ∈ cpL12, linkOK 12 e = true := fun e h => (List.mem_append.mp h).elim ((cpL12_0_ok) e) (cpL12_1_ok e)
theorem cpL13_ok : ∀ e ∈ cpL13, linkOK 13 e = true := fun e h => (List.mem_append.mp h).elim ((fun e h => (List.mem_append.mp h).elim ((cpL13_0_ok) e) (cpL13_1_ok e)) e) (cpL13_2_ok e)
theorem cpL1_ok : ∀ e ∈ cpL1, linkOK 1 e = true := cpL1_0_ok
theorem cpL3_ok : ∀ e ∈ cpL3, linkOK 3 e = true := cpL3_0_ok
theorem cpL4_ok : ∀ e ∈ cpL4, linkOK 4 e = true := cpL4_0_ok
theorem cpL5_ok : ∀ e ∈ cpL5, linkOK 5 e = true := cpL5_0_ok
theorem cpL6_ok : ∀ e ∈ cpL6, linkOK 6 e = true := cpL6_0_ok
theorem cpL7_ok : ∀ e ∈ cpL7, linkOK 7 e = true := cpL7_0_ok
theorem cpL8_ok : ∀ e ∈ cpL8, linkOK 8 e = true := cpL8_0_ok
theorem cpL9_ok : ∀ e ∈ cpL9, linkOK 9 e = true := cpL9_0_ok
theorem cpL10_ok : ∀ e ∈ cpL10, linkOK 10 e = true := cpL10_0_ok
theorem cpL11_ok : ∀ e ∈ cpL11, linkOK 11 e = true := cpL11_0_ok
theorem cpL14_ok : ∀ e ∈ cpL14, linkOK 14 e = true := fun e h => (List.mem_append.mp h).elim ((cpL14_0_ok) e) (cpL14_1_ok e)
theorem cpL15_ok : ∀ e ∈ cpL15, linkOK 15 e = true := cpL15_0_ok
theorem cpC_ok (c : Nat) : ∀ e ∈ cpC c, linkOK c e = true := by
  match c with
  | 0 => intro e h; cases h
  | 1 => exact cpL1_ok
  | 2 => intro e h; cases h
  | 3 => exact cpL3_ok
  | 4 => exact cpL4_ok
  | 5 => exact cpL5_ok
  | 6 => exact cpL6_ok
  | 7 => exact cpL7_ok
  | 8 => exact cpL8_ok
  | 9 => exact cpL9_ok
  | 10 => exact cpL10_ok
  | 11 => exact cpL11_ok
  | 12 => exact cpL12_ok
  | 13 => exact cpL13_ok
  | 14 => exact cpL14_ok
  | 15 => exact cpL15_ok
  | 16 => intro e h; cases h
  | n + 17 => intro e h; cases h
set_option maxRecDepth 100000 in
theorem mOK_0 : ∀ y ∈ (List.range 40).map (fun i => 0 + i), y ∉ yLaw → mOK y = true := by decide +kernel
set_option maxRecDepth 100000 in
theorem mOK_1 : ∀ y ∈ (List.range 40).map (fun i => 40 + i), y ∉ yLaw → mOK y = true := by decide +kernel
set_option maxRecDepth 100000 in
theorem mOK_2 : ∀ y ∈ (List.range 40).map (fun i => 80 + i), y ∉ yLaw → mOK y = true := by decide +kernel
set_option maxRecDepth 100000 in
theorem mOK_3 : ∀ y ∈ (List.range 40).map (fun i => 120 + i), y ∉ yLaw → mOK y = true := by decide +kernel
set_option maxRecDepth 100000 in
theorem mOK_4 : ∀ y ∈ (List.range 40).map (fun i => 160 + i), y ∉ yLaw → mOK y = true := by decide +kernel
set_option maxRecDepth 100000 in
theorem mOK_5 : ∀ y ∈ (List.range 40).map (fun i => 200 + i), y ∉ yLaw → mOK y = true := by decide +kernel
set_option maxRecDepth 100000 in
theorem mOK_6 : ∀ y ∈ (List.range 40).map (fun i => 240 + i), y ∉ yLaw → mOK y = true := by decide +kernel
set_option maxRecDepth 100000 in
theorem mOK_7 : ∀ y ∈ (List.range 1).map (fun i => 280 + i), y ∉ yLaw → mOK y = true := by decide +kernel
theorem mOK_all {y : Nat} (h : y < 281) (hl : y ∉ yLaw) : mOK y = true := by
  have key : ∀ k m, m ≤ y → y < m + k → y ∈ (List.range k).map (fun i => m + i) := fun k m h1 h2 => List.mem_map.mpr ⟨y - m, List.mem_range.mpr (by omega), by omega⟩
  rcases Nat.lt_or_ge y 40 with q | q
  · exact mOK_0 y (key 40 0 (by omega) (by omega)) hl
  rcases Nat.lt_or_ge y 80 with q | q
  · exact mOK_1 y (key 40 40 (by omega) (by omega)) hl
  rcases Nat.lt_or_ge y 120 with q | q
  · exact mOK_2 y (key 40 80 (by omega) (by omega)) hl
  rcases Nat.lt_or_ge y 160 with q | q
  · exact mOK_3 y (key 40 120 (by omega) (by omega)) hl
  rcases Nat.lt_or_ge y 200 with q | q
  · exact mOK_4 y (key 40 160 (by omega) (by omega)) hl
  rcases Nat.lt_or_ge y 240 with q | q
  · exact mOK_5 y (key 40 200 (by omega) (by omega)) hl
  rcases Nat.lt_or_ge y 280 with q | q
  · exact mOK_6 y (key 40 240 (by omega) (by omega)) hl
  exact mOK_7 y (key 1 280 (by omega) (by omega)) hl
