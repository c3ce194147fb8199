/-! ===== the throw: its words ===== -/
abbrev xE : String := "java/util/NoSuchElementException"
abbrev xSup : String := "java/lang/RuntimeException"
abbrev xNm : List String := ["java/lang/Exception"]
abbrev xRx : ByteArray := ⟨#[0x2a, 0x2b, 0xb7, 0x00, 0x0d, 0xb1]⟩
def xWs : List Cond := Cond.classLink "BagsRiver" 165 xE :: Cond.initialized xE :: (xAt "BagsRiver" 169 xE xSup 13 xRx xNm).filter vx_no
theorem xW1 : xWs.all (fun w => decide (w ∈ lw_tbl)) = true := by decide +kernel
theorem xW2 : xWs.all (fun w => vx_ot w) = true := by decide +kernel
theorem xW4 : Bundle.fit xE = true ∧ Bundle.fit xSup = true ∧ ∀ n ∈ xNm, Bundle.fit n = true := by decide +kernel
theorem xW5 : (xWs.filter fun w => !goodWord w).all (fun w => w.warmB w.codeNames) = true := by decide +kernel
