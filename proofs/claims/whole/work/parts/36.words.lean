/-! the throwers' words -/
def nse : String := "java/util/NoSuchElementException"
def chn : List String := ["java/lang/RuntimeException", "java/lang/Exception"]
def nsB : ByteArray := ⟨#[0x2a, 0x2b, 0xb7, 0x00, 0x0d, 0xb1]⟩
def exL : List Cond := Cond.classLink "LockLetters" 183 nse :: Cond.initialized nse :: hk_atS "LockLetters" 187 nse 13 nsB chn
theorem exL_in : ∀ w ∈ exL, w ∈ lw_tbl := by decide +kernel
theorem exL_ot : ∀ w ∈ exL, vx_ot w = true := by decide +kernel
theorem exL_bad : exL.filter (fun w => !goodWord w) = [.declares (Bundle.initS "java/lang/RuntimeException"), .declares (Bundle.initS "java/lang/Exception"), .declares (Bundle.initS Bundle.tN), .castable nse nse] := by decide +kernel
