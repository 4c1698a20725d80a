/-! quarter, cart, cell: they answer or throw; the law's own wrappers, which catch -/
abbrev ax_nse : String := "java/util/NoSuchElementException"
def ax_at : List Cond := vx_at0 RX10 148 ax_nse ["java/lang/RuntimeException", "java/lang/Exception"]
def ax_B : List Cond := [.castable ax_nse ax_nse, .declares (Bundle.init0 "java/lang/RuntimeException"), .declares (Bundle.init0 "java/lang/Exception"), .declares (Bundle.init0 "java/lang/Throwable")]
theorem ax_nb : ∀ w ∈ ax_at.filter (fun w => !goodWord w), w ∈ ax_B := by decide +kernel
theorem ax_gb : ∀ w ∈ ax_at.filter goodWord, w ∈ aw_TB := by decide +kernel
theorem ax_ot : ∀ w ∈ Cond.classLink RX10 146 ax_nse :: Cond.initialized ax_nse :: ax_at, vx_ot w = true := by decide +kernel
