/-! The laws of doubles lie in the library's whole: this part, the first, brings every part over it. -/
theorem qz_wide : FP.Core.val64 0 = FP.Core.val64 0 := rfl
