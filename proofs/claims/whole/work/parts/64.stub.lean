/-! Placing calls. -/
theorem zstub64 : True := trivial
