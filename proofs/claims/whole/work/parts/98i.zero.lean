/-! ===== PURE: the start: rows of nothing ===== -/
theorem ini4 : iniB (fun μ => okZ μ (43, 1498)) = true := by decide +kernel
theorem ini5 : iniB (fun μ => okZ μ (12, 1280)) = true := by decide +kernel
