/-! THROWS -/
def xnm : List String := ["java/lang/RuntimeException", "java/lang/Exception"]
def xnm3 : List String := ["java/lang/RuntimeException", "java/lang/Exception"]
theorem xthr_t0 : (vx_atS "ProjectPlanner" 91 (xEn 0) xnm).filter (fun w => !goodWord w) = [] := by decide +kernel
theorem xthr_o0 : (vx_atS "ProjectPlanner" 91 (xEn 0) xnm).all vx_ot = true := by decide +kernel
theorem xthr_a0 : (vx_atS "ProjectPlanner" 91 (xEn 0) xnm).all (fun w => xTb.contains w) = true := by decide +kernel
