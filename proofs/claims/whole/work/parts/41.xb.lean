/-! ===== the words of the three throws ===== -/
theorem bad_IA : ∀ w ∈ (vx_atS RX3 39 eIA eNm).filter (fun w => !goodWord w), w ∈ kBW := by decide +kernel
theorem bad_IS : ∀ w ∈ (vx_atS RX3 49 eIS eNm).filter (fun w => !goodWord w), w ∈ kBW := by decide +kernel
theorem bad_IB : ∀ w ∈ (vx_atS RX3 157 eIB eNm).filter (fun w => !goodWord w), w ∈ kBW := by decide +kernel
theorem ot_IA : ∀ w ∈ Cond.classLink RX3 35 eIA :: Cond.initialized eIA :: vx_atS RX3 39 eIA eNm, vx_ot w = true := by decide +kernel
theorem ot_IS : ∀ w ∈ Cond.classLink RX3 45 eIS :: Cond.initialized eIS :: vx_atS RX3 49 eIS eNm, vx_ot w = true := by decide +kernel
theorem ot_IB : ∀ w ∈ Cond.classLink RX3 153 eIB :: Cond.initialized eIB :: vx_atS RX3 157 eIB eNm, vx_ot w = true := by decide +kernel
