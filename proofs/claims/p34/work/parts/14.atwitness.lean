/-! ===== the refutation at the witness's own start ===== -/
theorem zspare : start1.about.hasRoom start1.e0.platform zRw = true := launch0.hasRoom_least _ zRw (by decide +kernel) (by decide +kernel) (by decide +kernel) (by decide +kernel) (by decide +kernel) (by decide +kernel)
/-- the first limb is false, and so is what is owed -/
theorem znot_1_1 : ¬ Claimed_1_1 := znot (l := launch0) rfl start1.atStart zspare
theorem znot_vc : ¬ (Claimed_1_1 ∧ Claimed_1_2) := fun h => znot_1_1 h.1
