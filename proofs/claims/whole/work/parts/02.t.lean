theorem zz_good : lw_tbl.all goodWord = true := by decide +kernel
theorem zz_len : lw_tbl.length = 2500 := by decide +kernel
theorem zz_bad : (lw_tbl.filter (fun w => !goodWord w)).length = 0 := by decide +kernel
