theorem ml_SA_298 : Cond.methodLink "SeriesArchive" 298 y_SB_setLength ∈ zz_good := zz_c6 54 (by decide +kernel) rfl
theorem ml_SA_302 : Cond.methodLink "SeriesArchive" 302 y_SA_writeSeparated ∈ zz_good := zz_c7 67 (by decide +kernel) rfl
