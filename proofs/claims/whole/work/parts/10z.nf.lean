theorem nf_In_51 : ("SeriesArchive$Input", 51, "SeriesArchive$Kind", "ALL", "[LSeriesArchive$Kind;", "SeriesArchive") ∈ zz_nestF := by decide +kernel
theorem nf_In_55 : ("SeriesArchive$Input", 55, "SeriesArchive$Kind", "shape", "Ljava/lang/String;", "SeriesArchive") ∈ zz_nestF := by decide +kernel
