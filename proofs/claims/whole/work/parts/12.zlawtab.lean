theorem lw_len : K_Lw.length = 1087 ∧ B_Lw.length = 1087 := by decide +kernel
theorem tab_Lw : Tab 10 code K_Lw B_Lw := by
  refine ⟨lw_len.1.trans lw_len.2.symm, fun j i b hC hB => ?_⟩
  have hl : j < 1087 := by have := (List.getElem?_eq_some_iff.mp hB).1; rw [lw_len.2] at this; exact this
  by_cases h60 : j < 60
  · exact chkT_at lw_chk0 j i b (by omega) h60 hC hB
  by_cases h120 : j < 120
  · exact chkT_at lw_chk60 j i b (by omega) h120 hC hB
  by_cases h180 : j < 180
  · exact chkT_at lw_chk120 j i b (by omega) h180 hC hB
  by_cases h240 : j < 240
  · exact chkT_at lw_chk180 j i b (by omega) h240 hC hB
  by_cases h300 : j < 300
  · exact chkT_at lw_chk240 j i b (by omega) h300 hC hB
  by_cases h360 : j < 360
  · exact chkT_at lw_chk300 j i b (by omega) h360 hC hB
  by_cases h420 : j < 420
  · exact chkT_at lw_chk360 j i b (by omega) h420 hC hB
  by_cases h480 : j < 480
  · exact chkT_at lw_chk420 j i b (by omega) h480 hC hB
  by_cases h540 : j < 540
  · exact chkT_at lw_chk480 j i b (by omega) h540 hC hB
  by_cases h600 : j < 600
  · exact chkT_at lw_chk540 j i b (by omega) h600 hC hB
  by_cases h660 : j < 660
  · exact chkT_at lw_chk600 j i b (by omega) h660 hC hB
  by_cases h720 : j < 720
  · exact chkT_at lw_chk660 j i b (by omega) h720 hC hB
  by_cases h780 : j < 780
  · exact chkT_at lw_chk720 j i b (by omega) h780 hC hB
  by_cases h840 : j < 840
  · exact chkT_at lw_chk780 j i b (by omega) h840 hC hB
  by_cases h900 : j < 900
  · exact chkT_at lw_chk840 j i b (by omega) h900 hC hB
  by_cases h960 : j < 960
  · exact chkT_at lw_chk900 j i b (by omega) h960 hC hB
  by_cases h1020 : j < 1020
  · exact chkT_at lw_chk960 j i b (by omega) h1020 hC hB
  by_cases h1080 : j < 1080
  · exact chkT_at lw_chk1020 j i b (by omega) h1080 hC hB
  exact chkT_at lw_chk1080 j i b (by omega) (by omega) hC hB
