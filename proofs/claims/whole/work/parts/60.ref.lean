/-! THE REFERENCE: where an office's rows lie (by wip/whole/gen60.py) -/
def of_L : List (Nat × Nat × Nat × Nat) := [(13003, 1, 1000, 100), (13004, 2, 1000, 100), (13005, 3, 1000, 100), (13007, 4, 1000, 60), (13008, 5, 1000, 60), (13009, 6, 1000, 60), (13011, 7, 1000, 200), (13012, 8, 1000, 200), (13013, 9, 1000, 200), (13014, 10, 1000, 200), (13016, 11, 1000, 300), (13017, 12, 1000, 300), (13018, 13, 1001, 300), (13019, 14, 1000, 300), (13021, 15, 1000, 150), (13022, 16, 1000, 150), (13023, 17, 1000, 150), (13025, 18, 1000, 150), (13026, 19, 1000, 150), (13027, 20, 1000, 151), (13028, 21, 1000, 4560), (13029, 22, 1000, 4560), (13030, 23, 1000, 4560), (13032, 24, 1000, 30400), (13033, 25, 1000, 30400), (13034, 26, 1000, 30400), (13036, 27, 1000, 200), (13037, 28, 1000, 200), (13038, 29, 1000, 200), (13039, 30, 1000, 200), (13040, 31, 1000, 200), (13041, 32, 1003, 200), (13042, 33, 1000, 1200), (13043, 34, 1001, 1200), (13044, 35, 1001, 1200), (13046, 36, 1000, 100), (13047, 37, 1000, 100), (13048, 38, 1000, 100), (13049, 39, 1000, 100), (13050, 40, 1000, 100), (13051, 41, 1000, 100), (13052, 42, 1000, 4000), (13053, 43, 1000, 4000), (13054, 44, 1000, 4000), (13055, 45, 1000, 4000), (13056, 46, 1000, 4000), (13057, 47, 1000, 4000), (13058, 48, 1001, 4000), (13059, 49, 1001, 4000), (13064, 50, 1000, 60), (13065, 51, 1001, 360), (13066, 52, 1002, 450000), (13080, 53, 1003, 6), (13081, 54, 1001, 6), (13082, 55, 1001, 6), (13083, 56, 1000, 6), (13085, 57, 1000, 100), (13086, 58, 1001, 100), (13087, 59, 1003, 100), (13088, 60, 1000, 100), (13089, 61, 1001, 6), (13090, 62, 1000, 400)]
def OffK (σ : am_S) (o : Nat) : Prop := (o = 1063 ∨ o = 1126) ∧ am_kd σ o = (14, 0) ∧ am_fR σ 13099 o = some 1053 ∧ ∀ q ∈ of_L, am_fR σ q.1 o = some (o + q.2.1) ∧ am_kd σ (o + q.2.1) = (q.2.2.1, q.2.2.2)
section
variable {σ : am_S} {o : Nat} {i : Int32}
theorem oR_13003 (h : OffK σ o) : am_fR σ 13003 o = some (o + 1) := (h.2.2.2 (13003, 1, 1000, 100) (by decide)).1
theorem oK_13003 (h : OffK σ o) : am_kd σ (o + 1) = (1000, 100) := (h.2.2.2 (13003, 1, 1000, 100) (by decide)).2
theorem oG_13003 (h : OffK σ o) : (am_fR σ 13003 o).getD 0 = o + 1 := by rw [oR_13003 h]; rfl
theorem oA_13003 (h : OffK σ o) (h0 : 0 ≤ i.toInt) (h1 : i.toInt < 100) : am_ar σ 1000 (am_fR σ 13003 o) i := by rw [oR_13003 h]; exact ar_mk (oK_13003 h) h0 (by omega)
theorem oR_13004 (h : OffK σ o) : am_fR σ 13004 o = some (o + 2) := (h.2.2.2 (13004, 2, 1000, 100) (by decide)).1
theorem oK_13004 (h : OffK σ o) : am_kd σ (o + 2) = (1000, 100) := (h.2.2.2 (13004, 2, 1000, 100) (by decide)).2
theorem oG_13004 (h : OffK σ o) : (am_fR σ 13004 o).getD 0 = o + 2 := by rw [oR_13004 h]; rfl
theorem oA_13004 (h : OffK σ o) (h0 : 0 ≤ i.toInt) (h1 : i.toInt < 100) : am_ar σ 1000 (am_fR σ 13004 o) i := by rw [oR_13004 h]; exact ar_mk (oK_13004 h) h0 (by omega)
theorem oR_13005 (h : OffK σ o) : am_fR σ 13005 o = some (o + 3) := (h.2.2.2 (13005, 3, 1000, 100) (by decide)).1
theorem oK_13005 (h : OffK σ o) : am_kd σ (o + 3) = (1000, 100) := (h.2.2.2 (13005, 3, 1000, 100) (by decide)).2
theorem oG_13005 (h : OffK σ o) : (am_fR σ 13005 o).getD 0 = o + 3 := by rw [oR_13005 h]; rfl
theorem oA_13005 (h : OffK σ o) (h0 : 0 ≤ i.toInt) (h1 : i.toInt < 100) : am_ar σ 1000 (am_fR σ 13005 o) i := by rw [oR_13005 h]; exact ar_mk (oK_13005 h) h0 (by omega)
theorem oR_13007 (h : OffK σ o) : am_fR σ 13007 o = some (o + 4) := (h.2.2.2 (13007, 4, 1000, 60) (by decide)).1
theorem oK_13007 (h : OffK σ o) : am_kd σ (o + 4) = (1000, 60) := (h.2.2.2 (13007, 4, 1000, 60) (by decide)).2
theorem oG_13007 (h : OffK σ o) : (am_fR σ 13007 o).getD 0 = o + 4 := by rw [oR_13007 h]; rfl
theorem oA_13007 (h : OffK σ o) (h0 : 0 ≤ i.toInt) (h1 : i.toInt < 60) : am_ar σ 1000 (am_fR σ 13007 o) i := by rw [oR_13007 h]; exact ar_mk (oK_13007 h) h0 (by omega)
theorem oR_13008 (h : OffK σ o) : am_fR σ 13008 o = some (o + 5) := (h.2.2.2 (13008, 5, 1000, 60) (by decide)).1
theorem oK_13008 (h : OffK σ o) : am_kd σ (o + 5) = (1000, 60) := (h.2.2.2 (13008, 5, 1000, 60) (by decide)).2
theorem oG_13008 (h : OffK σ o) : (am_fR σ 13008 o).getD 0 = o + 5 := by rw [oR_13008 h]; rfl
theorem oA_13008 (h : OffK σ o) (h0 : 0 ≤ i.toInt) (h1 : i.toInt < 60) : am_ar σ 1000 (am_fR σ 13008 o) i := by rw [oR_13008 h]; exact ar_mk (oK_13008 h) h0 (by omega)
theorem oR_13009 (h : OffK σ o) : am_fR σ 13009 o = some (o + 6) := (h.2.2.2 (13009, 6, 1000, 60) (by decide)).1
theorem oK_13009 (h : OffK σ o) : am_kd σ (o + 6) = (1000, 60) := (h.2.2.2 (13009, 6, 1000, 60) (by decide)).2
theorem oG_13009 (h : OffK σ o) : (am_fR σ 13009 o).getD 0 = o + 6 := by rw [oR_13009 h]; rfl
theorem oA_13009 (h : OffK σ o) (h0 : 0 ≤ i.toInt) (h1 : i.toInt < 60) : am_ar σ 1000 (am_fR σ 13009 o) i := by rw [oR_13009 h]; exact ar_mk (oK_13009 h) h0 (by omega)
theorem oR_13011 (h : OffK σ o) : am_fR σ 13011 o = some (o + 7) := (h.2.2.2 (13011, 7, 1000, 200) (by decide)).1
theorem oK_13011 (h : OffK σ o) : am_kd σ (o + 7) = (1000, 200) := (h.2.2.2 (13011, 7, 1000, 200) (by decide)).2
theorem oG_13011 (h : OffK σ o) : (am_fR σ 13011 o).getD 0 = o + 7 := by rw [oR_13011 h]; rfl
theorem oA_13011 (h : OffK σ o) (h0 : 0 ≤ i.toInt) (h1 : i.toInt < 200) : am_ar σ 1000 (am_fR σ 13011 o) i := by rw [oR_13011 h]; exact ar_mk (oK_13011 h) h0 (by omega)
theorem oR_13012 (h : OffK σ o) : am_fR σ 13012 o = some (o + 8) := (h.2.2.2 (13012, 8, 1000, 200) (by decide)).1
theorem oK_13012 (h : OffK σ o) : am_kd σ (o + 8) = (1000, 200) := (h.2.2.2 (13012, 8, 1000, 200) (by decide)).2
theorem oG_13012 (h : OffK σ o) : (am_fR σ 13012 o).getD 0 = o + 8 := by rw [oR_13012 h]; rfl
theorem oA_13012 (h : OffK σ o) (h0 : 0 ≤ i.toInt) (h1 : i.toInt < 200) : am_ar σ 1000 (am_fR σ 13012 o) i := by rw [oR_13012 h]; exact ar_mk (oK_13012 h) h0 (by omega)
theorem oR_13013 (h : OffK σ o) : am_fR σ 13013 o = some (o + 9) := (h.2.2.2 (13013, 9, 1000, 200) (by decide)).1
theorem oK_13013 (h : OffK σ o) : am_kd σ (o + 9) = (1000, 200) := (h.2.2.2 (13013, 9, 1000, 200) (by decide)).2
theorem oG_13013 (h : OffK σ o) : (am_fR σ 13013 o).getD 0 = o + 9 := by rw [oR_13013 h]; rfl
theorem oA_13013 (h : OffK σ o) (h0 : 0 ≤ i.toInt) (h1 : i.toInt < 200) : am_ar σ 1000 (am_fR σ 13013 o) i := by rw [oR_13013 h]; exact ar_mk (oK_13013 h) h0 (by omega)
theorem oR_13014 (h : OffK σ o) : am_fR σ 13014 o = some (o + 10) := (h.2.2.2 (13014, 10, 1000, 200) (by decide)).1
theorem oK_13014 (h : OffK σ o) : am_kd σ (o + 10) = (1000, 200) := (h.2.2.2 (13014, 10, 1000, 200) (by decide)).2
theorem oG_13014 (h : OffK σ o) : (am_fR σ 13014 o).getD 0 = o + 10 := by rw [oR_13014 h]; rfl
theorem oA_13014 (h : OffK σ o) (h0 : 0 ≤ i.toInt) (h1 : i.toInt < 200) : am_ar σ 1000 (am_fR σ 13014 o) i := by rw [oR_13014 h]; exact ar_mk (oK_13014 h) h0 (by omega)
theorem oR_13016 (h : OffK σ o) : am_fR σ 13016 o = some (o + 11) := (h.2.2.2 (13016, 11, 1000, 300) (by decide)).1
theorem oK_13016 (h : OffK σ o) : am_kd σ (o + 11) = (1000, 300) := (h.2.2.2 (13016, 11, 1000, 300) (by decide)).2
theorem oG_13016 (h : OffK σ o) : (am_fR σ 13016 o).getD 0 = o + 11 := by rw [oR_13016 h]; rfl
theorem oA_13016 (h : OffK σ o) (h0 : 0 ≤ i.toInt) (h1 : i.toInt < 300) : am_ar σ 1000 (am_fR σ 13016 o) i := by rw [oR_13016 h]; exact ar_mk (oK_13016 h) h0 (by omega)
theorem oR_13017 (h : OffK σ o) : am_fR σ 13017 o = some (o + 12) := (h.2.2.2 (13017, 12, 1000, 300) (by decide)).1
theorem oK_13017 (h : OffK σ o) : am_kd σ (o + 12) = (1000, 300) := (h.2.2.2 (13017, 12, 1000, 300) (by decide)).2
theorem oG_13017 (h : OffK σ o) : (am_fR σ 13017 o).getD 0 = o + 12 := by rw [oR_13017 h]; rfl
theorem oA_13017 (h : OffK σ o) (h0 : 0 ≤ i.toInt) (h1 : i.toInt < 300) : am_ar σ 1000 (am_fR σ 13017 o) i := by rw [oR_13017 h]; exact ar_mk (oK_13017 h) h0 (by omega)
theorem oR_13018 (h : OffK σ o) : am_fR σ 13018 o = some (o + 13) := (h.2.2.2 (13018, 13, 1001, 300) (by decide)).1
theorem oK_13018 (h : OffK σ o) : am_kd σ (o + 13) = (1001, 300) := (h.2.2.2 (13018, 13, 1001, 300) (by decide)).2
theorem oG_13018 (h : OffK σ o) : (am_fR σ 13018 o).getD 0 = o + 13 := by rw [oR_13018 h]; rfl
theorem oA_13018 (h : OffK σ o) (h0 : 0 ≤ i.toInt) (h1 : i.toInt < 300) : am_ar σ 1001 (am_fR σ 13018 o) i := by rw [oR_13018 h]; exact ar_mk (oK_13018 h) h0 (by omega)
theorem oR_13019 (h : OffK σ o) : am_fR σ 13019 o = some (o + 14) := (h.2.2.2 (13019, 14, 1000, 300) (by decide)).1
theorem oK_13019 (h : OffK σ o) : am_kd σ (o + 14) = (1000, 300) := (h.2.2.2 (13019, 14, 1000, 300) (by decide)).2
theorem oG_13019 (h : OffK σ o) : (am_fR σ 13019 o).getD 0 = o + 14 := by rw [oR_13019 h]; rfl
theorem oA_13019 (h : OffK σ o) (h0 : 0 ≤ i.toInt) (h1 : i.toInt < 300) : am_ar σ 1000 (am_fR σ 13019 o) i := by rw [oR_13019 h]; exact ar_mk (oK_13019 h) h0 (by omega)
theorem oR_13021 (h : OffK σ o) : am_fR σ 13021 o = some (o + 15) := (h.2.2.2 (13021, 15, 1000, 150) (by decide)).1
theorem oK_13021 (h : OffK σ o) : am_kd σ (o + 15) = (1000, 150) := (h.2.2.2 (13021, 15, 1000, 150) (by decide)).2
theorem oG_13021 (h : OffK σ o) : (am_fR σ 13021 o).getD 0 = o + 15 := by rw [oR_13021 h]; rfl
theorem oA_13021 (h : OffK σ o) (h0 : 0 ≤ i.toInt) (h1 : i.toInt < 150) : am_ar σ 1000 (am_fR σ 13021 o) i := by rw [oR_13021 h]; exact ar_mk (oK_13021 h) h0 (by omega)
theorem oR_13022 (h : OffK σ o) : am_fR σ 13022 o = some (o + 16) := (h.2.2.2 (13022, 16, 1000, 150) (by decide)).1
theorem oK_13022 (h : OffK σ o) : am_kd σ (o + 16) = (1000, 150) := (h.2.2.2 (13022, 16, 1000, 150) (by decide)).2
theorem oG_13022 (h : OffK σ o) : (am_fR σ 13022 o).getD 0 = o + 16 := by rw [oR_13022 h]; rfl
theorem oA_13022 (h : OffK σ o) (h0 : 0 ≤ i.toInt) (h1 : i.toInt < 150) : am_ar σ 1000 (am_fR σ 13022 o) i := by rw [oR_13022 h]; exact ar_mk (oK_13022 h) h0 (by omega)
theorem oR_13023 (h : OffK σ o) : am_fR σ 13023 o = some (o + 17) := (h.2.2.2 (13023, 17, 1000, 150) (by decide)).1
theorem oK_13023 (h : OffK σ o) : am_kd σ (o + 17) = (1000, 150) := (h.2.2.2 (13023, 17, 1000, 150) (by decide)).2
theorem oG_13023 (h : OffK σ o) : (am_fR σ 13023 o).getD 0 = o + 17 := by rw [oR_13023 h]; rfl
theorem oA_13023 (h : OffK σ o) (h0 : 0 ≤ i.toInt) (h1 : i.toInt < 150) : am_ar σ 1000 (am_fR σ 13023 o) i := by rw [oR_13023 h]; exact ar_mk (oK_13023 h) h0 (by omega)
theorem oR_13025 (h : OffK σ o) : am_fR σ 13025 o = some (o + 18) := (h.2.2.2 (13025, 18, 1000, 150) (by decide)).1
theorem oK_13025 (h : OffK σ o) : am_kd σ (o + 18) = (1000, 150) := (h.2.2.2 (13025, 18, 1000, 150) (by decide)).2
theorem oG_13025 (h : OffK σ o) : (am_fR σ 13025 o).getD 0 = o + 18 := by rw [oR_13025 h]; rfl
theorem oA_13025 (h : OffK σ o) (h0 : 0 ≤ i.toInt) (h1 : i.toInt < 150) : am_ar σ 1000 (am_fR σ 13025 o) i := by rw [oR_13025 h]; exact ar_mk (oK_13025 h) h0 (by omega)
theorem oR_13026 (h : OffK σ o) : am_fR σ 13026 o = some (o + 19) := (h.2.2.2 (13026, 19, 1000, 150) (by decide)).1
theorem oK_13026 (h : OffK σ o) : am_kd σ (o + 19) = (1000, 150) := (h.2.2.2 (13026, 19, 1000, 150) (by decide)).2
theorem oG_13026 (h : OffK σ o) : (am_fR σ 13026 o).getD 0 = o + 19 := by rw [oR_13026 h]; rfl
theorem oA_13026 (h : OffK σ o) (h0 : 0 ≤ i.toInt) (h1 : i.toInt < 150) : am_ar σ 1000 (am_fR σ 13026 o) i := by rw [oR_13026 h]; exact ar_mk (oK_13026 h) h0 (by omega)
theorem oR_13027 (h : OffK σ o) : am_fR σ 13027 o = some (o + 20) := (h.2.2.2 (13027, 20, 1000, 151) (by decide)).1
theorem oK_13027 (h : OffK σ o) : am_kd σ (o + 20) = (1000, 151) := (h.2.2.2 (13027, 20, 1000, 151) (by decide)).2
theorem oG_13027 (h : OffK σ o) : (am_fR σ 13027 o).getD 0 = o + 20 := by rw [oR_13027 h]; rfl
theorem oA_13027 (h : OffK σ o) (h0 : 0 ≤ i.toInt) (h1 : i.toInt < 151) : am_ar σ 1000 (am_fR σ 13027 o) i := by rw [oR_13027 h]; exact ar_mk (oK_13027 h) h0 (by omega)
theorem oR_13028 (h : OffK σ o) : am_fR σ 13028 o = some (o + 21) := (h.2.2.2 (13028, 21, 1000, 4560) (by decide)).1
theorem oK_13028 (h : OffK σ o) : am_kd σ (o + 21) = (1000, 4560) := (h.2.2.2 (13028, 21, 1000, 4560) (by decide)).2
theorem oG_13028 (h : OffK σ o) : (am_fR σ 13028 o).getD 0 = o + 21 := by rw [oR_13028 h]; rfl
theorem oA_13028 (h : OffK σ o) (h0 : 0 ≤ i.toInt) (h1 : i.toInt < 4560) : am_ar σ 1000 (am_fR σ 13028 o) i := by rw [oR_13028 h]; exact ar_mk (oK_13028 h) h0 (by omega)
theorem oR_13029 (h : OffK σ o) : am_fR σ 13029 o = some (o + 22) := (h.2.2.2 (13029, 22, 1000, 4560) (by decide)).1
theorem oK_13029 (h : OffK σ o) : am_kd σ (o + 22) = (1000, 4560) := (h.2.2.2 (13029, 22, 1000, 4560) (by decide)).2
theorem oG_13029 (h : OffK σ o) : (am_fR σ 13029 o).getD 0 = o + 22 := by rw [oR_13029 h]; rfl
theorem oA_13029 (h : OffK σ o) (h0 : 0 ≤ i.toInt) (h1 : i.toInt < 4560) : am_ar σ 1000 (am_fR σ 13029 o) i := by rw [oR_13029 h]; exact ar_mk (oK_13029 h) h0 (by omega)
theorem oR_13030 (h : OffK σ o) : am_fR σ 13030 o = some (o + 23) := (h.2.2.2 (13030, 23, 1000, 4560) (by decide)).1
theorem oK_13030 (h : OffK σ o) : am_kd σ (o + 23) = (1000, 4560) := (h.2.2.2 (13030, 23, 1000, 4560) (by decide)).2
theorem oG_13030 (h : OffK σ o) : (am_fR σ 13030 o).getD 0 = o + 23 := by rw [oR_13030 h]; rfl
theorem oA_13030 (h : OffK σ o) (h0 : 0 ≤ i.toInt) (h1 : i.toInt < 4560) : am_ar σ 1000 (am_fR σ 13030 o) i := by rw [oR_13030 h]; exact ar_mk (oK_13030 h) h0 (by omega)
theorem oR_13032 (h : OffK σ o) : am_fR σ 13032 o = some (o + 24) := (h.2.2.2 (13032, 24, 1000, 30400) (by decide)).1
theorem oK_13032 (h : OffK σ o) : am_kd σ (o + 24) = (1000, 30400) := (h.2.2.2 (13032, 24, 1000, 30400) (by decide)).2
theorem oG_13032 (h : OffK σ o) : (am_fR σ 13032 o).getD 0 = o + 24 := by rw [oR_13032 h]; rfl
theorem oA_13032 (h : OffK σ o) (h0 : 0 ≤ i.toInt) (h1 : i.toInt < 30400) : am_ar σ 1000 (am_fR σ 13032 o) i := by rw [oR_13032 h]; exact ar_mk (oK_13032 h) h0 (by omega)
theorem oR_13033 (h : OffK σ o) : am_fR σ 13033 o = some (o + 25) := (h.2.2.2 (13033, 25, 1000, 30400) (by decide)).1
theorem oK_13033 (h : OffK σ o) : am_kd σ (o + 25) = (1000, 30400) := (h.2.2.2 (13033, 25, 1000, 30400) (by decide)).2
theorem oG_13033 (h : OffK σ o) : (am_fR σ 13033 o).getD 0 = o + 25 := by rw [oR_13033 h]; rfl
theorem oA_13033 (h : OffK σ o) (h0 : 0 ≤ i.toInt) (h1 : i.toInt < 30400) : am_ar σ 1000 (am_fR σ 13033 o) i := by rw [oR_13033 h]; exact ar_mk (oK_13033 h) h0 (by omega)
theorem oR_13034 (h : OffK σ o) : am_fR σ 13034 o = some (o + 26) := (h.2.2.2 (13034, 26, 1000, 30400) (by decide)).1
theorem oK_13034 (h : OffK σ o) : am_kd σ (o + 26) = (1000, 30400) := (h.2.2.2 (13034, 26, 1000, 30400) (by decide)).2
theorem oG_13034 (h : OffK σ o) : (am_fR σ 13034 o).getD 0 = o + 26 := by rw [oR_13034 h]; rfl
theorem oA_13034 (h : OffK σ o) (h0 : 0 ≤ i.toInt) (h1 : i.toInt < 30400) : am_ar σ 1000 (am_fR σ 13034 o) i := by rw [oR_13034 h]; exact ar_mk (oK_13034 h) h0 (by omega)
theorem oR_13036 (h : OffK σ o) : am_fR σ 13036 o = some (o + 27) := (h.2.2.2 (13036, 27, 1000, 200) (by decide)).1
theorem oK_13036 (h : OffK σ o) : am_kd σ (o + 27) = (1000, 200) := (h.2.2.2 (13036, 27, 1000, 200) (by decide)).2
theorem oG_13036 (h : OffK σ o) : (am_fR σ 13036 o).getD 0 = o + 27 := by rw [oR_13036 h]; rfl
theorem oA_13036 (h : OffK σ o) (h0 : 0 ≤ i.toInt) (h1 : i.toInt < 200) : am_ar σ 1000 (am_fR σ 13036 o) i := by rw [oR_13036 h]; exact ar_mk (oK_13036 h) h0 (by omega)
theorem oR_13037 (h : OffK σ o) : am_fR σ 13037 o = some (o + 28) := (h.2.2.2 (13037, 28, 1000, 200) (by decide)).1
theorem oK_13037 (h : OffK σ o) : am_kd σ (o + 28) = (1000, 200) := (h.2.2.2 (13037, 28, 1000, 200) (by decide)).2
theorem oG_13037 (h : OffK σ o) : (am_fR σ 13037 o).getD 0 = o + 28 := by rw [oR_13037 h]; rfl
theorem oA_13037 (h : OffK σ o) (h0 : 0 ≤ i.toInt) (h1 : i.toInt < 200) : am_ar σ 1000 (am_fR σ 13037 o) i := by rw [oR_13037 h]; exact ar_mk (oK_13037 h) h0 (by omega)
theorem oR_13038 (h : OffK σ o) : am_fR σ 13038 o = some (o + 29) := (h.2.2.2 (13038, 29, 1000, 200) (by decide)).1
theorem oK_13038 (h : OffK σ o) : am_kd σ (o + 29) = (1000, 200) := (h.2.2.2 (13038, 29, 1000, 200) (by decide)).2
theorem oG_13038 (h : OffK σ o) : (am_fR σ 13038 o).getD 0 = o + 29 := by rw [oR_13038 h]; rfl
theorem oA_13038 (h : OffK σ o) (h0 : 0 ≤ i.toInt) (h1 : i.toInt < 200) : am_ar σ 1000 (am_fR σ 13038 o) i := by rw [oR_13038 h]; exact ar_mk (oK_13038 h) h0 (by omega)
theorem oR_13039 (h : OffK σ o) : am_fR σ 13039 o = some (o + 30) := (h.2.2.2 (13039, 30, 1000, 200) (by decide)).1
theorem oK_13039 (h : OffK σ o) : am_kd σ (o + 30) = (1000, 200) := (h.2.2.2 (13039, 30, 1000, 200) (by decide)).2
theorem oG_13039 (h : OffK σ o) : (am_fR σ 13039 o).getD 0 = o + 30 := by rw [oR_13039 h]; rfl
theorem oA_13039 (h : OffK σ o) (h0 : 0 ≤ i.toInt) (h1 : i.toInt < 200) : am_ar σ 1000 (am_fR σ 13039 o) i := by rw [oR_13039 h]; exact ar_mk (oK_13039 h) h0 (by omega)
theorem oR_13040 (h : OffK σ o) : am_fR σ 13040 o = some (o + 31) := (h.2.2.2 (13040, 31, 1000, 200) (by decide)).1
theorem oK_13040 (h : OffK σ o) : am_kd σ (o + 31) = (1000, 200) := (h.2.2.2 (13040, 31, 1000, 200) (by decide)).2
theorem oG_13040 (h : OffK σ o) : (am_fR σ 13040 o).getD 0 = o + 31 := by rw [oR_13040 h]; rfl
theorem oA_13040 (h : OffK σ o) (h0 : 0 ≤ i.toInt) (h1 : i.toInt < 200) : am_ar σ 1000 (am_fR σ 13040 o) i := by rw [oR_13040 h]; exact ar_mk (oK_13040 h) h0 (by omega)
theorem oR_13041 (h : OffK σ o) : am_fR σ 13041 o = some (o + 32) := (h.2.2.2 (13041, 32, 1003, 200) (by decide)).1
theorem oK_13041 (h : OffK σ o) : am_kd σ (o + 32) = (1003, 200) := (h.2.2.2 (13041, 32, 1003, 200) (by decide)).2
theorem oG_13041 (h : OffK σ o) : (am_fR σ 13041 o).getD 0 = o + 32 := by rw [oR_13041 h]; rfl
theorem oA_13041 (h : OffK σ o) (h0 : 0 ≤ i.toInt) (h1 : i.toInt < 200) : am_ar σ 1003 (am_fR σ 13041 o) i := by rw [oR_13041 h]; exact ar_mk (oK_13041 h) h0 (by omega)
theorem oR_13042 (h : OffK σ o) : am_fR σ 13042 o = some (o + 33) := (h.2.2.2 (13042, 33, 1000, 1200) (by decide)).1
theorem oK_13042 (h : OffK σ o) : am_kd σ (o + 33) = (1000, 1200) := (h.2.2.2 (13042, 33, 1000, 1200) (by decide)).2
theorem oG_13042 (h : OffK σ o) : (am_fR σ 13042 o).getD 0 = o + 33 := by rw [oR_13042 h]; rfl
theorem oA_13042 (h : OffK σ o) (h0 : 0 ≤ i.toInt) (h1 : i.toInt < 1200) : am_ar σ 1000 (am_fR σ 13042 o) i := by rw [oR_13042 h]; exact ar_mk (oK_13042 h) h0 (by omega)
theorem oR_13043 (h : OffK σ o) : am_fR σ 13043 o = some (o + 34) := (h.2.2.2 (13043, 34, 1001, 1200) (by decide)).1
theorem oK_13043 (h : OffK σ o) : am_kd σ (o + 34) = (1001, 1200) := (h.2.2.2 (13043, 34, 1001, 1200) (by decide)).2
theorem oG_13043 (h : OffK σ o) : (am_fR σ 13043 o).getD 0 = o + 34 := by rw [oR_13043 h]; rfl
theorem oA_13043 (h : OffK σ o) (h0 : 0 ≤ i.toInt) (h1 : i.toInt < 1200) : am_ar σ 1001 (am_fR σ 13043 o) i := by rw [oR_13043 h]; exact ar_mk (oK_13043 h) h0 (by omega)
theorem oR_13044 (h : OffK σ o) : am_fR σ 13044 o = some (o + 35) := (h.2.2.2 (13044, 35, 1001, 1200) (by decide)).1
theorem oK_13044 (h : OffK σ o) : am_kd σ (o + 35) = (1001, 1200) := (h.2.2.2 (13044, 35, 1001, 1200) (by decide)).2
theorem oG_13044 (h : OffK σ o) : (am_fR σ 13044 o).getD 0 = o + 35 := by rw [oR_13044 h]; rfl
theorem oA_13044 (h : OffK σ o) (h0 : 0 ≤ i.toInt) (h1 : i.toInt < 1200) : am_ar σ 1001 (am_fR σ 13044 o) i := by rw [oR_13044 h]; exact ar_mk (oK_13044 h) h0 (by omega)
theorem oR_13046 (h : OffK σ o) : am_fR σ 13046 o = some (o + 36) := (h.2.2.2 (13046, 36, 1000, 100) (by decide)).1
theorem oK_13046 (h : OffK σ o) : am_kd σ (o + 36) = (1000, 100) := (h.2.2.2 (13046, 36, 1000, 100) (by decide)).2
theorem oG_13046 (h : OffK σ o) : (am_fR σ 13046 o).getD 0 = o + 36 := by rw [oR_13046 h]; rfl
theorem oA_13046 (h : OffK σ o) (h0 : 0 ≤ i.toInt) (h1 : i.toInt < 100) : am_ar σ 1000 (am_fR σ 13046 o) i := by rw [oR_13046 h]; exact ar_mk (oK_13046 h) h0 (by omega)
theorem oR_13047 (h : OffK σ o) : am_fR σ 13047 o = some (o + 37) := (h.2.2.2 (13047, 37, 1000, 100) (by decide)).1
theorem oK_13047 (h : OffK σ o) : am_kd σ (o + 37) = (1000, 100) := (h.2.2.2 (13047, 37, 1000, 100) (by decide)).2
theorem oG_13047 (h : OffK σ o) : (am_fR σ 13047 o).getD 0 = o + 37 := by rw [oR_13047 h]; rfl
theorem oA_13047 (h : OffK σ o) (h0 : 0 ≤ i.toInt) (h1 : i.toInt < 100) : am_ar σ 1000 (am_fR σ 13047 o) i := by rw [oR_13047 h]; exact ar_mk (oK_13047 h) h0 (by omega)
theorem oR_13048 (h : OffK σ o) : am_fR σ 13048 o = some (o + 38) := (h.2.2.2 (13048, 38, 1000, 100) (by decide)).1
theorem oK_13048 (h : OffK σ o) : am_kd σ (o + 38) = (1000, 100) := (h.2.2.2 (13048, 38, 1000, 100) (by decide)).2
theorem oG_13048 (h : OffK σ o) : (am_fR σ 13048 o).getD 0 = o + 38 := by rw [oR_13048 h]; rfl
theorem oA_13048 (h : OffK σ o) (h0 : 0 ≤ i.toInt) (h1 : i.toInt < 100) : am_ar σ 1000 (am_fR σ 13048 o) i := by rw [oR_13048 h]; exact ar_mk (oK_13048 h) h0 (by omega)
theorem oR_13049 (h : OffK σ o) : am_fR σ 13049 o = some (o + 39) := (h.2.2.2 (13049, 39, 1000, 100) (by decide)).1
theorem oK_13049 (h : OffK σ o) : am_kd σ (o + 39) = (1000, 100) := (h.2.2.2 (13049, 39, 1000, 100) (by decide)).2
theorem oG_13049 (h : OffK σ o) : (am_fR σ 13049 o).getD 0 = o + 39 := by rw [oR_13049 h]; rfl
theorem oA_13049 (h : OffK σ o) (h0 : 0 ≤ i.toInt) (h1 : i.toInt < 100) : am_ar σ 1000 (am_fR σ 13049 o) i := by rw [oR_13049 h]; exact ar_mk (oK_13049 h) h0 (by omega)
theorem oR_13050 (h : OffK σ o) : am_fR σ 13050 o = some (o + 40) := (h.2.2.2 (13050, 40, 1000, 100) (by decide)).1
theorem oK_13050 (h : OffK σ o) : am_kd σ (o + 40) = (1000, 100) := (h.2.2.2 (13050, 40, 1000, 100) (by decide)).2
theorem oG_13050 (h : OffK σ o) : (am_fR σ 13050 o).getD 0 = o + 40 := by rw [oR_13050 h]; rfl
theorem oA_13050 (h : OffK σ o) (h0 : 0 ≤ i.toInt) (h1 : i.toInt < 100) : am_ar σ 1000 (am_fR σ 13050 o) i := by rw [oR_13050 h]; exact ar_mk (oK_13050 h) h0 (by omega)
theorem oR_13051 (h : OffK σ o) : am_fR σ 13051 o = some (o + 41) := (h.2.2.2 (13051, 41, 1000, 100) (by decide)).1
theorem oK_13051 (h : OffK σ o) : am_kd σ (o + 41) = (1000, 100) := (h.2.2.2 (13051, 41, 1000, 100) (by decide)).2
theorem oG_13051 (h : OffK σ o) : (am_fR σ 13051 o).getD 0 = o + 41 := by rw [oR_13051 h]; rfl
theorem oA_13051 (h : OffK σ o) (h0 : 0 ≤ i.toInt) (h1 : i.toInt < 100) : am_ar σ 1000 (am_fR σ 13051 o) i := by rw [oR_13051 h]; exact ar_mk (oK_13051 h) h0 (by omega)
theorem oR_13052 (h : OffK σ o) : am_fR σ 13052 o = some (o + 42) := (h.2.2.2 (13052, 42, 1000, 4000) (by decide)).1
theorem oK_13052 (h : OffK σ o) : am_kd σ (o + 42) = (1000, 4000) := (h.2.2.2 (13052, 42, 1000, 4000) (by decide)).2
theorem oG_13052 (h : OffK σ o) : (am_fR σ 13052 o).getD 0 = o + 42 := by rw [oR_13052 h]; rfl
theorem oA_13052 (h : OffK σ o) (h0 : 0 ≤ i.toInt) (h1 : i.toInt < 4000) : am_ar σ 1000 (am_fR σ 13052 o) i := by rw [oR_13052 h]; exact ar_mk (oK_13052 h) h0 (by omega)
theorem oR_13053 (h : OffK σ o) : am_fR σ 13053 o = some (o + 43) := (h.2.2.2 (13053, 43, 1000, 4000) (by decide)).1
theorem oK_13053 (h : OffK σ o) : am_kd σ (o + 43) = (1000, 4000) := (h.2.2.2 (13053, 43, 1000, 4000) (by decide)).2
theorem oG_13053 (h : OffK σ o) : (am_fR σ 13053 o).getD 0 = o + 43 := by rw [oR_13053 h]; rfl
theorem oA_13053 (h : OffK σ o) (h0 : 0 ≤ i.toInt) (h1 : i.toInt < 4000) : am_ar σ 1000 (am_fR σ 13053 o) i := by rw [oR_13053 h]; exact ar_mk (oK_13053 h) h0 (by omega)
theorem oR_13054 (h : OffK σ o) : am_fR σ 13054 o = some (o + 44) := (h.2.2.2 (13054, 44, 1000, 4000) (by decide)).1
theorem oK_13054 (h : OffK σ o) : am_kd σ (o + 44) = (1000, 4000) := (h.2.2.2 (13054, 44, 1000, 4000) (by decide)).2
theorem oG_13054 (h : OffK σ o) : (am_fR σ 13054 o).getD 0 = o + 44 := by rw [oR_13054 h]; rfl
theorem oA_13054 (h : OffK σ o) (h0 : 0 ≤ i.toInt) (h1 : i.toInt < 4000) : am_ar σ 1000 (am_fR σ 13054 o) i := by rw [oR_13054 h]; exact ar_mk (oK_13054 h) h0 (by omega)
theorem oR_13055 (h : OffK σ o) : am_fR σ 13055 o = some (o + 45) := (h.2.2.2 (13055, 45, 1000, 4000) (by decide)).1
theorem oK_13055 (h : OffK σ o) : am_kd σ (o + 45) = (1000, 4000) := (h.2.2.2 (13055, 45, 1000, 4000) (by decide)).2
theorem oG_13055 (h : OffK σ o) : (am_fR σ 13055 o).getD 0 = o + 45 := by rw [oR_13055 h]; rfl
theorem oA_13055 (h : OffK σ o) (h0 : 0 ≤ i.toInt) (h1 : i.toInt < 4000) : am_ar σ 1000 (am_fR σ 13055 o) i := by rw [oR_13055 h]; exact ar_mk (oK_13055 h) h0 (by omega)
theorem oR_13056 (h : OffK σ o) : am_fR σ 13056 o = some (o + 46) := (h.2.2.2 (13056, 46, 1000, 4000) (by decide)).1
theorem oK_13056 (h : OffK σ o) : am_kd σ (o + 46) = (1000, 4000) := (h.2.2.2 (13056, 46, 1000, 4000) (by decide)).2
theorem oG_13056 (h : OffK σ o) : (am_fR σ 13056 o).getD 0 = o + 46 := by rw [oR_13056 h]; rfl
theorem oA_13056 (h : OffK σ o) (h0 : 0 ≤ i.toInt) (h1 : i.toInt < 4000) : am_ar σ 1000 (am_fR σ 13056 o) i := by rw [oR_13056 h]; exact ar_mk (oK_13056 h) h0 (by omega)
theorem oR_13057 (h : OffK σ o) : am_fR σ 13057 o = some (o + 47) := (h.2.2.2 (13057, 47, 1000, 4000) (by decide)).1
theorem oK_13057 (h : OffK σ o) : am_kd σ (o + 47) = (1000, 4000) := (h.2.2.2 (13057, 47, 1000, 4000) (by decide)).2
theorem oG_13057 (h : OffK σ o) : (am_fR σ 13057 o).getD 0 = o + 47 := by rw [oR_13057 h]; rfl
theorem oA_13057 (h : OffK σ o) (h0 : 0 ≤ i.toInt) (h1 : i.toInt < 4000) : am_ar σ 1000 (am_fR σ 13057 o) i := by rw [oR_13057 h]; exact ar_mk (oK_13057 h) h0 (by omega)
theorem oR_13058 (h : OffK σ o) : am_fR σ 13058 o = some (o + 48) := (h.2.2.2 (13058, 48, 1001, 4000) (by decide)).1
theorem oK_13058 (h : OffK σ o) : am_kd σ (o + 48) = (1001, 4000) := (h.2.2.2 (13058, 48, 1001, 4000) (by decide)).2
theorem oG_13058 (h : OffK σ o) : (am_fR σ 13058 o).getD 0 = o + 48 := by rw [oR_13058 h]; rfl
theorem oA_13058 (h : OffK σ o) (h0 : 0 ≤ i.toInt) (h1 : i.toInt < 4000) : am_ar σ 1001 (am_fR σ 13058 o) i := by rw [oR_13058 h]; exact ar_mk (oK_13058 h) h0 (by omega)
theorem oR_13059 (h : OffK σ o) : am_fR σ 13059 o = some (o + 49) := (h.2.2.2 (13059, 49, 1001, 4000) (by decide)).1
theorem oK_13059 (h : OffK σ o) : am_kd σ (o + 49) = (1001, 4000) := (h.2.2.2 (13059, 49, 1001, 4000) (by decide)).2
theorem oG_13059 (h : OffK σ o) : (am_fR σ 13059 o).getD 0 = o + 49 := by rw [oR_13059 h]; rfl
theorem oA_13059 (h : OffK σ o) (h0 : 0 ≤ i.toInt) (h1 : i.toInt < 4000) : am_ar σ 1001 (am_fR σ 13059 o) i := by rw [oR_13059 h]; exact ar_mk (oK_13059 h) h0 (by omega)
theorem oR_13064 (h : OffK σ o) : am_fR σ 13064 o = some (o + 50) := (h.2.2.2 (13064, 50, 1000, 60) (by decide)).1
theorem oK_13064 (h : OffK σ o) : am_kd σ (o + 50) = (1000, 60) := (h.2.2.2 (13064, 50, 1000, 60) (by decide)).2
theorem oG_13064 (h : OffK σ o) : (am_fR σ 13064 o).getD 0 = o + 50 := by rw [oR_13064 h]; rfl
theorem oA_13064 (h : OffK σ o) (h0 : 0 ≤ i.toInt) (h1 : i.toInt < 60) : am_ar σ 1000 (am_fR σ 13064 o) i := by rw [oR_13064 h]; exact ar_mk (oK_13064 h) h0 (by omega)
theorem oR_13065 (h : OffK σ o) : am_fR σ 13065 o = some (o + 51) := (h.2.2.2 (13065, 51, 1001, 360) (by decide)).1
theorem oK_13065 (h : OffK σ o) : am_kd σ (o + 51) = (1001, 360) := (h.2.2.2 (13065, 51, 1001, 360) (by decide)).2
theorem oG_13065 (h : OffK σ o) : (am_fR σ 13065 o).getD 0 = o + 51 := by rw [oR_13065 h]; rfl
theorem oA_13065 (h : OffK σ o) (h0 : 0 ≤ i.toInt) (h1 : i.toInt < 360) : am_ar σ 1001 (am_fR σ 13065 o) i := by rw [oR_13065 h]; exact ar_mk (oK_13065 h) h0 (by omega)
theorem oR_13066 (h : OffK σ o) : am_fR σ 13066 o = some (o + 52) := (h.2.2.2 (13066, 52, 1002, 450000) (by decide)).1
theorem oK_13066 (h : OffK σ o) : am_kd σ (o + 52) = (1002, 450000) := (h.2.2.2 (13066, 52, 1002, 450000) (by decide)).2
theorem oG_13066 (h : OffK σ o) : (am_fR σ 13066 o).getD 0 = o + 52 := by rw [oR_13066 h]; rfl
theorem oA_13066 (h : OffK σ o) (h0 : 0 ≤ i.toInt) (h1 : i.toInt < 450000) : am_ar σ 1002 (am_fR σ 13066 o) i := by rw [oR_13066 h]; exact ar_mk (oK_13066 h) h0 (by omega)
theorem oR_13080 (h : OffK σ o) : am_fR σ 13080 o = some (o + 53) := (h.2.2.2 (13080, 53, 1003, 6) (by decide)).1
theorem oK_13080 (h : OffK σ o) : am_kd σ (o + 53) = (1003, 6) := (h.2.2.2 (13080, 53, 1003, 6) (by decide)).2
theorem oG_13080 (h : OffK σ o) : (am_fR σ 13080 o).getD 0 = o + 53 := by rw [oR_13080 h]; rfl
theorem oA_13080 (h : OffK σ o) (h0 : 0 ≤ i.toInt) (h1 : i.toInt < 6) : am_ar σ 1003 (am_fR σ 13080 o) i := by rw [oR_13080 h]; exact ar_mk (oK_13080 h) h0 (by omega)
theorem oR_13081 (h : OffK σ o) : am_fR σ 13081 o = some (o + 54) := (h.2.2.2 (13081, 54, 1001, 6) (by decide)).1
theorem oK_13081 (h : OffK σ o) : am_kd σ (o + 54) = (1001, 6) := (h.2.2.2 (13081, 54, 1001, 6) (by decide)).2
theorem oG_13081 (h : OffK σ o) : (am_fR σ 13081 o).getD 0 = o + 54 := by rw [oR_13081 h]; rfl
theorem oA_13081 (h : OffK σ o) (h0 : 0 ≤ i.toInt) (h1 : i.toInt < 6) : am_ar σ 1001 (am_fR σ 13081 o) i := by rw [oR_13081 h]; exact ar_mk (oK_13081 h) h0 (by omega)
theorem oR_13082 (h : OffK σ o) : am_fR σ 13082 o = some (o + 55) := (h.2.2.2 (13082, 55, 1001, 6) (by decide)).1
theorem oK_13082 (h : OffK σ o) : am_kd σ (o + 55) = (1001, 6) := (h.2.2.2 (13082, 55, 1001, 6) (by decide)).2
theorem oG_13082 (h : OffK σ o) : (am_fR σ 13082 o).getD 0 = o + 55 := by rw [oR_13082 h]; rfl
theorem oA_13082 (h : OffK σ o) (h0 : 0 ≤ i.toInt) (h1 : i.toInt < 6) : am_ar σ 1001 (am_fR σ 13082 o) i := by rw [oR_13082 h]; exact ar_mk (oK_13082 h) h0 (by omega)
theorem oR_13083 (h : OffK σ o) : am_fR σ 13083 o = some (o + 56) := (h.2.2.2 (13083, 56, 1000, 6) (by decide)).1
theorem oK_13083 (h : OffK σ o) : am_kd σ (o + 56) = (1000, 6) := (h.2.2.2 (13083, 56, 1000, 6) (by decide)).2
theorem oG_13083 (h : OffK σ o) : (am_fR σ 13083 o).getD 0 = o + 56 := by rw [oR_13083 h]; rfl
theorem oA_13083 (h : OffK σ o) (h0 : 0 ≤ i.toInt) (h1 : i.toInt < 6) : am_ar σ 1000 (am_fR σ 13083 o) i := by rw [oR_13083 h]; exact ar_mk (oK_13083 h) h0 (by omega)
theorem oR_13085 (h : OffK σ o) : am_fR σ 13085 o = some (o + 57) := (h.2.2.2 (13085, 57, 1000, 100) (by decide)).1
theorem oK_13085 (h : OffK σ o) : am_kd σ (o + 57) = (1000, 100) := (h.2.2.2 (13085, 57, 1000, 100) (by decide)).2
theorem oG_13085 (h : OffK σ o) : (am_fR σ 13085 o).getD 0 = o + 57 := by rw [oR_13085 h]; rfl
theorem oA_13085 (h : OffK σ o) (h0 : 0 ≤ i.toInt) (h1 : i.toInt < 100) : am_ar σ 1000 (am_fR σ 13085 o) i := by rw [oR_13085 h]; exact ar_mk (oK_13085 h) h0 (by omega)
theorem oR_13086 (h : OffK σ o) : am_fR σ 13086 o = some (o + 58) := (h.2.2.2 (13086, 58, 1001, 100) (by decide)).1
theorem oK_13086 (h : OffK σ o) : am_kd σ (o + 58) = (1001, 100) := (h.2.2.2 (13086, 58, 1001, 100) (by decide)).2
theorem oG_13086 (h : OffK σ o) : (am_fR σ 13086 o).getD 0 = o + 58 := by rw [oR_13086 h]; rfl
theorem oA_13086 (h : OffK σ o) (h0 : 0 ≤ i.toInt) (h1 : i.toInt < 100) : am_ar σ 1001 (am_fR σ 13086 o) i := by rw [oR_13086 h]; exact ar_mk (oK_13086 h) h0 (by omega)
theorem oR_13087 (h : OffK σ o) : am_fR σ 13087 o = some (o + 59) := (h.2.2.2 (13087, 59, 1003, 100) (by decide)).1
theorem oK_13087 (h : OffK σ o) : am_kd σ (o + 59) = (1003, 100) := (h.2.2.2 (13087, 59, 1003, 100) (by decide)).2
theorem oG_13087 (h : OffK σ o) : (am_fR σ 13087 o).getD 0 = o + 59 := by rw [oR_13087 h]; rfl
theorem oA_13087 (h : OffK σ o) (h0 : 0 ≤ i.toInt) (h1 : i.toInt < 100) : am_ar σ 1003 (am_fR σ 13087 o) i := by rw [oR_13087 h]; exact ar_mk (oK_13087 h) h0 (by omega)
theorem oR_13088 (h : OffK σ o) : am_fR σ 13088 o = some (o + 60) := (h.2.2.2 (13088, 60, 1000, 100) (by decide)).1
theorem oK_13088 (h : OffK σ o) : am_kd σ (o + 60) = (1000, 100) := (h.2.2.2 (13088, 60, 1000, 100) (by decide)).2
theorem oG_13088 (h : OffK σ o) : (am_fR σ 13088 o).getD 0 = o + 60 := by rw [oR_13088 h]; rfl
theorem oA_13088 (h : OffK σ o) (h0 : 0 ≤ i.toInt) (h1 : i.toInt < 100) : am_ar σ 1000 (am_fR σ 13088 o) i := by rw [oR_13088 h]; exact ar_mk (oK_13088 h) h0 (by omega)
theorem oR_13089 (h : OffK σ o) : am_fR σ 13089 o = some (o + 61) := (h.2.2.2 (13089, 61, 1001, 6) (by decide)).1
theorem oK_13089 (h : OffK σ o) : am_kd σ (o + 61) = (1001, 6) := (h.2.2.2 (13089, 61, 1001, 6) (by decide)).2
theorem oG_13089 (h : OffK σ o) : (am_fR σ 13089 o).getD 0 = o + 61 := by rw [oR_13089 h]; rfl
theorem oA_13089 (h : OffK σ o) (h0 : 0 ≤ i.toInt) (h1 : i.toInt < 6) : am_ar σ 1001 (am_fR σ 13089 o) i := by rw [oR_13089 h]; exact ar_mk (oK_13089 h) h0 (by omega)
theorem oR_13090 (h : OffK σ o) : am_fR σ 13090 o = some (o + 62) := (h.2.2.2 (13090, 62, 1000, 400) (by decide)).1
theorem oK_13090 (h : OffK σ o) : am_kd σ (o + 62) = (1000, 400) := (h.2.2.2 (13090, 62, 1000, 400) (by decide)).2
theorem oG_13090 (h : OffK σ o) : (am_fR σ 13090 o).getD 0 = o + 62 := by rw [oR_13090 h]; rfl
theorem oA_13090 (h : OffK σ o) (h0 : 0 ≤ i.toInt) (h1 : i.toInt < 400) : am_ar σ 1000 (am_fR σ 13090 o) i := by rw [oR_13090 h]; exact ar_mk (oK_13090 h) h0 (by omega)
end
def mo_L : List (Nat × Nat × Nat × Nat) := [(12000, 1061, 2500, 6), (12001, 1062, 2500, 13), (12002, 1054, 1000, 6000), (12004, 1055, 1002, 500000), (12009, 1056, 1000, 16), (12010, 1057, 1000, 16), (12011, 1058, 1001, 16), (12013, 1059, 1000, 200), (12018, 1060, 1001, 6)]
def ModK (σ : am_S) : Prop := am_kd σ 1053 = (13, 0) ∧ ∀ q ∈ mo_L, am_fR σ q.1 1053 = some q.2.1 ∧ am_kd σ q.2.1 = (q.2.2.1, q.2.2.2)
section
variable {σ : am_S} {i : Int32}
theorem mR_12000 (h : ModK σ) : am_fR σ 12000 1053 = some 1061 := (h.2 (12000, 1061, 2500, 6) (by decide)).1
theorem mK_12000 (h : ModK σ) : am_kd σ 1061 = (2500, 6) := (h.2 (12000, 1061, 2500, 6) (by decide)).2
theorem mG_12000 (h : ModK σ) : (am_fR σ 12000 1053).getD 0 = 1061 := by rw [mR_12000 h]; rfl
theorem mA_12000 (h : ModK σ) (h0 : 0 ≤ i.toInt) (h1 : i.toInt < 6) : am_ar σ 2500 (am_fR σ 12000 1053) i := by rw [mR_12000 h]; exact ar_mk (mK_12000 h) h0 (by omega)
theorem mR_12001 (h : ModK σ) : am_fR σ 12001 1053 = some 1062 := (h.2 (12001, 1062, 2500, 13) (by decide)).1
theorem mK_12001 (h : ModK σ) : am_kd σ 1062 = (2500, 13) := (h.2 (12001, 1062, 2500, 13) (by decide)).2
theorem mG_12001 (h : ModK σ) : (am_fR σ 12001 1053).getD 0 = 1062 := by rw [mR_12001 h]; rfl
theorem mA_12001 (h : ModK σ) (h0 : 0 ≤ i.toInt) (h1 : i.toInt < 13) : am_ar σ 2500 (am_fR σ 12001 1053) i := by rw [mR_12001 h]; exact ar_mk (mK_12001 h) h0 (by omega)
theorem mR_12002 (h : ModK σ) : am_fR σ 12002 1053 = some 1054 := (h.2 (12002, 1054, 1000, 6000) (by decide)).1
theorem mK_12002 (h : ModK σ) : am_kd σ 1054 = (1000, 6000) := (h.2 (12002, 1054, 1000, 6000) (by decide)).2
theorem mG_12002 (h : ModK σ) : (am_fR σ 12002 1053).getD 0 = 1054 := by rw [mR_12002 h]; rfl
theorem mA_12002 (h : ModK σ) (h0 : 0 ≤ i.toInt) (h1 : i.toInt < 6000) : am_ar σ 1000 (am_fR σ 12002 1053) i := by rw [mR_12002 h]; exact ar_mk (mK_12002 h) h0 (by omega)
theorem mR_12004 (h : ModK σ) : am_fR σ 12004 1053 = some 1055 := (h.2 (12004, 1055, 1002, 500000) (by decide)).1
theorem mK_12004 (h : ModK σ) : am_kd σ 1055 = (1002, 500000) := (h.2 (12004, 1055, 1002, 500000) (by decide)).2
theorem mG_12004 (h : ModK σ) : (am_fR σ 12004 1053).getD 0 = 1055 := by rw [mR_12004 h]; rfl
theorem mA_12004 (h : ModK σ) (h0 : 0 ≤ i.toInt) (h1 : i.toInt < 500000) : am_ar σ 1002 (am_fR σ 12004 1053) i := by rw [mR_12004 h]; exact ar_mk (mK_12004 h) h0 (by omega)
theorem mR_12009 (h : ModK σ) : am_fR σ 12009 1053 = some 1056 := (h.2 (12009, 1056, 1000, 16) (by decide)).1
theorem mK_12009 (h : ModK σ) : am_kd σ 1056 = (1000, 16) := (h.2 (12009, 1056, 1000, 16) (by decide)).2
theorem mG_12009 (h : ModK σ) : (am_fR σ 12009 1053).getD 0 = 1056 := by rw [mR_12009 h]; rfl
theorem mA_12009 (h : ModK σ) (h0 : 0 ≤ i.toInt) (h1 : i.toInt < 16) : am_ar σ 1000 (am_fR σ 12009 1053) i := by rw [mR_12009 h]; exact ar_mk (mK_12009 h) h0 (by omega)
theorem mR_12010 (h : ModK σ) : am_fR σ 12010 1053 = some 1057 := (h.2 (12010, 1057, 1000, 16) (by decide)).1
theorem mK_12010 (h : ModK σ) : am_kd σ 1057 = (1000, 16) := (h.2 (12010, 1057, 1000, 16) (by decide)).2
theorem mG_12010 (h : ModK σ) : (am_fR σ 12010 1053).getD 0 = 1057 := by rw [mR_12010 h]; rfl
theorem mA_12010 (h : ModK σ) (h0 : 0 ≤ i.toInt) (h1 : i.toInt < 16) : am_ar σ 1000 (am_fR σ 12010 1053) i := by rw [mR_12010 h]; exact ar_mk (mK_12010 h) h0 (by omega)
theorem mR_12011 (h : ModK σ) : am_fR σ 12011 1053 = some 1058 := (h.2 (12011, 1058, 1001, 16) (by decide)).1
theorem mK_12011 (h : ModK σ) : am_kd σ 1058 = (1001, 16) := (h.2 (12011, 1058, 1001, 16) (by decide)).2
theorem mG_12011 (h : ModK σ) : (am_fR σ 12011 1053).getD 0 = 1058 := by rw [mR_12011 h]; rfl
theorem mA_12011 (h : ModK σ) (h0 : 0 ≤ i.toInt) (h1 : i.toInt < 16) : am_ar σ 1001 (am_fR σ 12011 1053) i := by rw [mR_12011 h]; exact ar_mk (mK_12011 h) h0 (by omega)
theorem mR_12013 (h : ModK σ) : am_fR σ 12013 1053 = some 1059 := (h.2 (12013, 1059, 1000, 200) (by decide)).1
theorem mK_12013 (h : ModK σ) : am_kd σ 1059 = (1000, 200) := (h.2 (12013, 1059, 1000, 200) (by decide)).2
theorem mG_12013 (h : ModK σ) : (am_fR σ 12013 1053).getD 0 = 1059 := by rw [mR_12013 h]; rfl
theorem mA_12013 (h : ModK σ) (h0 : 0 ≤ i.toInt) (h1 : i.toInt < 200) : am_ar σ 1000 (am_fR σ 12013 1053) i := by rw [mR_12013 h]; exact ar_mk (mK_12013 h) h0 (by omega)
theorem mR_12018 (h : ModK σ) : am_fR σ 12018 1053 = some 1060 := (h.2 (12018, 1060, 1001, 6) (by decide)).1
theorem mK_12018 (h : ModK σ) : am_kd σ 1060 = (1001, 6) := (h.2 (12018, 1060, 1001, 6) (by decide)).2
theorem mG_12018 (h : ModK σ) : (am_fR σ 12018 1053).getD 0 = 1060 := by rw [mR_12018 h]; rfl
theorem mA_12018 (h : ModK σ) (h0 : 0 ≤ i.toInt) (h1 : i.toInt < 6) : am_ar σ 1001 (am_fR σ 12018 1053) i := by rw [mR_12018 h]; exact ar_mk (mK_12018 h) h0 (by omega)
end
