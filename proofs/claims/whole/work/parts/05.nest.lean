/-! ===== the words of nest mates, of casts, of declarations: they go from state to state by laws of their own ===== -/
def nwk : Cond → Bool
  | .methodLinkNest _ _ _ _ => true
  | .castable _ _ => true
  | .declares _ => true
  | _ => false
def NW : List Cond := lw_tbl.filter nwk
theorem inNW {w : Cond} {i : Nat} (h : tables_1[i]? = some w) (hg : nwk w = true) : w ∈ NW := List.mem_filter.mpr ⟨List.mem_append_right _ (List.mem_of_getElem? h), hg⟩
theorem nw_tab {w : Cond} (hk : nwk w = true) : w.onTables = true := by
  cases w <;> first | rfl | cases hk
theorem nw_warm {w : Cond} {s U : State} (hk : nwk w = true) (hW : s.WarmedH U.vm) (h : va_Nw w s) : va_Nw w U := by
  cases w <;> first | exact va_Nw.warmM hW h | exact va_Nw.warmC hW h | exact va_Nw.warmD hW h | cases hk
theorem m_35 : Cond.methodLinkNest RX11 22 yX6_init RX11 ∈ NW := inNW (i := 35) (by decide +kernel) rfl
theorem m_41 : Cond.methodLinkNest RX6 11 yX4_init RX11 ∈ NW := inNW (i := 41) (by decide +kernel) rfl
theorem m_47 : Cond.methodLinkNest RX4 48 yX5_init RX11 ∈ NW := inNW (i := 47) (by decide +kernel) rfl
theorem m_137 : Cond.methodLinkNest RX10 15 yX11_fill RX11 ∈ NW := inNW (i := 137) (by decide +kernel) rfl
theorem m_149 : Cond.methodLinkNest RX6 31 yX9_init RX11 ∈ NW := inNW (i := 149) (by decide +kernel) rfl
theorem m_204 : Cond.methodLinkNest RX11 29 yX4_init RX11 ∈ NW := inNW (i := 204) (by decide +kernel) rfl
theorem m_207 : Cond.methodLinkNest RX11 36 yX8_init RX11 ∈ NW := inNW (i := 207) (by decide +kernel) rfl
theorem m_250 : Cond.methodLinkNest RX11 57 yX2_init RX11 ∈ NW := inNW (i := 250) (by decide +kernel) rfl
theorem m_273 : Cond.methodLinkNest RX11 64 yX1_init RX11 ∈ NW := inNW (i := 273) (by decide +kernel) rfl
theorem m_308 : Cond.methodLinkNest RX11 71 yX0_init RX11 ∈ NW := inNW (i := 308) (by decide +kernel) rfl
theorem m_335 : Cond.methodLinkNest RX11 78 yX7_init RX11 ∈ NW := inNW (i := 335) (by decide +kernel) rfl
theorem m_359 : Cond.methodLinkNest RX11 85 yX3_init RX11 ∈ NW := inNW (i := 359) (by decide +kernel) rfl
theorem m_452 : Cond.methodLinkNest RX8 49 yX11_at RX11 ∈ NW := inNW (i := 452) (by decide +kernel) rfl
theorem m_455 : Cond.methodLinkNest RX8 53 yX11_put RX11 ∈ NW := inNW (i := 455) (by decide +kernel) rfl
theorem m_464 : Cond.methodLinkNest RX10 23 yX11_copyCells RX11 ∈ NW := inNW (i := 464) (by decide +kernel) rfl
theorem m_478 : Cond.methodLinkNest RX10 27 yX11_at RX11 ∈ NW := inNW (i := 478) (by decide +kernel) rfl
theorem m_498 : Cond.methodLinkNest RX10 31 yX11_put RX11 ∈ NW := inNW (i := 498) (by decide +kernel) rfl
theorem m_535 : Cond.methodLinkNest RX4 72 yX11_at RX11 ∈ NW := inNW (i := 535) (by decide +kernel) rfl
theorem m_555 : Cond.methodLinkNest RX0 48 yX11_at RX11 ∈ NW := inNW (i := 555) (by decide +kernel) rfl
theorem m_557 : Cond.methodLinkNest RX0 56 yX11_put RX11 ∈ NW := inNW (i := 557) (by decide +kernel) rfl
theorem m_566 : Cond.methodLinkNest RX0 82 yX11_copyRow RX11 ∈ NW := inNW (i := 566) (by decide +kernel) rfl
theorem m_585 : Cond.methodLinkNest RX7 38 yX11_put RX11 ∈ NW := inNW (i := 585) (by decide +kernel) rfl
theorem m_590 : Cond.methodLinkNest RX7 46 yX11_at RX11 ∈ NW := inNW (i := 590) (by decide +kernel) rfl
theorem m_605 : Cond.methodLinkNest RX7 69 yX11_copyRow RX11 ∈ NW := inNW (i := 605) (by decide +kernel) rfl
theorem m_622 : Cond.methodLinkNest RX10 19 yX11_copyRow RX11 ∈ NW := inNW (i := 622) (by decide +kernel) rfl
theorem m_623 : Cond.methodLinkNest RX8 45 yX11_copyRow RX11 ∈ NW := inNW (i := 623) (by decide +kernel) rfl
theorem m_706 : Cond.methodLinkNest RX9 28 yX11_at RX11 ∈ NW := inNW (i := 706) (by decide +kernel) rfl
theorem m_710 : Cond.methodLinkNest RX9 36 yX11_put RX11 ∈ NW := inNW (i := 710) (by decide +kernel) rfl
theorem m_799 : Cond.methodLinkNest RX4 53 yX11_fill RX11 ∈ NW := inNW (i := 799) (by decide +kernel) rfl
theorem m_812 : Cond.methodLinkNest RX6 70 yX11_at RX11 ∈ NW := inNW (i := 812) (by decide +kernel) rfl
theorem m_857 : Cond.methodLinkNest RX4 68 yX11_put RX11 ∈ NW := inNW (i := 857) (by decide +kernel) rfl
theorem m_950 : Cond.methodLinkNest RX5 30 yX11_put RX11 ∈ NW := inNW (i := 950) (by decide +kernel) rfl
theorem m_955 : Cond.methodLinkNest RX4 60 yX11_copyRow RX11 ∈ NW := inNW (i := 955) (by decide +kernel) rfl
theorem m_960 : Cond.methodLinkNest RX5 26 yX11_copyRow RX11 ∈ NW := inNW (i := 960) (by decide +kernel) rfl
theorem m_1049 : Cond.methodLinkNest RX10 61 yX11_greatest RX11 ∈ NW := inNW (i := 1049) (by decide +kernel) rfl
theorem m_1146 : Cond.methodLinkNest RX5 40 yX11_at RX11 ∈ NW := inNW (i := 1146) (by decide +kernel) rfl
theorem m_1168 : Cond.methodLinkNest RX2 46 yX11_put RX11 ∈ NW := inNW (i := 1168) (by decide +kernel) rfl
theorem m_1186 : Cond.methodLinkNest RX2 65 yX11_at RX11 ∈ NW := inNW (i := 1186) (by decide +kernel) rfl
theorem m_1273 : Cond.methodLinkNest RX1 79 yX11_put RX11 ∈ NW := inNW (i := 1273) (by decide +kernel) rfl
theorem m_1275 : Cond.methodLinkNest RX1 49 yX11_copyRow RX11 ∈ NW := inNW (i := 1275) (by decide +kernel) rfl
theorem m_1319 : Cond.methodLinkNest RX3 28 yX11_fill RX11 ∈ NW := inNW (i := 1319) (by decide +kernel) rfl
theorem m_1320 : Cond.methodLinkNest RX3 37 yX11_copyRow RX11 ∈ NW := inNW (i := 1320) (by decide +kernel) rfl
theorem m_1329 : Cond.methodLinkNest RX3 66 yX11_at RX11 ∈ NW := inNW (i := 1329) (by decide +kernel) rfl
theorem m_1330 : Cond.methodLinkNest RX3 77 yX11_put RX11 ∈ NW := inNW (i := 1330) (by decide +kernel) rfl
