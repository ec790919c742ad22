theorem jrem_40 : ∀ x : Nat, x < 81 → jrem (nI x) (40 : Int32) = nI (x % 40) := by decide +kernel
theorem cpy_ovl {s : St} {src dst dp n : Nat} : cpy s src 0 dst dp n = ovl s dst dp n (s src) := by
  funext k j
  rw [cpy, ovl]
  by_cases h : k = dst ∧ dp ≤ j ∧ j < dp + n
  · rw [if_pos h, if_pos h, Nat.zero_add]
  · rw [if_neg h, if_neg h]
theorem c_copy {s : St} {r0 r2 a b m : Nat} (h0 : LN r0 < 1000000) (h2 : LN r2 < 1000000) (ha : a + m ≤ LN r0) (hb : b + m ≤ LN r2) : fX11_copyCells r0 (nI a) r2 (nI b) (nI m) s = some (0, cpy s r0 a r2 b m) := by
  have e0 : ((Int32.ofNat (LN r0)) - nI m < nI a) = False := by
    have o := nI_toInt (n := LN r0) (by omega)
    have o2 := nI_toInt (n := m) (by omega)
    have o3 := nI_toInt (n := a) (by omega)
    have q : (nI (LN r0) - nI m).toInt = (LN r0 : Int) - m := by rw [i_sub (by rw [o, o2]; omega) (by rw [o, o2]; omega), o, o2]
    show (nI (LN r0) - nI m < nI a) = False
    rw [i_lt, q, o3]
    exact eq_false (by omega)
  have e2 : ((Int32.ofNat (LN r2)) - nI m < nI b) = False := by
    have o := nI_toInt (n := LN r2) (by omega)
    have o2 := nI_toInt (n := m) (by omega)
    have o3 := nI_toInt (n := b) (by omega)
    have q : (nI (LN r2) - nI m).toInt = (LN r2 : Int) - m := by rw [i_sub (by rw [o, o2]; omega) (by rw [o, o2]; omega), o, o2]
    show (nI (LN r2) - nI m < nI b) = False
    rw [i_lt, q, o3]
    exact eq_false (by omega)
  rw [fX11_copyCells, if_neg (nI_pos (by omega)), if_neg (nI_pos (by omega)), if_pos (nI_pos' (by omega)), if_neg (by rw [e0]; exact id), if_neg (by rw [e2]; exact id), if_pos ⟨nI_pos (by omega), nI_pos (by omega), nI_pos (by omega), by rw [nI_clamp (by omega), nI_clamp (by omega)]; exact ha, by rw [nI_clamp (by omega), nI_clamp (by omega)]; exact hb⟩, nI_clamp (by omega), nI_clamp (by omega), nI_clamp (by omega)]
theorem c_saveTo {s : St} {w r j : Nat} (hw : LN (w + 1) = 94) (hr : LN r < 1000000) (h : 94 * j + 94 ≤ LN r) : fX10_saveTo w r (nI j) s = some (0, ovl s r (94 * j) 94 (s (w + 1))) := by
  rw [fX10_saveTo, zrm_94, Nat.mul_comm j 94]
  show bd (fX11_copyCells (w + 1) (nI 0) r (nI (94 * j)) (nI 94) s) _ = _
  rw [c_copy (by omega) hr (by omega) h, bd_some, cpy_ovl]
theorem c_keep {s : St} {od na : Nat} (h2 : s 32 2 = nI od) (h3 : s 32 3 = nI na) (ho : od < 40) (hn : na ≤ 40) : fX8_keepAct 32 s = some (0, if na = 40 then wr (ovl s 35 (94 * ((od + na) % 40)) 94 (s 34)) 32 2 (nI ((od + 1) % 40)) else wr (ovl s 35 (94 * ((od + na) % 40)) 94 (s 34)) 32 3 (nI (na + 1))) := by
  have hm : (od + na) % 40 < 40 := Nat.mod_lt _ (by decide)
  rw [fX8_keepAct, h2, h3, nI_add, jrem_40 _ (by omega), c_saveTo rfl (by decide) (by show _ ≤ 3760; omega), bd_some]
  have e3 : (ovl s 35 (94 * ((od + na) % 40)) 94 (s 34)) 32 3 = nI na := by rw [ovl_slot (by decide), h3]
  have e2 : (ovl s 35 (94 * ((od + na) % 40)) 94 (s 34)) 32 2 = nI od := by rw [ovl_slot (by decide), h2]
  rw [e3]
  by_cases h : na = 40
  · subst h
    rw [if_pos (by decide), if_pos rfl, e2, zra_1, jrem_40 _ (by omega)]
  · rw [if_neg (by rw [zll_40 _ (by omega)]; omega), if_neg h, zra_1]
