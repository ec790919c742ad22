theorem w_setSpouse {w p : Nat} {s : St} {v : Int32} (hw : LN (w + 1) = 94) (hp : p < 12) : fX10_setSpouse w (nI p) v s = some (0, wr s (w + 1) (60 + p) v) := by
  rw [fX10_setSpouse, zla_60, put_nI (by omega) (by omega), bd_some]
theorem w_join {w p q : Nat} {s : St} (hw : LN (w + 1) = 94) (hp : p < 12) (hq : q < 12) : fX10_join w (nI p) (nI q) s = some (0, wr (wr s (w + 1) (60 + p) (nI q)) (w + 1) (60 + q) (nI p)) := by
  rw [fX10_join, w_setSpouse hw hp, bd_some, w_setSpouse hw hq, bd_some]
