/-! Math.min, Math.max -/
section ZMM
variable {l : Launch} {M : zq_M} {d : Nat} {r : Option Value} {h' : zq_H} {pc : Nat} {ls : List (Nat × Value)} {h : zq_H} {idx : Nat} {rest : List Value}
def zq_rn (d : Nat) (rest : List Value) : Bool := Nat.ble 1 d && Nat.ble ((rest.map fun v => v.category).sum + 15) (35 * d)
theorem zq_mmin {x y : Int32} (hd : decode M.2.2.1 pc = .ok (.invokestatic idx, 3)) (hw : zq_cv M.1 idx mJ9_min_7cf53 2 ∧ Cond.static mJ9_min_7cf53.2.1 ∈ zq_g) (hr : zq_rn d rest = true)
    (kk : zq_G l M d r h' (pc + 3) (ls, .int (if y < x then y else x) :: rest, h)) : zq_G l M d r h' pc (ls, .int y :: .int x :: rest, h) := by
  unfold zq_rn at hr
  simp only [Bool.and_eq_true] at hr
  have hr1 := Nat.le_of_ble_eq_true hr.1
  have hr2 := Nat.le_of_ble_eq_true hr.2
  intro p e s m args below meth c ad D cy A H locs la hX hP hD hS hl
  have hts := hX.2.2.2.2.2.2.1
  obtain ⟨⟨w1, w2, w3, w4⟩, w5⟩ := hw
  exact va_mmin hX.1 hX.2.1 (by rw [hX.2.2.1]; exact hl.1.symm) hX.2.2.2.2.2.1 (hts _ w1) (hts _ w5) (hts _ w2) (hts _ w3) hr1 (by rw [zq_cat_sum]; show _ ≤ 35 * d; omega) (Nat.zero_le _) (Nat.zero_le _) hd (kk p e s m args below meth c ad D cy A H locs la hX hP hD hS hl)
theorem zq_mmax {x y : Int32} (hd : decode M.2.2.1 pc = .ok (.invokestatic idx, 3)) (hw : zq_cv M.1 idx mJ9_max_7cf53 2 ∧ Cond.static mJ9_max_7cf53.2.1 ∈ zq_g) (hr : zq_rn d rest = true)
    (kk : zq_G l M d r h' (pc + 3) (ls, .int (if x < y then y else x) :: rest, h)) : zq_G l M d r h' pc (ls, .int y :: .int x :: rest, h) := by
  unfold zq_rn at hr
  simp only [Bool.and_eq_true] at hr
  have hr1 := Nat.le_of_ble_eq_true hr.1
  have hr2 := Nat.le_of_ble_eq_true hr.2
  intro p e s m args below meth c ad D cy A H locs la hX hP hD hS hl
  have hts := hX.2.2.2.2.2.2.1
  obtain ⟨⟨w1, w2, w3, w4⟩, w5⟩ := hw
  exact va_mmax hX.1 hX.2.1 (by rw [hX.2.2.1]; exact hl.1.symm) hX.2.2.2.2.2.1 (hts _ w1) (hts _ w5) (hts _ w2) (hts _ w3) hr1 (by rw [zq_cat_sum]; show _ ≤ 35 * d; omega) (Nat.zero_le _) (Nat.zero_le _) hd (kk p e s m args below meth c ad D cy A H locs la hX hP hD hS hl)
theorem zq_mmaxJ {x y : Int64} (hd : decode M.2.2.1 pc = .ok (.invokestatic idx, 3)) (hw : zq_cv M.1 idx mJ9_max_f86c9 2 ∧ Cond.static mJ9_max_f86c9.2.1 ∈ zq_g) (hr : zq_rn d rest = true)
    (kk : zq_G l M d r h' (pc + 3) (ls, .long (if y < x then x else y) :: rest, h)) : zq_G l M d r h' pc (ls, .long y :: .long x :: rest, h) := by
  unfold zq_rn at hr
  simp only [Bool.and_eq_true] at hr
  have hr1 := Nat.le_of_ble_eq_true hr.1
  have hr2 := Nat.le_of_ble_eq_true hr.2
  intro p e s m args below meth c ad D cy A H locs la hX hP hD hS hl
  have hts := hX.2.2.2.2.2.2.1
  obtain ⟨⟨w1, w2, w3, w4⟩, w5⟩ := hw
  exact va_mmax_long hX.1 hX.2.1 (by rw [hX.2.2.1]; exact hl.1.symm) hX.2.2.2.2.2.1 (hts _ w1) (hts _ w5) (hts _ w2) (hts _ w3) hr1 (by rw [zq_cat_sum]; show _ ≤ 35 * d; omega) (Nat.zero_le _) (Nat.zero_le _) hd (kk p e s m args below meth c ad D cy A H locs la hX hP hD hS hl)
end ZMM
