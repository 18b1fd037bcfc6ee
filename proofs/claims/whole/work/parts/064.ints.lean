/-! compares by what the ints are -/
def zq_ci (cc : ClassFile.Cond) (x y : Int) : Prop := match cc with
  | .eq => x = y
  | .ne => ¬ x = y
  | .lt => x < y
  | .ge => y ≤ x
  | .gt => y < x
  | .le => x ≤ y
theorem zq_tt (cc : ClassFile.Cond) (x y : Int32) : zq_cc cc x y ↔ zq_ci cc x.toInt y.toInt := by
  cases cc with
  | eq => exact Int32.toInt_inj.symm
  | ne => exact not_congr Int32.toInt_inj.symm
  | lt => exact Int32.lt_iff_toInt_lt
  | ge => exact Int32.le_iff_toInt_le
  | gt => exact Int32.lt_iff_toInt_lt
  | le => exact Int32.le_iff_toInt_le
theorem zq_tn (cc : ClassFile.Cond) (x : Int32) {n : Nat} (hn : n < 2147483648) : zq_cc cc x (nI n) ↔ zq_ci cc x.toInt n := by
  rw [zq_tt, nI_toInt hn]
theorem zq_nt (cc : ClassFile.Cond) (y : Int32) {n : Nat} (hn : n < 2147483648) : zq_cc cc (nI n) y ↔ zq_ci cc n y.toInt := by
  rw [zq_tt, nI_toInt hn]
def zp2 (P : Nat) : Nat := 2 ^ P
theorem zp2_sh : ∀ P, P < 7 → (1 : Int32) <<< (nI P &&& 31) = nI (zp2 P) := by decide
theorem zp2_lt : ∀ P, P < 7 → zp2 P < 65 := by decide
