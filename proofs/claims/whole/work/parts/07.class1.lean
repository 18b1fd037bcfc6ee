section XV1
variable {l : Launch} {tx : Nat → Int32} {n : Int32} {t dr : zT} {rd : zR} {w i0 i1 : zN} {kp : Nat → Int32} {dd : Int32} {tr : Int64} {m : Nat → zq_C} {h : zq_H}
variable {P C R L D N K : Nat} {hs ss cs gs vs ce de ke se : Nat → Int32} {sm : Int32}
set_option maxHeartbeats 4000000 in
set_option maxRecDepth 100000 in
theorem c_bit {x : Int32} {p : Int32}  : zq_P l mX11_bit 0 [.int x, .int p] (h) (some (.int (x >>> (p &&& 31) &&& 1))) (h) := by
  refine zq_start rfl rfl (Nat.le_of_ble_eq_true rfl) ?_
  show zq_G _ _ _ _ _ 0 ([(0, .int x), (1, .int p)], [], h)
  refine zq_b [zq_il 0, zq_il 1, zq_ishr (x >>> (p &&& 31)), zq_k 1, zq_iand ((x >>> (p &&& 31)) &&& 1)] [zq_ilchk 0, zq_ilchk 1, zq_is .ishr 1, zq_kchk 1, zq_is .iand 1] 5 rfl (by decide +kernel) ?_
  refine ⟨rfl, rfl, ?_⟩
  show zq_G _ _ _ _ _ 5 ([(0, .int x), (1, .int p)], [.int ((x >>> (p &&& 31)) &&& 1)], h)
  exact zq_iret (by decide +kernel) rfl rfl rfl
set_option maxHeartbeats 4000000 in
set_option maxRecDepth 100000 in
theorem c_isInSquare {x : Int32}  : zq_P l mX11_isInSquare 0 [.int x] (h) (some (.int (zb (¬ x < 0 ∧ x < 25)))) (h) := by
  refine zq_start rfl rfl (Nat.le_of_ble_eq_true rfl) ?_
  show zq_G _ _ _ _ _ 0 ([(0, .int x)], [], h)
  refine zq_b [zq_il 0] [zq_ilchk 0] 1 rfl (by decide +kernel) ?_
  show zq_G _ _ _ _ _ 1 ([(0, .int x)], [.int x], h)
  refine zq_ifz .lt 14 (x < 0) (by decide +kernel) (Iff.rfl) (fun c1 => ?_) (fun c1 => ?_)
  · show zq_G _ _ _ _ _ 14 ([(0, .int x)], [], h)
    refine zq_b [zq_k 0] [zq_kchk 0] 15 rfl (by decide +kernel) ?_
    show zq_G _ _ _ _ _ 15 ([(0, .int x)], [.int 0], h)
    exact zq_zret (by decide +kernel) rfl (Or.inl rfl) (zb_r (zb_f (by simp_all))) rfl
  · show zq_G _ _ _ _ _ 4 ([(0, .int x)], [], h)
    refine zq_b [zq_il 0, zq_k 25] [zq_ilchk 0, zq_kchk 25] 7 rfl (by decide +kernel) ?_
    show zq_G _ _ _ _ _ 7 ([(0, .int x)], [.int 25, .int x], h)
    refine zq_if .ge 14 (25 ≤ x) (by decide +kernel) (Iff.rfl) (fun c7 => ?_) (fun c7 => ?_)
    · show zq_G _ _ _ _ _ 14 ([(0, .int x)], [], h)
      refine zq_b [zq_k 0] [zq_kchk 0] 15 rfl (by decide +kernel) ?_
      show zq_G _ _ _ _ _ 15 ([(0, .int x)], [.int 0], h)
      exact zq_zret (by decide +kernel) rfl (Or.inl rfl) (zb_r (zb_f (by simp_all))) rfl
    · show zq_G _ _ _ _ _ 10 ([(0, .int x)], [], h)
      refine zq_b [zq_k 1, zq_go] [zq_kchk 1, zq_gochk] 15 rfl (by decide +kernel) ?_
      show zq_G _ _ _ _ _ 15 ([(0, .int x)], [.int 1], h)
      exact zq_zret (by decide +kernel) rfl (Or.inr rfl) (zb_r (zb_t (by simp_all))) rfl
end XV1
