section XV1
variable {l : Launch} {tx : Nat → Int32} {n : Int32} {t dr : zT} {rd : zR} {w i0 i1 : zN} {kp : Nat → Int32} {dd : Int32} {tr : Int64} {m : Nat → zq_C} {h : zq_H}
variable {P C R L D N K Z : Nat} {hs ss cs gs vs ce de ke se : Nat → Int32} {sm : Int32} {cn ga va : Nat → Nat}
theorem zi_step (k i : Nat) : zi ((k : Int) - 5 * (i : Int)) + Int32.ofInt (-5) = zi ((k : Int) - 5 * ((i + 1 : Nat) : Int)) := by
  rw [zi_add]
  congr 1
  omega
theorem zi_dn (k i : Nat) : zi ((k : Int) - 1 - (i : Int)) + Int32.ofInt (-1) = zi ((k : Int) - 1 - ((i + 1 : Nat) : Int)) := by
  rw [zi_add]
  congr 1
  omega
theorem zcm_t {mv : Int32} {wc q : Nat} {cn : Nat → Nat} (h : nI q = mv) : zcm mv wc cn q = wc := by unfold zcm; rw [if_pos h]
theorem zcm_f {mv : Int32} {wc q : Nat} {cn : Nat → Nat} (h : ¬ nI q = mv) : zcm mv wc cn q = cn q := by unfold zcm; rw [if_neg h]
set_option maxHeartbeats 4000000 in
set_option maxRecDepth 100000 in
theorem c_bit {x : Int32} {p : Int32}  : zq_P l mX11_bit 0 [.int x, .int p] (h) (some (.int (zbit x p))) (h) := by
  refine zq_start (by decide +kernel) rfl (Nat.le_of_ble_eq_true rfl) ?_
  show zq_G _ _ _ _ _ 0 ([(0, .int x), (1, .int p)], [], h)
  refine zq_b [zq_il 0, zq_il 1, zq_ishr (x >>> (p &&& 31)), zq_k 1, zq_iand ((x >>> (p &&& 31)) &&& 1)] [zq_ilchk 0, zq_ilchk 1, zq_is .ishr 1, zq_kchk 1, zq_is .iand 1] 5 rfl (by decide +kernel) ?_
  refine ⟨rfl, rfl, ?_⟩
  show zq_G _ _ _ _ _ 5 ([(0, .int x), (1, .int p)], [.int ((x >>> (p &&& 31)) &&& 1)], h)
  exact zq_iret (by decide +kernel) rfl rfl rfl
set_option maxHeartbeats 4000000 in
set_option maxRecDepth 100000 in
theorem c_isInSquare {a : Nat} (ha : a < 100) : zq_P l mX11_isInSquare 0 [.int (nI a)] (h) (some (.int (zb (a < 25)))) (h) := by
  refine zq_start (by decide +kernel) rfl (Nat.le_of_ble_eq_true rfl) ?_
  show zq_G _ _ _ _ _ 0 ([(0, .int (nI a))], [], h)
  refine zq_b [zq_il 0] [zq_ilchk 0] 1 rfl (by decide +kernel) ?_
  show zq_G _ _ _ _ _ 1 ([(0, .int (nI a))], [.int (nI a)], h)
  refine zq_ifz .lt 14 (a < 0) (by decide +kernel) (zq_clt (a := a) (b := 0) (by omega) (by omega)) (fun c1 => absurd c1 (by omega)) (fun c1 => ?_)
  show zq_G _ _ _ _ _ 4 ([(0, .int (nI a))], [], h)
  refine zq_b [zq_il 0, zq_k 25] [zq_ilchk 0, zq_kchk 25] 7 rfl (by decide +kernel) ?_
  show zq_G _ _ _ _ _ 7 ([(0, .int (nI a))], [.int 25, .int (nI a)], h)
  refine zq_if .ge 14 (25 ≤ a) (by decide +kernel) (zq_cge (a := a) (b := 25) (by omega) (by omega)) (fun c7 => ?_) (fun c7 => ?_)
  · show zq_G _ _ _ _ _ 14 ([(0, .int (nI a))], [], h)
    refine zq_b [zq_k 0] [zq_kchk 0] 15 rfl (by decide +kernel) ?_
    show zq_G _ _ _ _ _ 15 ([(0, .int (nI a))], [.int 0], h)
    exact zq_zret (by decide +kernel) rfl (Or.inl rfl) (zb_r (zb_f (by omega))) rfl
  · show zq_G _ _ _ _ _ 10 ([(0, .int (nI a))], [], h)
    refine zq_b [zq_k 1, zq_go] [zq_kchk 1, zq_gochk] 15 rfl (by decide +kernel) ?_
    show zq_G _ _ _ _ _ 15 ([(0, .int (nI a))], [.int 1], h)
    exact zq_zret (by decide +kernel) rfl (Or.inr rfl) (zb_r (zb_t (by omega))) rfl
set_option maxHeartbeats 4000000 in
set_option maxRecDepth 100000 in
theorem c_hasPerson {p : Int32}  : zq_P l mX9_hasPerson 0 [.ref 2, .int p] (XH tx n (nI P, nI C, nI R, nI L, hs, ss, cs, gs, vs) dr rd (nI D, sm, nI N, nI K, ce, de, ke, se) i0 i1 kp dd tr m) (some (.int (zb (¬ p < 0 ∧ p < (nI P))))) (XH tx n (nI P, nI C, nI R, nI L, hs, ss, cs, gs, vs) dr rd (nI D, sm, nI N, nI K, ce, de, ke, se) i0 i1 kp dd tr m) := by
  refine zq_start (by decide +kernel) rfl (Nat.le_of_ble_eq_true rfl) ?_
  show zq_G _ _ _ _ _ 0 ([(0, .ref 2), (1, .int p)], [], XH tx n (nI P, nI C, nI R, nI L, hs, ss, cs, gs, vs) dr rd (nI D, sm, nI N, nI K, ce, de, ke, se) i0 i1 kp dd tr m)
  refine zq_b [zq_il 1] [zq_ilchk 1] 1 rfl (by decide +kernel) ?_
  show zq_G _ _ _ _ _ 1 ([(0, .ref 2), (1, .int p)], [.int p], XH tx n (nI P, nI C, nI R, nI L, hs, ss, cs, gs, vs) dr rd (nI D, sm, nI N, nI K, ce, de, ke, se) i0 i1 kp dd tr m)
  refine zq_ifz .lt 16 (p < 0) (by decide +kernel) (Iff.rfl) (fun c1 => ?_) (fun c1 => ?_)
  · show zq_G _ _ _ _ _ 16 ([(0, .ref 2), (1, .int p)], [], XH tx n (nI P, nI C, nI R, nI L, hs, ss, cs, gs, vs) dr rd (nI D, sm, nI N, nI K, ce, de, ke, se) i0 i1 kp dd tr m)
    refine zq_b [zq_k 0] [zq_kchk 0] 17 rfl (by decide +kernel) ?_
    show zq_G _ _ _ _ _ 17 ([(0, .ref 2), (1, .int p)], [.int 0], XH tx n (nI P, nI C, nI R, nI L, hs, ss, cs, gs, vs) dr rd (nI D, sm, nI N, nI K, ce, de, ke, se) i0 i1 kp dd tr m)
    exact zq_zret (by decide +kernel) rfl (Or.inl rfl) (zb_r (zb_f (by simp_all))) rfl
  · show zq_G _ _ _ _ _ 4 ([(0, .ref 2), (1, .int p)], [], XH tx n (nI P, nI C, nI R, nI L, hs, ss, cs, gs, vs) dr rd (nI D, sm, nI N, nI K, ce, de, ke, se) i0 i1 kp dd tr m)
    refine zq_b [zq_il 1, zq_al 0, zq_get 9 0] [zq_ilchk 1, zq_alchk 0, zq_getchk 9 0] 9 rfl (by decide +kernel) ?_
    show zq_G _ _ _ _ _ 9 ([(0, .ref 2), (1, .int p)], [.int (nI P), .int p], XH tx n (nI P, nI C, nI R, nI L, hs, ss, cs, gs, vs) dr rd (nI D, sm, nI N, nI K, ce, de, ke, se) i0 i1 kp dd tr m)
    refine zq_if .ge 16 ((nI P) ≤ p) (by decide +kernel) (Iff.rfl) (fun c9 => ?_) (fun c9 => ?_)
    · show zq_G _ _ _ _ _ 16 ([(0, .ref 2), (1, .int p)], [], XH tx n (nI P, nI C, nI R, nI L, hs, ss, cs, gs, vs) dr rd (nI D, sm, nI N, nI K, ce, de, ke, se) i0 i1 kp dd tr m)
      refine zq_b [zq_k 0] [zq_kchk 0] 17 rfl (by decide +kernel) ?_
      show zq_G _ _ _ _ _ 17 ([(0, .ref 2), (1, .int p)], [.int 0], XH tx n (nI P, nI C, nI R, nI L, hs, ss, cs, gs, vs) dr rd (nI D, sm, nI N, nI K, ce, de, ke, se) i0 i1 kp dd tr m)
      exact zq_zret (by decide +kernel) rfl (Or.inl rfl) (zb_r (zb_f (by simp_all))) rfl
    · show zq_G _ _ _ _ _ 12 ([(0, .ref 2), (1, .int p)], [], XH tx n (nI P, nI C, nI R, nI L, hs, ss, cs, gs, vs) dr rd (nI D, sm, nI N, nI K, ce, de, ke, se) i0 i1 kp dd tr m)
      refine zq_b [zq_k 1, zq_go] [zq_kchk 1, zq_gochk] 17 rfl (by decide +kernel) ?_
      show zq_G _ _ _ _ _ 17 ([(0, .ref 2), (1, .int p)], [.int 1], XH tx n (nI P, nI C, nI R, nI L, hs, ss, cs, gs, vs) dr rd (nI D, sm, nI N, nI K, ce, de, ke, se) i0 i1 kp dd tr m)
      exact zq_zret (by decide +kernel) rfl (Or.inr rfl) (zb_r (zb_t (by simp_all))) rfl
set_option maxHeartbeats 4000000 in
set_option maxRecDepth 100000 in
theorem c_areBits {b : Int32}  : zq_P l mX9_areBits 0 [.ref 2, .int b] (XH tx n (nI P, nI C, nI R, nI L, hs, ss, cs, gs, vs) dr rd (nI D, sm, nI N, nI K, ce, de, ke, se) i0 i1 kp dd tr m) (some (.int (zb (¬ b < 0 ∧ b < (1 : Int32) <<< (nI P &&& 31))))) (XH tx n (nI P, nI C, nI R, nI L, hs, ss, cs, gs, vs) dr rd (nI D, sm, nI N, nI K, ce, de, ke, se) i0 i1 kp dd tr m) := by
  refine zq_start (by decide +kernel) rfl (Nat.le_of_ble_eq_true rfl) ?_
  show zq_G _ _ _ _ _ 0 ([(0, .ref 2), (1, .int b)], [], XH tx n (nI P, nI C, nI R, nI L, hs, ss, cs, gs, vs) dr rd (nI D, sm, nI N, nI K, ce, de, ke, se) i0 i1 kp dd tr m)
  refine zq_b [zq_il 1] [zq_ilchk 1] 1 rfl (by decide +kernel) ?_
  show zq_G _ _ _ _ _ 1 ([(0, .ref 2), (1, .int b)], [.int b], XH tx n (nI P, nI C, nI R, nI L, hs, ss, cs, gs, vs) dr rd (nI D, sm, nI N, nI K, ce, de, ke, se) i0 i1 kp dd tr m)
  refine zq_ifz .lt 18 (b < 0) (by decide +kernel) (Iff.rfl) (fun c1 => ?_) (fun c1 => ?_)
  · show zq_G _ _ _ _ _ 18 ([(0, .ref 2), (1, .int b)], [], XH tx n (nI P, nI C, nI R, nI L, hs, ss, cs, gs, vs) dr rd (nI D, sm, nI N, nI K, ce, de, ke, se) i0 i1 kp dd tr m)
    refine zq_b [zq_k 0] [zq_kchk 0] 19 rfl (by decide +kernel) ?_
    show zq_G _ _ _ _ _ 19 ([(0, .ref 2), (1, .int b)], [.int 0], XH tx n (nI P, nI C, nI R, nI L, hs, ss, cs, gs, vs) dr rd (nI D, sm, nI N, nI K, ce, de, ke, se) i0 i1 kp dd tr m)
    exact zq_zret (by decide +kernel) rfl (Or.inl rfl) (zb_r (zb_f (by simp_all))) rfl
  · show zq_G _ _ _ _ _ 4 ([(0, .ref 2), (1, .int b)], [], XH tx n (nI P, nI C, nI R, nI L, hs, ss, cs, gs, vs) dr rd (nI D, sm, nI N, nI K, ce, de, ke, se) i0 i1 kp dd tr m)
    refine zq_b [zq_il 1, zq_k 1, zq_al 0, zq_get 9 0, zq_ishl (1 <<< (nI P &&& 31))] [zq_ilchk 1, zq_kchk 1, zq_alchk 0, zq_getchk 9 0, zq_is .ishl 1] 11 rfl (by decide +kernel) ?_
    refine ⟨rfl, ?_⟩
    show zq_G _ _ _ _ _ 11 ([(0, .ref 2), (1, .int b)], [.int (1 <<< (nI P &&& 31)), .int b], XH tx n (nI P, nI C, nI R, nI L, hs, ss, cs, gs, vs) dr rd (nI D, sm, nI N, nI K, ce, de, ke, se) i0 i1 kp dd tr m)
    refine zq_if .ge 18 ((1 <<< (nI P &&& 31)) ≤ b) (by decide +kernel) (Iff.rfl) (fun c11 => ?_) (fun c11 => ?_)
    · show zq_G _ _ _ _ _ 18 ([(0, .ref 2), (1, .int b)], [], XH tx n (nI P, nI C, nI R, nI L, hs, ss, cs, gs, vs) dr rd (nI D, sm, nI N, nI K, ce, de, ke, se) i0 i1 kp dd tr m)
      refine zq_b [zq_k 0] [zq_kchk 0] 19 rfl (by decide +kernel) ?_
      show zq_G _ _ _ _ _ 19 ([(0, .ref 2), (1, .int b)], [.int 0], XH tx n (nI P, nI C, nI R, nI L, hs, ss, cs, gs, vs) dr rd (nI D, sm, nI N, nI K, ce, de, ke, se) i0 i1 kp dd tr m)
      exact zq_zret (by decide +kernel) rfl (Or.inl rfl) (zb_r (zb_f (by simp_all))) rfl
    · show zq_G _ _ _ _ _ 14 ([(0, .ref 2), (1, .int b)], [], XH tx n (nI P, nI C, nI R, nI L, hs, ss, cs, gs, vs) dr rd (nI D, sm, nI N, nI K, ce, de, ke, se) i0 i1 kp dd tr m)
      refine zq_b [zq_k 1, zq_go] [zq_kchk 1, zq_gochk] 19 rfl (by decide +kernel) ?_
      show zq_G _ _ _ _ _ 19 ([(0, .ref 2), (1, .int b)], [.int 1], XH tx n (nI P, nI C, nI R, nI L, hs, ss, cs, gs, vs) dr rd (nI D, sm, nI N, nI K, ce, de, ke, se) i0 i1 kp dd tr m)
      exact zq_zret (by decide +kernel) rfl (Or.inr rfl) (zb_r (zb_t (by simp_all))) rfl
set_option maxHeartbeats 4000000 in
set_option maxRecDepth 100000 in
theorem c_hasCloud {day : Int32} (hC : C ≤ 8) : zq_P l mX9_hasCloud 0 [.ref 2, .int day] (XH tx n (nI P, nI C, nI R, nI L, hs, ss, cs, gs, vs) dr rd (nI D, sm, nI N, nI K, ce, de, ke, se) i0 i1 kp dd tr m) (some (.int (zb (zany (fun i => decide (cs i = day)) C = true)))) (XH tx n (nI P, nI C, nI R, nI L, hs, ss, cs, gs, vs) dr rd (nI D, sm, nI N, nI K, ce, de, ke, se) i0 i1 kp dd tr m) := by
  refine zq_start (by decide +kernel) rfl (Nat.le_of_ble_eq_true rfl) ?_
  show zq_G _ _ _ _ _ 0 ([(0, .ref 2), (1, .int day)], [], XH tx n (nI P, nI C, nI R, nI L, hs, ss, cs, gs, vs) dr rd (nI D, sm, nI N, nI K, ce, de, ke, se) i0 i1 kp dd tr m)
  refine zq_b [zq_k 0, zq_is1 2] [zq_kchk 0, zq_is1chk 2] 2 rfl (by decide +kernel) ?_
  show zq_G _ _ _ _ _ 2 ([(0, .ref 2), (1, .int day), (2, .int 0)], [], XH tx n (nI P, nI C, nI R, nI L, hs, ss, cs, gs, vs) dr rd (nI D, sm, nI N, nI K, ce, de, ke, se) i0 i1 kp dd tr m)
  refine zq_loop (fun i => ([(0, .ref 2), (1, .int day), (2, .int (nI i))], [], XH tx n (nI P, nI C, nI R, nI L, hs, ss, cs, gs, vs) dr rd (nI D, sm, nI N, nI K, ce, de, ke, se) i0 i1 kp dd tr m)) (fun i => ∀ j, j < i → decide (cs j = day) = false) (C) (0) (by omega) ((fun j hj => absurd hj (by omega))) (fun i hl2 hi2 hI2 ih2 => ?_) (fun hI2 => ?_)
  · show zq_G _ _ _ _ _ 2 ([(0, .ref 2), (1, .int day), (2, .int (nI i))], [], XH tx n (nI P, nI C, nI R, nI L, hs, ss, cs, gs, vs) dr rd (nI D, sm, nI N, nI K, ce, de, ke, se) i0 i1 kp dd tr m)
    refine zq_b [zq_il 2, zq_al 0, zq_get 9 1] [zq_ilchk 2, zq_alchk 0, zq_getchk 9 1] 7 rfl (by decide +kernel) ?_
    show zq_G _ _ _ _ _ 7 ([(0, .ref 2), (1, .int day), (2, .int (nI i))], [.int (nI C), .int (nI i)], XH tx n (nI P, nI C, nI R, nI L, hs, ss, cs, gs, vs) dr rd (nI D, sm, nI N, nI K, ce, de, ke, se) i0 i1 kp dd tr m)
    refine zq_if .ge 28 (C ≤ i) (by decide +kernel) (zq_cge (a := i) (b := C) (by omega) (by omega)) (fun c7 => absurd c7 (by omega)) (fun c7 => ?_)
    show zq_G _ _ _ _ _ 10 ([(0, .ref 2), (1, .int day), (2, .int (nI i))], [], XH tx n (nI P, nI C, nI R, nI L, hs, ss, cs, gs, vs) dr rd (nI D, sm, nI N, nI K, ce, de, ke, se) i0 i1 kp dd tr m)
    refine zq_b [zq_al 0, zq_get 9 6, zq_il 2, zq_iald i (cs i), zq_il 1] [zq_alchk 0, zq_getchk 9 6, zq_ilchk 2, zq_is .iaload 1, zq_ilchk 1] 17 rfl (by decide +kernel) ?_
    refine ⟨rfl, (by omega), (by omega), rfl, ?_⟩
    show zq_G _ _ _ _ _ 17 ([(0, .ref 2), (1, .int day), (2, .int (nI i))], [.int day, .int (cs i)], XH tx n (nI P, nI C, nI R, nI L, hs, ss, cs, gs, vs) dr rd (nI D, sm, nI N, nI K, ce, de, ke, se) i0 i1 kp dd tr m)
    refine zq_if .ne 22 (¬ (cs i) = day) (by decide +kernel) (Iff.rfl) (fun c17 => ?_) (fun c17 => ?_)
    · show zq_G _ _ _ _ _ 22 ([(0, .ref 2), (1, .int day), (2, .int (nI i))], [], XH tx n (nI P, nI C, nI R, nI L, hs, ss, cs, gs, vs) dr rd (nI D, sm, nI N, nI K, ce, de, ke, se) i0 i1 kp dd tr m)
      refine zq_b [zq_inc 2 1 (nI (i + 1)), zq_go] [zq_incchk 2 1, zq_gochk] 2 rfl (by decide +kernel) ?_
      refine ⟨nI_add i 1, ?_⟩
      show zq_G _ _ _ _ _ 2 ([(0, .ref 2), (1, .int day), (2, .int (nI (i + 1)))], [], XH tx n (nI P, nI C, nI R, nI L, hs, ss, cs, gs, vs) dr rd (nI D, sm, nI N, nI K, ce, de, ke, se) i0 i1 kp dd tr m)
      exact ih2 (lt_ext hI2 (decide_eq_false c17))
    · show zq_G _ _ _ _ _ 20 ([(0, .ref 2), (1, .int day), (2, .int (nI i))], [], XH tx n (nI P, nI C, nI R, nI L, hs, ss, cs, gs, vs) dr rd (nI D, sm, nI N, nI K, ce, de, ke, se) i0 i1 kp dd tr m)
      refine zq_b [zq_k 1] [zq_kchk 1] 21 rfl (by decide +kernel) ?_
      show zq_G _ _ _ _ _ 21 ([(0, .ref 2), (1, .int day), (2, .int (nI i))], [.int 1], XH tx n (nI P, nI C, nI R, nI L, hs, ss, cs, gs, vs) dr rd (nI D, sm, nI N, nI K, ce, de, ke, se) i0 i1 kp dd tr m)
      exact zq_zret (by decide +kernel) rfl (Or.inr rfl) (zb_r (zb_t (zany_i hi2 (by simpa using c17)))) rfl
  · show zq_G _ _ _ _ _ 2 ([(0, .ref 2), (1, .int day), (2, .int (nI C))], [], XH tx n (nI P, nI C, nI R, nI L, hs, ss, cs, gs, vs) dr rd (nI D, sm, nI N, nI K, ce, de, ke, se) i0 i1 kp dd tr m)
    refine zq_b [zq_il 2, zq_al 0, zq_get 9 1] [zq_ilchk 2, zq_alchk 0, zq_getchk 9 1] 7 rfl (by decide +kernel) ?_
    show zq_G _ _ _ _ _ 7 ([(0, .ref 2), (1, .int day), (2, .int (nI C))], [.int (nI C), .int (nI C)], XH tx n (nI P, nI C, nI R, nI L, hs, ss, cs, gs, vs) dr rd (nI D, sm, nI N, nI K, ce, de, ke, se) i0 i1 kp dd tr m)
    refine zq_if .ge 28 (C ≤ C) (by decide +kernel) (zq_cge (a := C) (b := C) (by omega) (by omega)) (fun c7 => ?_) (fun c7 => absurd (by omega) c7)
    show zq_G _ _ _ _ _ 28 ([(0, .ref 2), (1, .int day), (2, .int (nI C))], [], XH tx n (nI P, nI C, nI R, nI L, hs, ss, cs, gs, vs) dr rd (nI D, sm, nI N, nI K, ce, de, ke, se) i0 i1 kp dd tr m)
    refine zq_b [zq_k 0] [zq_kchk 0] 29 rfl (by decide +kernel) ?_
    show zq_G _ _ _ _ _ 29 ([(0, .ref 2), (1, .int day), (2, .int (nI C))], [.int 0], XH tx n (nI P, nI C, nI R, nI L, hs, ss, cs, gs, vs) dr rd (nI D, sm, nI N, nI K, ce, de, ke, se) i0 i1 kp dd tr m)
    exact zq_zret (by decide +kernel) rfl (Or.inl rfl) (zb_r (zb_f (by rw [zany_f hI2]; exact Bool.false_ne_true))) rfl
set_option maxHeartbeats 4000000 in
set_option maxRecDepth 100000 in
theorem c_ofHeight {x : Int32} (hP : P ≤ 6) : zq_P l mX9_ofHeight 0 [.ref 2, .int x] (XH tx n (nI P, nI C, nI R, nI L, hs, ss, cs, gs, vs) dr rd (nI D, sm, nI N, nI K, ce, de, ke, se) i0 i1 kp dd tr m) (some (.int (orB (fun p => decide (hs p = x)) P))) (XH tx n (nI P, nI C, nI R, nI L, hs, ss, cs, gs, vs) dr rd (nI D, sm, nI N, nI K, ce, de, ke, se) i0 i1 kp dd tr m) := by
  refine zq_start (by decide +kernel) rfl (Nat.le_of_ble_eq_true rfl) ?_
  show zq_G _ _ _ _ _ 0 ([(0, .ref 2), (1, .int x)], [], XH tx n (nI P, nI C, nI R, nI L, hs, ss, cs, gs, vs) dr rd (nI D, sm, nI N, nI K, ce, de, ke, se) i0 i1 kp dd tr m)
  refine zq_b [zq_k 0, zq_is1 2, zq_k 0, zq_is1 3] [zq_kchk 0, zq_is1chk 2, zq_kchk 0, zq_is1chk 3] 4 rfl (by decide +kernel) ?_
  show zq_G _ _ _ _ _ 4 ([(0, .ref 2), (1, .int x), (2, .int 0), (3, .int 0)], [], XH tx n (nI P, nI C, nI R, nI L, hs, ss, cs, gs, vs) dr rd (nI D, sm, nI N, nI K, ce, de, ke, se) i0 i1 kp dd tr m)
  refine zq_loop (fun i => ([(0, .ref 2), (1, .int x), (2, .int (orB (fun p => decide (hs p = x)) i)), (3, .int (nI i))], [], XH tx n (nI P, nI C, nI R, nI L, hs, ss, cs, gs, vs) dr rd (nI D, sm, nI N, nI K, ce, de, ke, se) i0 i1 kp dd tr m)) (fun i => True) (P) (0) (by omega) (trivial) (fun i hl4 hi4 hI4 ih4 => ?_) (fun hI4 => ?_)
  · show zq_G _ _ _ _ _ 4 ([(0, .ref 2), (1, .int x), (2, .int (orB (fun p => decide (hs p = x)) i)), (3, .int (nI i))], [], XH tx n (nI P, nI C, nI R, nI L, hs, ss, cs, gs, vs) dr rd (nI D, sm, nI N, nI K, ce, de, ke, se) i0 i1 kp dd tr m)
    refine zq_b [zq_il 3, zq_al 0, zq_get 9 0] [zq_ilchk 3, zq_alchk 0, zq_getchk 9 0] 9 rfl (by decide +kernel) ?_
    show zq_G _ _ _ _ _ 9 ([(0, .ref 2), (1, .int x), (2, .int (orB (fun p => decide (hs p = x)) i)), (3, .int (nI i))], [.int (nI P), .int (nI i)], XH tx n (nI P, nI C, nI R, nI L, hs, ss, cs, gs, vs) dr rd (nI D, sm, nI N, nI K, ce, de, ke, se) i0 i1 kp dd tr m)
    refine zq_if .ge 34 (P ≤ i) (by decide +kernel) (zq_cge (a := i) (b := P) (by omega) (by omega)) (fun c9 => absurd c9 (by omega)) (fun c9 => ?_)
    show zq_G _ _ _ _ _ 12 ([(0, .ref 2), (1, .int x), (2, .int (orB (fun p => decide (hs p = x)) i)), (3, .int (nI i))], [], XH tx n (nI P, nI C, nI R, nI L, hs, ss, cs, gs, vs) dr rd (nI D, sm, nI N, nI K, ce, de, ke, se) i0 i1 kp dd tr m)
    refine zq_b [zq_al 0, zq_get 9 4, zq_il 3, zq_iald i (hs i), zq_il 1] [zq_alchk 0, zq_getchk 9 4, zq_ilchk 3, zq_is .iaload 1, zq_ilchk 1] 19 rfl (by decide +kernel) ?_
    refine ⟨rfl, (by omega), (by omega), rfl, ?_⟩
    show zq_G _ _ _ _ _ 19 ([(0, .ref 2), (1, .int x), (2, .int (orB (fun p => decide (hs p = x)) i)), (3, .int (nI i))], [.int x, .int (hs i)], XH tx n (nI P, nI C, nI R, nI L, hs, ss, cs, gs, vs) dr rd (nI D, sm, nI N, nI K, ce, de, ke, se) i0 i1 kp dd tr m)
    refine zq_if .ne 28 (¬ (hs i) = x) (by decide +kernel) (Iff.rfl) (fun c19 => ?_) (fun c19 => ?_)
    · show zq_G _ _ _ _ _ 28 ([(0, .ref 2), (1, .int x), (2, .int (orB (fun p => decide (hs p = x)) i)), (3, .int (nI i))], [], XH tx n (nI P, nI C, nI R, nI L, hs, ss, cs, gs, vs) dr rd (nI D, sm, nI N, nI K, ce, de, ke, se) i0 i1 kp dd tr m)
      refine zq_b [zq_inc 3 1 (nI (i + 1)), zq_go] [zq_incchk 3 1, zq_gochk] 4 rfl (by decide +kernel) ?_
      refine ⟨nI_add i 1, ?_⟩
      show zq_G _ _ _ _ _ 4 ([(0, .ref 2), (1, .int x), (2, .int (orB (fun p => decide (hs p = x)) i)), (3, .int (nI (i + 1)))], [], XH tx n (nI P, nI C, nI R, nI L, hs, ss, cs, gs, vs) dr rd (nI D, sm, nI N, nI K, ce, de, ke, se) i0 i1 kp dd tr m)
      exact zq_eq (by rw [orB_f (by simp_all)]) (ih4 trivial)
    · show zq_G _ _ _ _ _ 22 ([(0, .ref 2), (1, .int x), (2, .int (orB (fun p => decide (hs p = x)) i)), (3, .int (nI i))], [], XH tx n (nI P, nI C, nI R, nI L, hs, ss, cs, gs, vs) dr rd (nI D, sm, nI N, nI K, ce, de, ke, se) i0 i1 kp dd tr m)
      refine zq_b [zq_il 2, zq_k 1, zq_il 3, zq_ishl (1 <<< (nI i &&& 31)), zq_ior ((orB (fun p => decide (hs p = x)) i) ||| (1 <<< (nI i &&& 31))), zq_is1 2, zq_inc 3 1 (nI (i + 1)), zq_go] [zq_ilchk 2, zq_kchk 1, zq_ilchk 3, zq_is .ishl 1, zq_is .ior 1, zq_is1chk 2, zq_incchk 3 1, zq_gochk] 4 rfl (by decide +kernel) ?_
      refine ⟨rfl, rfl, nI_add i 1, ?_⟩
      show zq_G _ _ _ _ _ 4 ([(0, .ref 2), (1, .int x), (2, .int ((orB (fun p => decide (hs p = x)) i) ||| (1 <<< (nI i &&& 31)))), (3, .int (nI (i + 1)))], [], XH tx n (nI P, nI C, nI R, nI L, hs, ss, cs, gs, vs) dr rd (nI D, sm, nI N, nI K, ce, de, ke, se) i0 i1 kp dd tr m)
      exact zq_eq (by rw [orB_t (by simp_all)]) (ih4 trivial)
  · show zq_G _ _ _ _ _ 4 ([(0, .ref 2), (1, .int x), (2, .int (orB (fun p => decide (hs p = x)) P)), (3, .int (nI P))], [], XH tx n (nI P, nI C, nI R, nI L, hs, ss, cs, gs, vs) dr rd (nI D, sm, nI N, nI K, ce, de, ke, se) i0 i1 kp dd tr m)
    refine zq_b [zq_il 3, zq_al 0, zq_get 9 0] [zq_ilchk 3, zq_alchk 0, zq_getchk 9 0] 9 rfl (by decide +kernel) ?_
    show zq_G _ _ _ _ _ 9 ([(0, .ref 2), (1, .int x), (2, .int (orB (fun p => decide (hs p = x)) P)), (3, .int (nI P))], [.int (nI P), .int (nI P)], XH tx n (nI P, nI C, nI R, nI L, hs, ss, cs, gs, vs) dr rd (nI D, sm, nI N, nI K, ce, de, ke, se) i0 i1 kp dd tr m)
    refine zq_if .ge 34 (P ≤ P) (by decide +kernel) (zq_cge (a := P) (b := P) (by omega) (by omega)) (fun c9 => ?_) (fun c9 => absurd (by omega) c9)
    show zq_G _ _ _ _ _ 34 ([(0, .ref 2), (1, .int x), (2, .int (orB (fun p => decide (hs p = x)) P)), (3, .int (nI P))], [], XH tx n (nI P, nI C, nI R, nI L, hs, ss, cs, gs, vs) dr rd (nI D, sm, nI N, nI K, ce, de, ke, se) i0 i1 kp dd tr m)
    refine zq_b [zq_il 2] [zq_ilchk 2] 35 rfl (by decide +kernel) ?_
    show zq_G _ _ _ _ _ 35 ([(0, .ref 2), (1, .int x), (2, .int (orB (fun p => decide (hs p = x)) P)), (3, .int (nI P))], [.int (orB (fun p => decide (hs p = x)) P)], XH tx n (nI P, nI C, nI R, nI L, hs, ss, cs, gs, vs) dr rd (nI D, sm, nI N, nI K, ce, de, ke, se) i0 i1 kp dd tr m)
    exact zq_iret (by decide +kernel) rfl rfl rfl
set_option maxHeartbeats 4000000 in
set_option maxRecDepth 100000 in
theorem c_hasDeed {i : Int32}  : zq_P l mX5_hasDeed 0 [.ref 15, .int i] (XH tx n (nI P, nI C, nI R, nI L, hs, ss, cs, gs, vs) dr rd (nI D, sm, nI N, nI K, ce, de, ke, se) i0 i1 kp dd tr m) (some (.int (zb (¬ i < 0 ∧ i < (nI N))))) (XH tx n (nI P, nI C, nI R, nI L, hs, ss, cs, gs, vs) dr rd (nI D, sm, nI N, nI K, ce, de, ke, se) i0 i1 kp dd tr m) := by
  refine zq_start (by decide +kernel) rfl (Nat.le_of_ble_eq_true rfl) ?_
  show zq_G _ _ _ _ _ 0 ([(0, .ref 15), (1, .int i)], [], XH tx n (nI P, nI C, nI R, nI L, hs, ss, cs, gs, vs) dr rd (nI D, sm, nI N, nI K, ce, de, ke, se) i0 i1 kp dd tr m)
  refine zq_b [zq_il 1] [zq_ilchk 1] 1 rfl (by decide +kernel) ?_
  show zq_G _ _ _ _ _ 1 ([(0, .ref 15), (1, .int i)], [.int i], XH tx n (nI P, nI C, nI R, nI L, hs, ss, cs, gs, vs) dr rd (nI D, sm, nI N, nI K, ce, de, ke, se) i0 i1 kp dd tr m)
  refine zq_ifz .lt 16 (i < 0) (by decide +kernel) (Iff.rfl) (fun c1 => ?_) (fun c1 => ?_)
  · show zq_G _ _ _ _ _ 16 ([(0, .ref 15), (1, .int i)], [], XH tx n (nI P, nI C, nI R, nI L, hs, ss, cs, gs, vs) dr rd (nI D, sm, nI N, nI K, ce, de, ke, se) i0 i1 kp dd tr m)
    refine zq_b [zq_k 0] [zq_kchk 0] 17 rfl (by decide +kernel) ?_
    show zq_G _ _ _ _ _ 17 ([(0, .ref 15), (1, .int i)], [.int 0], XH tx n (nI P, nI C, nI R, nI L, hs, ss, cs, gs, vs) dr rd (nI D, sm, nI N, nI K, ce, de, ke, se) i0 i1 kp dd tr m)
    exact zq_zret (by decide +kernel) rfl (Or.inl rfl) (zb_r (zb_f (by simp_all))) rfl
  · show zq_G _ _ _ _ _ 4 ([(0, .ref 15), (1, .int i)], [], XH tx n (nI P, nI C, nI R, nI L, hs, ss, cs, gs, vs) dr rd (nI D, sm, nI N, nI K, ce, de, ke, se) i0 i1 kp dd tr m)
    refine zq_b [zq_il 1, zq_al 0, zq_get 5 3] [zq_ilchk 1, zq_alchk 0, zq_getchk 5 3] 9 rfl (by decide +kernel) ?_
    show zq_G _ _ _ _ _ 9 ([(0, .ref 15), (1, .int i)], [.int (nI N), .int i], XH tx n (nI P, nI C, nI R, nI L, hs, ss, cs, gs, vs) dr rd (nI D, sm, nI N, nI K, ce, de, ke, se) i0 i1 kp dd tr m)
    refine zq_if .ge 16 ((nI N) ≤ i) (by decide +kernel) (Iff.rfl) (fun c9 => ?_) (fun c9 => ?_)
    · show zq_G _ _ _ _ _ 16 ([(0, .ref 15), (1, .int i)], [], XH tx n (nI P, nI C, nI R, nI L, hs, ss, cs, gs, vs) dr rd (nI D, sm, nI N, nI K, ce, de, ke, se) i0 i1 kp dd tr m)
      refine zq_b [zq_k 0] [zq_kchk 0] 17 rfl (by decide +kernel) ?_
      show zq_G _ _ _ _ _ 17 ([(0, .ref 15), (1, .int i)], [.int 0], XH tx n (nI P, nI C, nI R, nI L, hs, ss, cs, gs, vs) dr rd (nI D, sm, nI N, nI K, ce, de, ke, se) i0 i1 kp dd tr m)
      exact zq_zret (by decide +kernel) rfl (Or.inl rfl) (zb_r (zb_f (by simp_all))) rfl
    · show zq_G _ _ _ _ _ 12 ([(0, .ref 15), (1, .int i)], [], XH tx n (nI P, nI C, nI R, nI L, hs, ss, cs, gs, vs) dr rd (nI D, sm, nI N, nI K, ce, de, ke, se) i0 i1 kp dd tr m)
      refine zq_b [zq_k 1, zq_go] [zq_kchk 1, zq_gochk] 17 rfl (by decide +kernel) ?_
      show zq_G _ _ _ _ _ 17 ([(0, .ref 15), (1, .int i)], [.int 1], XH tx n (nI P, nI C, nI R, nI L, hs, ss, cs, gs, vs) dr rd (nI D, sm, nI N, nI K, ce, de, ke, se) i0 i1 kp dd tr m)
      exact zq_zret (by decide +kernel) rfl (Or.inr rfl) (zb_r (zb_t (by simp_all))) rfl
set_option maxHeartbeats 4000000 in
set_option maxRecDepth 100000 in
theorem c_ofDeed {i : Nat} {k : Nat} (hi : i < 12) (hk : k < 5) : zq_P l mX5_ofDeed 0 [.ref 15, .int (nI i), .int (nI k)] (XH tx n (nI P, nI C, nI R, nI L, hs, ss, cs, gs, vs) dr rd (nI D, sm, nI N, nI K, ce, de, ke, se) i0 i1 kp dd tr m) (some (.int (de (i * 5 + k)))) (XH tx n (nI P, nI C, nI R, nI L, hs, ss, cs, gs, vs) dr rd (nI D, sm, nI N, nI K, ce, de, ke, se) i0 i1 kp dd tr m) := by
  refine zq_start (by decide +kernel) rfl (Nat.le_of_ble_eq_true rfl) ?_
  show zq_G _ _ _ _ _ 0 ([(0, .ref 15), (1, .int (nI i)), (2, .int (nI k))], [], XH tx n (nI P, nI C, nI R, nI L, hs, ss, cs, gs, vs) dr rd (nI D, sm, nI N, nI K, ce, de, ke, se) i0 i1 kp dd tr m)
  refine zq_b [zq_al 0, zq_get 5 6, zq_il 1, zq_k 5, zq_imul (nI (i * 5)), zq_il 2, zq_iadd (nI (i * 5 + k)), zq_iald (i * 5 + k) (de (i * 5 + k))] [zq_alchk 0, zq_getchk 5 6, zq_ilchk 1, zq_kchk 5, zq_is .imul 1, zq_ilchk 2, zq_is .iadd 1, zq_is .iaload 1] 10 rfl (by decide +kernel) ?_
  refine ⟨(pk_mul i 5), (nI_add (i * 5) k), rfl, (by omega), (by omega), rfl, ?_⟩
  show zq_G _ _ _ _ _ 10 ([(0, .ref 15), (1, .int (nI i)), (2, .int (nI k))], [.int (de (i * 5 + k))], XH tx n (nI P, nI C, nI R, nI L, hs, ss, cs, gs, vs) dr rd (nI D, sm, nI N, nI K, ce, de, ke, se) i0 i1 kp dd tr m)
  exact zq_iret (by decide +kernel) rfl rfl rfl
set_option maxHeartbeats 4000000 in
set_option maxRecDepth 100000 in
theorem c_deedsOfAct {x : Int32} (hN : N ≤ 12) : zq_P l mX5_deedsOfAct 1 [.ref 15, .int x] (XH tx n (nI P, nI C, nI R, nI L, hs, ss, cs, gs, vs) dr rd (nI D, sm, nI N, nI K, ce, de, ke, se) i0 i1 kp dd tr m) (some (.int (nI (zct (fun i => decide (de (i * 5 + 1) = x)) N)))) (XH tx n (nI P, nI C, nI R, nI L, hs, ss, cs, gs, vs) dr rd (nI D, sm, nI N, nI K, ce, de, ke, se) i0 i1 kp dd tr m) := by
  refine zq_start (by decide +kernel) rfl (Nat.le_of_ble_eq_true rfl) ?_
  show zq_G _ _ _ _ _ 0 ([(0, .ref 15), (1, .int x)], [], XH tx n (nI P, nI C, nI R, nI L, hs, ss, cs, gs, vs) dr rd (nI D, sm, nI N, nI K, ce, de, ke, se) i0 i1 kp dd tr m)
  refine zq_b [zq_k 0, zq_is1 2, zq_k 0, zq_is1 3] [zq_kchk 0, zq_is1chk 2, zq_kchk 0, zq_is1chk 3] 4 rfl (by decide +kernel) ?_
  show zq_G _ _ _ _ _ 4 ([(0, .ref 15), (1, .int x), (2, .int 0), (3, .int 0)], [], XH tx n (nI P, nI C, nI R, nI L, hs, ss, cs, gs, vs) dr rd (nI D, sm, nI N, nI K, ce, de, ke, se) i0 i1 kp dd tr m)
  refine zq_loop (fun i => ([(0, .ref 15), (1, .int x), (2, .int (nI (zct (fun i => decide (de (i * 5 + 1) = x)) i))), (3, .int (nI i))], [], XH tx n (nI P, nI C, nI R, nI L, hs, ss, cs, gs, vs) dr rd (nI D, sm, nI N, nI K, ce, de, ke, se) i0 i1 kp dd tr m)) (fun i => True) (N) (0) (by omega) (trivial) (fun i hl4 hi4 hI4 ih4 => ?_) (fun hI4 => ?_)
  · show zq_G _ _ _ _ _ 4 ([(0, .ref 15), (1, .int x), (2, .int (nI (zct (fun i => decide (de (i * 5 + 1) = x)) i))), (3, .int (nI i))], [], XH tx n (nI P, nI C, nI R, nI L, hs, ss, cs, gs, vs) dr rd (nI D, sm, nI N, nI K, ce, de, ke, se) i0 i1 kp dd tr m)
    refine zq_b [zq_il 3, zq_al 0, zq_get 5 3] [zq_ilchk 3, zq_alchk 0, zq_getchk 5 3] 9 rfl (by decide +kernel) ?_
    show zq_G _ _ _ _ _ 9 ([(0, .ref 15), (1, .int x), (2, .int (nI (zct (fun i => decide (de (i * 5 + 1) = x)) i))), (3, .int (nI i))], [.int (nI N), .int (nI i)], XH tx n (nI P, nI C, nI R, nI L, hs, ss, cs, gs, vs) dr rd (nI D, sm, nI N, nI K, ce, de, ke, se) i0 i1 kp dd tr m)
    refine zq_if .ge 31 (N ≤ i) (by decide +kernel) (zq_cge (a := i) (b := N) (by omega) (by omega)) (fun c9 => absurd c9 (by omega)) (fun c9 => ?_)
    show zq_G _ _ _ _ _ 12 ([(0, .ref 15), (1, .int x), (2, .int (nI (zct (fun i => decide (de (i * 5 + 1) = x)) i))), (3, .int (nI i))], [], XH tx n (nI P, nI C, nI R, nI L, hs, ss, cs, gs, vs) dr rd (nI D, sm, nI N, nI K, ce, de, ke, se) i0 i1 kp dd tr m)
    refine zq_b [zq_al 0, zq_il 3, zq_k 1] [zq_alchk 0, zq_ilchk 3, zq_kchk 1] 15 rfl (by decide +kernel) ?_
    show zq_G _ _ _ _ _ 15 ([(0, .ref 15), (1, .int x), (2, .int (nI (zct (fun i => decide (de (i * 5 + 1) = x)) i))), (3, .int (nI i))], [.int 1, .int (nI i), .ref 15], XH tx n (nI P, nI C, nI R, nI L, hs, ss, cs, gs, vs) dr rd (nI D, sm, nI N, nI K, ce, de, ke, se) i0 i1 kp dd tr m)
    refine zq_callV (av := [.int (nI i), .int 1]) (rest := []) (by decide +kernel) k5_64 (c_ofDeed (i := i) (k := 1) (by omega) (by omega)) rfl rfl rfl rfl ?_
    show zq_G _ _ _ _ _ 18 ([(0, .ref 15), (1, .int x), (2, .int (nI (zct (fun i => decide (de (i * 5 + 1) = x)) i))), (3, .int (nI i))], [.int (de (i * 5 + 1))], XH tx n (nI P, nI C, nI R, nI L, hs, ss, cs, gs, vs) dr rd (nI D, sm, nI N, nI K, ce, de, ke, se) i0 i1 kp dd tr m)
    refine zq_b [zq_il 1] [zq_ilchk 1] 19 rfl (by decide +kernel) ?_
    show zq_G _ _ _ _ _ 19 ([(0, .ref 15), (1, .int x), (2, .int (nI (zct (fun i => decide (de (i * 5 + 1) = x)) i))), (3, .int (nI i))], [.int x, .int (de (i * 5 + 1))], XH tx n (nI P, nI C, nI R, nI L, hs, ss, cs, gs, vs) dr rd (nI D, sm, nI N, nI K, ce, de, ke, se) i0 i1 kp dd tr m)
    refine zq_if .ne 25 (¬ (de (i * 5 + 1)) = x) (by decide +kernel) (Iff.rfl) (fun c19 => ?_) (fun c19 => ?_)
    · show zq_G _ _ _ _ _ 25 ([(0, .ref 15), (1, .int x), (2, .int (nI (zct (fun i => decide (de (i * 5 + 1) = x)) i))), (3, .int (nI i))], [], XH tx n (nI P, nI C, nI R, nI L, hs, ss, cs, gs, vs) dr rd (nI D, sm, nI N, nI K, ce, de, ke, se) i0 i1 kp dd tr m)
      refine zq_b [zq_inc 3 1 (nI (i + 1)), zq_go] [zq_incchk 3 1, zq_gochk] 4 rfl (by decide +kernel) ?_
      refine ⟨nI_add i 1, ?_⟩
      show zq_G _ _ _ _ _ 4 ([(0, .ref 15), (1, .int x), (2, .int (nI (zct (fun i => decide (de (i * 5 + 1) = x)) i))), (3, .int (nI (i + 1)))], [], XH tx n (nI P, nI C, nI R, nI L, hs, ss, cs, gs, vs) dr rd (nI D, sm, nI N, nI K, ce, de, ke, se) i0 i1 kp dd tr m)
      exact zq_eq (by rw [zct_f (by simp_all)]) (ih4 trivial)
    · show zq_G _ _ _ _ _ 22 ([(0, .ref 15), (1, .int x), (2, .int (nI (zct (fun i => decide (de (i * 5 + 1) = x)) i))), (3, .int (nI i))], [], XH tx n (nI P, nI C, nI R, nI L, hs, ss, cs, gs, vs) dr rd (nI D, sm, nI N, nI K, ce, de, ke, se) i0 i1 kp dd tr m)
      refine zq_b [zq_inc 2 1 (nI ((zct (fun i => decide (de (i * 5 + 1) = x)) i) + 1)), zq_inc 3 1 (nI (i + 1)), zq_go] [zq_incchk 2 1, zq_incchk 3 1, zq_gochk] 4 rfl (by decide +kernel) ?_
      refine ⟨nI_add (zct (fun i => decide (de (i * 5 + 1) = x)) i) 1, nI_add i 1, ?_⟩
      show zq_G _ _ _ _ _ 4 ([(0, .ref 15), (1, .int x), (2, .int (nI ((zct (fun i => decide (de (i * 5 + 1) = x)) i) + 1))), (3, .int (nI (i + 1)))], [], XH tx n (nI P, nI C, nI R, nI L, hs, ss, cs, gs, vs) dr rd (nI D, sm, nI N, nI K, ce, de, ke, se) i0 i1 kp dd tr m)
      exact zq_eq (by rw [zct_t (by simp_all)]) (ih4 trivial)
  · show zq_G _ _ _ _ _ 4 ([(0, .ref 15), (1, .int x), (2, .int (nI (zct (fun i => decide (de (i * 5 + 1) = x)) N))), (3, .int (nI N))], [], XH tx n (nI P, nI C, nI R, nI L, hs, ss, cs, gs, vs) dr rd (nI D, sm, nI N, nI K, ce, de, ke, se) i0 i1 kp dd tr m)
    refine zq_b [zq_il 3, zq_al 0, zq_get 5 3] [zq_ilchk 3, zq_alchk 0, zq_getchk 5 3] 9 rfl (by decide +kernel) ?_
    show zq_G _ _ _ _ _ 9 ([(0, .ref 15), (1, .int x), (2, .int (nI (zct (fun i => decide (de (i * 5 + 1) = x)) N))), (3, .int (nI N))], [.int (nI N), .int (nI N)], XH tx n (nI P, nI C, nI R, nI L, hs, ss, cs, gs, vs) dr rd (nI D, sm, nI N, nI K, ce, de, ke, se) i0 i1 kp dd tr m)
    refine zq_if .ge 31 (N ≤ N) (by decide +kernel) (zq_cge (a := N) (b := N) (by omega) (by omega)) (fun c9 => ?_) (fun c9 => absurd (by omega) c9)
    show zq_G _ _ _ _ _ 31 ([(0, .ref 15), (1, .int x), (2, .int (nI (zct (fun i => decide (de (i * 5 + 1) = x)) N))), (3, .int (nI N))], [], XH tx n (nI P, nI C, nI R, nI L, hs, ss, cs, gs, vs) dr rd (nI D, sm, nI N, nI K, ce, de, ke, se) i0 i1 kp dd tr m)
    refine zq_b [zq_il 2] [zq_ilchk 2] 32 rfl (by decide +kernel) ?_
    show zq_G _ _ _ _ _ 32 ([(0, .ref 15), (1, .int x), (2, .int (nI (zct (fun i => decide (de (i * 5 + 1) = x)) N))), (3, .int (nI N))], [.int (nI (zct (fun i => decide (de (i * 5 + 1) = x)) N))], XH tx n (nI P, nI C, nI R, nI L, hs, ss, cs, gs, vs) dr rd (nI D, sm, nI N, nI K, ce, de, ke, se) i0 i1 kp dd tr m)
    exact zq_iret (by decide +kernel) rfl rfl rfl
set_option maxHeartbeats 4000000 in
set_option maxRecDepth 100000 in
theorem c_keptOn {z : Int} (hz1 : -2147483648 ≤ z) (hz2 : z < 2147483648) (hD : D ≤ 99) : zq_P l mX5_keptOn 0 [.ref 15, .int (zi z)] (XH tx n (nI P, nI C, nI R, nI L, hs, ss, cs, gs, vs) dr rd (nI D, sm, nI N, nI K, ce, de, ke, se) i0 i1 kp dd tr m) (some (.int (zkept ke D z))) (XH tx n (nI P, nI C, nI R, nI L, hs, ss, cs, gs, vs) dr rd (nI D, sm, nI N, nI K, ce, de, ke, se) i0 i1 kp dd tr m) := by
  refine zq_start (by decide +kernel) rfl (Nat.le_of_ble_eq_true rfl) ?_
  show zq_G _ _ _ _ _ 0 ([(0, .ref 15), (1, .int (zi z))], [], XH tx n (nI P, nI C, nI R, nI L, hs, ss, cs, gs, vs) dr rd (nI D, sm, nI N, nI K, ce, de, ke, se) i0 i1 kp dd tr m)
  refine zq_b [zq_il 1] [zq_ilchk 1] 1 rfl (by decide +kernel) ?_
  show zq_G _ _ _ _ _ 1 ([(0, .ref 15), (1, .int (zi z))], [.int (zi z)], XH tx n (nI P, nI C, nI R, nI L, hs, ss, cs, gs, vs) dr rd (nI D, sm, nI N, nI K, ce, de, ke, se) i0 i1 kp dd tr m)
  refine zq_ifz .lt 21 (z < 0) (by decide +kernel) (zi_lt0 hz1 hz2) (fun c1 => ?_) (fun c1 => ?_)
  · show zq_G _ _ _ _ _ 21 ([(0, .ref 15), (1, .int (zi z))], [], XH tx n (nI P, nI C, nI R, nI L, hs, ss, cs, gs, vs) dr rd (nI D, sm, nI N, nI K, ce, de, ke, se) i0 i1 kp dd tr m)
    refine zq_b [zq_k 0] [zq_kchk 0] 22 rfl (by decide +kernel) ?_
    show zq_G _ _ _ _ _ 22 ([(0, .ref 15), (1, .int (zi z))], [.int 0], XH tx n (nI P, nI C, nI R, nI L, hs, ss, cs, gs, vs) dr rd (nI D, sm, nI N, nI K, ce, de, ke, se) i0 i1 kp dd tr m)
    exact zq_iret (by decide +kernel) rfl (by unfold zkept; rw [if_neg (by omega)]) rfl
  · show zq_G _ _ _ _ _ 4 ([(0, .ref 15), (1, .int (zi z))], [], XH tx n (nI P, nI C, nI R, nI L, hs, ss, cs, gs, vs) dr rd (nI D, sm, nI N, nI K, ce, de, ke, se) i0 i1 kp dd tr m)
    refine zq_b [zq_il 1, zq_al 0, zq_get 5 1] [zq_ilchk 1, zq_alchk 0, zq_getchk 5 1] 9 rfl (by decide +kernel) ?_
    show zq_G _ _ _ _ _ 9 ([(0, .ref 15), (1, .int (zi z))], [.int (nI D), .int (zi z)], XH tx n (nI P, nI C, nI R, nI L, hs, ss, cs, gs, vs) dr rd (nI D, sm, nI N, nI K, ce, de, ke, se) i0 i1 kp dd tr m)
    refine zq_if .ge 21 ((D : Int) ≤ z) (by decide +kernel) (zi_ge hz1 hz2 (by omega)) (fun c9 => ?_) (fun c9 => ?_)
    · show zq_G _ _ _ _ _ 21 ([(0, .ref 15), (1, .int (zi z))], [], XH tx n (nI P, nI C, nI R, nI L, hs, ss, cs, gs, vs) dr rd (nI D, sm, nI N, nI K, ce, de, ke, se) i0 i1 kp dd tr m)
      refine zq_b [zq_k 0] [zq_kchk 0] 22 rfl (by decide +kernel) ?_
      show zq_G _ _ _ _ _ 22 ([(0, .ref 15), (1, .int (zi z))], [.int 0], XH tx n (nI P, nI C, nI R, nI L, hs, ss, cs, gs, vs) dr rd (nI D, sm, nI N, nI K, ce, de, ke, se) i0 i1 kp dd tr m)
      exact zq_iret (by decide +kernel) rfl (by unfold zkept; rw [if_neg (by omega)]) rfl
    · show zq_G _ _ _ _ _ 12 ([(0, .ref 15), (1, .int (zi z))], [], XH tx n (nI P, nI C, nI R, nI L, hs, ss, cs, gs, vs) dr rd (nI D, sm, nI N, nI K, ce, de, ke, se) i0 i1 kp dd tr m)
      refine zq_b [zq_al 0, zq_get 5 7, zq_il 1, zq_iald z.toNat (ke z.toNat), zq_go] [zq_alchk 0, zq_getchk 5 7, zq_ilchk 1, zq_is .iaload 1, zq_gochk] 22 rfl (by decide +kernel) ?_
      refine ⟨(zi_nat (by omega)), (by omega), (by omega), rfl, ?_⟩
      show zq_G _ _ _ _ _ 22 ([(0, .ref 15), (1, .int (zi z))], [.int (ke z.toNat)], XH tx n (nI P, nI C, nI R, nI L, hs, ss, cs, gs, vs) dr rd (nI D, sm, nI N, nI K, ce, de, ke, se) i0 i1 kp dd tr m)
      exact zq_iret (by decide +kernel) rfl (by unfold zkept; rw [if_pos (by omega)]) rfl
set_option maxHeartbeats 4000000 in
set_option maxRecDepth 100000 in
theorem c_daysKept {x : Int32} (hD : D ≤ 99) : zq_P l mX5_daysKept 0 [.ref 15, .int x] (XH tx n (nI P, nI C, nI R, nI L, hs, ss, cs, gs, vs) dr rd (nI D, sm, nI N, nI K, ce, de, ke, se) i0 i1 kp dd tr m) (some (.int (nI (zct (fun d => decide (ke d &&& x = x)) D)))) (XH tx n (nI P, nI C, nI R, nI L, hs, ss, cs, gs, vs) dr rd (nI D, sm, nI N, nI K, ce, de, ke, se) i0 i1 kp dd tr m) := by
  refine zq_start (by decide +kernel) rfl (Nat.le_of_ble_eq_true rfl) ?_
  show zq_G _ _ _ _ _ 0 ([(0, .ref 15), (1, .int x)], [], XH tx n (nI P, nI C, nI R, nI L, hs, ss, cs, gs, vs) dr rd (nI D, sm, nI N, nI K, ce, de, ke, se) i0 i1 kp dd tr m)
  refine zq_b [zq_k 0, zq_is1 2, zq_k 0, zq_is1 3] [zq_kchk 0, zq_is1chk 2, zq_kchk 0, zq_is1chk 3] 4 rfl (by decide +kernel) ?_
  show zq_G _ _ _ _ _ 4 ([(0, .ref 15), (1, .int x), (2, .int 0), (3, .int 0)], [], XH tx n (nI P, nI C, nI R, nI L, hs, ss, cs, gs, vs) dr rd (nI D, sm, nI N, nI K, ce, de, ke, se) i0 i1 kp dd tr m)
  refine zq_loop (fun i => ([(0, .ref 15), (1, .int x), (2, .int (nI (zct (fun d => decide (ke d &&& x = x)) i))), (3, .int (nI i))], [], XH tx n (nI P, nI C, nI R, nI L, hs, ss, cs, gs, vs) dr rd (nI D, sm, nI N, nI K, ce, de, ke, se) i0 i1 kp dd tr m)) (fun i => True) (D) (0) (by omega) (trivial) (fun i hl4 hi4 hI4 ih4 => ?_) (fun hI4 => ?_)
  · show zq_G _ _ _ _ _ 4 ([(0, .ref 15), (1, .int x), (2, .int (nI (zct (fun d => decide (ke d &&& x = x)) i))), (3, .int (nI i))], [], XH tx n (nI P, nI C, nI R, nI L, hs, ss, cs, gs, vs) dr rd (nI D, sm, nI N, nI K, ce, de, ke, se) i0 i1 kp dd tr m)
    refine zq_b [zq_il 3, zq_al 0, zq_get 5 1] [zq_ilchk 3, zq_alchk 0, zq_getchk 5 1] 9 rfl (by decide +kernel) ?_
    show zq_G _ _ _ _ _ 9 ([(0, .ref 15), (1, .int x), (2, .int (nI (zct (fun d => decide (ke d &&& x = x)) i))), (3, .int (nI i))], [.int (nI D), .int (nI i)], XH tx n (nI P, nI C, nI R, nI L, hs, ss, cs, gs, vs) dr rd (nI D, sm, nI N, nI K, ce, de, ke, se) i0 i1 kp dd tr m)
    refine zq_if .ge 33 (D ≤ i) (by decide +kernel) (zq_cge (a := i) (b := D) (by omega) (by omega)) (fun c9 => absurd c9 (by omega)) (fun c9 => ?_)
    show zq_G _ _ _ _ _ 12 ([(0, .ref 15), (1, .int x), (2, .int (nI (zct (fun d => decide (ke d &&& x = x)) i))), (3, .int (nI i))], [], XH tx n (nI P, nI C, nI R, nI L, hs, ss, cs, gs, vs) dr rd (nI D, sm, nI N, nI K, ce, de, ke, se) i0 i1 kp dd tr m)
    refine zq_b [zq_al 0, zq_get 5 7, zq_il 3, zq_iald i (ke i), zq_il 1, zq_iand ((ke i) &&& x), zq_il 1] [zq_alchk 0, zq_getchk 5 7, zq_ilchk 3, zq_is .iaload 1, zq_ilchk 1, zq_is .iand 1, zq_ilchk 1] 21 rfl (by decide +kernel) ?_
    refine ⟨rfl, (by omega), (by omega), rfl, rfl, ?_⟩
    show zq_G _ _ _ _ _ 21 ([(0, .ref 15), (1, .int x), (2, .int (nI (zct (fun d => decide (ke d &&& x = x)) i))), (3, .int (nI i))], [.int x, .int ((ke i) &&& x)], XH tx n (nI P, nI C, nI R, nI L, hs, ss, cs, gs, vs) dr rd (nI D, sm, nI N, nI K, ce, de, ke, se) i0 i1 kp dd tr m)
    refine zq_if .ne 27 (¬ ((ke i) &&& x) = x) (by decide +kernel) (Iff.rfl) (fun c21 => ?_) (fun c21 => ?_)
    · show zq_G _ _ _ _ _ 27 ([(0, .ref 15), (1, .int x), (2, .int (nI (zct (fun d => decide (ke d &&& x = x)) i))), (3, .int (nI i))], [], XH tx n (nI P, nI C, nI R, nI L, hs, ss, cs, gs, vs) dr rd (nI D, sm, nI N, nI K, ce, de, ke, se) i0 i1 kp dd tr m)
      refine zq_b [zq_inc 3 1 (nI (i + 1)), zq_go] [zq_incchk 3 1, zq_gochk] 4 rfl (by decide +kernel) ?_
      refine ⟨nI_add i 1, ?_⟩
      show zq_G _ _ _ _ _ 4 ([(0, .ref 15), (1, .int x), (2, .int (nI (zct (fun d => decide (ke d &&& x = x)) i))), (3, .int (nI (i + 1)))], [], XH tx n (nI P, nI C, nI R, nI L, hs, ss, cs, gs, vs) dr rd (nI D, sm, nI N, nI K, ce, de, ke, se) i0 i1 kp dd tr m)
      exact zq_eq (by rw [zct_f (by simp_all)]) (ih4 trivial)
    · show zq_G _ _ _ _ _ 24 ([(0, .ref 15), (1, .int x), (2, .int (nI (zct (fun d => decide (ke d &&& x = x)) i))), (3, .int (nI i))], [], XH tx n (nI P, nI C, nI R, nI L, hs, ss, cs, gs, vs) dr rd (nI D, sm, nI N, nI K, ce, de, ke, se) i0 i1 kp dd tr m)
      refine zq_b [zq_inc 2 1 (nI ((zct (fun d => decide (ke d &&& x = x)) i) + 1)), zq_inc 3 1 (nI (i + 1)), zq_go] [zq_incchk 2 1, zq_incchk 3 1, zq_gochk] 4 rfl (by decide +kernel) ?_
      refine ⟨nI_add (zct (fun d => decide (ke d &&& x = x)) i) 1, nI_add i 1, ?_⟩
      show zq_G _ _ _ _ _ 4 ([(0, .ref 15), (1, .int x), (2, .int (nI ((zct (fun d => decide (ke d &&& x = x)) i) + 1))), (3, .int (nI (i + 1)))], [], XH tx n (nI P, nI C, nI R, nI L, hs, ss, cs, gs, vs) dr rd (nI D, sm, nI N, nI K, ce, de, ke, se) i0 i1 kp dd tr m)
      exact zq_eq (by rw [zct_t (by simp_all)]) (ih4 trivial)
  · show zq_G _ _ _ _ _ 4 ([(0, .ref 15), (1, .int x), (2, .int (nI (zct (fun d => decide (ke d &&& x = x)) D))), (3, .int (nI D))], [], XH tx n (nI P, nI C, nI R, nI L, hs, ss, cs, gs, vs) dr rd (nI D, sm, nI N, nI K, ce, de, ke, se) i0 i1 kp dd tr m)
    refine zq_b [zq_il 3, zq_al 0, zq_get 5 1] [zq_ilchk 3, zq_alchk 0, zq_getchk 5 1] 9 rfl (by decide +kernel) ?_
    show zq_G _ _ _ _ _ 9 ([(0, .ref 15), (1, .int x), (2, .int (nI (zct (fun d => decide (ke d &&& x = x)) D))), (3, .int (nI D))], [.int (nI D), .int (nI D)], XH tx n (nI P, nI C, nI R, nI L, hs, ss, cs, gs, vs) dr rd (nI D, sm, nI N, nI K, ce, de, ke, se) i0 i1 kp dd tr m)
    refine zq_if .ge 33 (D ≤ D) (by decide +kernel) (zq_cge (a := D) (b := D) (by omega) (by omega)) (fun c9 => ?_) (fun c9 => absurd (by omega) c9)
    show zq_G _ _ _ _ _ 33 ([(0, .ref 15), (1, .int x), (2, .int (nI (zct (fun d => decide (ke d &&& x = x)) D))), (3, .int (nI D))], [], XH tx n (nI P, nI C, nI R, nI L, hs, ss, cs, gs, vs) dr rd (nI D, sm, nI N, nI K, ce, de, ke, se) i0 i1 kp dd tr m)
    refine zq_b [zq_il 2] [zq_ilchk 2] 34 rfl (by decide +kernel) ?_
    show zq_G _ _ _ _ _ 34 ([(0, .ref 15), (1, .int x), (2, .int (nI (zct (fun d => decide (ke d &&& x = x)) D))), (3, .int (nI D))], [.int (nI (zct (fun d => decide (ke d &&& x = x)) D))], XH tx n (nI P, nI C, nI R, nI L, hs, ss, cs, gs, vs) dr rd (nI D, sm, nI N, nI K, ce, de, ke, se) i0 i1 kp dd tr m)
    exact zq_iret (by decide +kernel) rfl rfl rfl
set_option maxHeartbeats 4000000 in
set_option maxRecDepth 100000 in
theorem c_firstDayKept {p : Int32} (hD : D ≤ 99) : zq_P l mX5_firstDayKept 1 [.ref 15, .int p] (XH tx n (nI P, nI C, nI R, nI L, hs, ss, cs, gs, vs) dr rd (nI D, sm, nI N, nI K, ce, de, ke, se) i0 i1 kp dd tr m) (some (.int (zfs (fun d => decide (zbit (ke d) p = 1)) nI D))) (XH tx n (nI P, nI C, nI R, nI L, hs, ss, cs, gs, vs) dr rd (nI D, sm, nI N, nI K, ce, de, ke, se) i0 i1 kp dd tr m) := by
  refine zq_start (by decide +kernel) rfl (Nat.le_of_ble_eq_true rfl) ?_
  show zq_G _ _ _ _ _ 0 ([(0, .ref 15), (1, .int p)], [], XH tx n (nI P, nI C, nI R, nI L, hs, ss, cs, gs, vs) dr rd (nI D, sm, nI N, nI K, ce, de, ke, se) i0 i1 kp dd tr m)
  refine zq_b [zq_k 0, zq_is1 2] [zq_kchk 0, zq_is1chk 2] 2 rfl (by decide +kernel) ?_
  show zq_G _ _ _ _ _ 2 ([(0, .ref 15), (1, .int p), (2, .int 0)], [], XH tx n (nI P, nI C, nI R, nI L, hs, ss, cs, gs, vs) dr rd (nI D, sm, nI N, nI K, ce, de, ke, se) i0 i1 kp dd tr m)
  refine zq_loop (fun i => ([(0, .ref 15), (1, .int p), (2, .int (nI i))], [], XH tx n (nI P, nI C, nI R, nI L, hs, ss, cs, gs, vs) dr rd (nI D, sm, nI N, nI K, ce, de, ke, se) i0 i1 kp dd tr m)) (fun i => ∀ j, j < i → decide (zbit (ke j) p = 1) = false) (D) (0) (by omega) ((fun j hj => absurd hj (by omega))) (fun i hl2 hi2 hI2 ih2 => ?_) (fun hI2 => ?_)
  · show zq_G _ _ _ _ _ 2 ([(0, .ref 15), (1, .int p), (2, .int (nI i))], [], XH tx n (nI P, nI C, nI R, nI L, hs, ss, cs, gs, vs) dr rd (nI D, sm, nI N, nI K, ce, de, ke, se) i0 i1 kp dd tr m)
    refine zq_b [zq_il 2, zq_al 0, zq_get 5 1] [zq_ilchk 2, zq_alchk 0, zq_getchk 5 1] 7 rfl (by decide +kernel) ?_
    show zq_G _ _ _ _ _ 7 ([(0, .ref 15), (1, .int p), (2, .int (nI i))], [.int (nI D), .int (nI i)], XH tx n (nI P, nI C, nI R, nI L, hs, ss, cs, gs, vs) dr rd (nI D, sm, nI N, nI K, ce, de, ke, se) i0 i1 kp dd tr m)
    refine zq_if .ge 32 (D ≤ i) (by decide +kernel) (zq_cge (a := i) (b := D) (by omega) (by omega)) (fun c7 => absurd c7 (by omega)) (fun c7 => ?_)
    show zq_G _ _ _ _ _ 10 ([(0, .ref 15), (1, .int p), (2, .int (nI i))], [], XH tx n (nI P, nI C, nI R, nI L, hs, ss, cs, gs, vs) dr rd (nI D, sm, nI N, nI K, ce, de, ke, se) i0 i1 kp dd tr m)
    refine zq_b [zq_al 0, zq_get 5 7, zq_il 2, zq_iald i (ke i), zq_il 1] [zq_alchk 0, zq_getchk 5 7, zq_ilchk 2, zq_is .iaload 1, zq_ilchk 1] 17 rfl (by decide +kernel) ?_
    refine ⟨rfl, (by omega), (by omega), rfl, ?_⟩
    show zq_G _ _ _ _ _ 17 ([(0, .ref 15), (1, .int p), (2, .int (nI i))], [.int p, .int (ke i)], XH tx n (nI P, nI C, nI R, nI L, hs, ss, cs, gs, vs) dr rd (nI D, sm, nI N, nI K, ce, de, ke, se) i0 i1 kp dd tr m)
    refine zq_callN (av := [.int (ke i), .int p]) (rest := []) (by decide +kernel) k5_60 (c_bit (x := (ke i)) (p := p)) rfl rfl ?_
    show zq_G _ _ _ _ _ 20 ([(0, .ref 15), (1, .int p), (2, .int (nI i))], [.int (zbit (ke i) p)], XH tx n (nI P, nI C, nI R, nI L, hs, ss, cs, gs, vs) dr rd (nI D, sm, nI N, nI K, ce, de, ke, se) i0 i1 kp dd tr m)
    refine zq_b [zq_k 1] [zq_kchk 1] 21 rfl (by decide +kernel) ?_
    show zq_G _ _ _ _ _ 21 ([(0, .ref 15), (1, .int p), (2, .int (nI i))], [.int 1, .int (zbit (ke i) p)], XH tx n (nI P, nI C, nI R, nI L, hs, ss, cs, gs, vs) dr rd (nI D, sm, nI N, nI K, ce, de, ke, se) i0 i1 kp dd tr m)
    refine zq_if .ne 26 (¬ (zbit (ke i) p) = 1) (by decide +kernel) (Iff.rfl) (fun c21 => ?_) (fun c21 => ?_)
    · show zq_G _ _ _ _ _ 26 ([(0, .ref 15), (1, .int p), (2, .int (nI i))], [], XH tx n (nI P, nI C, nI R, nI L, hs, ss, cs, gs, vs) dr rd (nI D, sm, nI N, nI K, ce, de, ke, se) i0 i1 kp dd tr m)
      refine zq_b [zq_inc 2 1 (nI (i + 1)), zq_go] [zq_incchk 2 1, zq_gochk] 2 rfl (by decide +kernel) ?_
      refine ⟨nI_add i 1, ?_⟩
      show zq_G _ _ _ _ _ 2 ([(0, .ref 15), (1, .int p), (2, .int (nI (i + 1)))], [], XH tx n (nI P, nI C, nI R, nI L, hs, ss, cs, gs, vs) dr rd (nI D, sm, nI N, nI K, ce, de, ke, se) i0 i1 kp dd tr m)
      exact ih2 (lt_ext hI2 (decide_eq_false c21))
    · show zq_G _ _ _ _ _ 24 ([(0, .ref 15), (1, .int p), (2, .int (nI i))], [], XH tx n (nI P, nI C, nI R, nI L, hs, ss, cs, gs, vs) dr rd (nI D, sm, nI N, nI K, ce, de, ke, se) i0 i1 kp dd tr m)
      refine zq_b [zq_il 2] [zq_ilchk 2] 25 rfl (by decide +kernel) ?_
      show zq_G _ _ _ _ _ 25 ([(0, .ref 15), (1, .int p), (2, .int (nI i))], [.int (nI i)], XH tx n (nI P, nI C, nI R, nI L, hs, ss, cs, gs, vs) dr rd (nI D, sm, nI N, nI K, ce, de, ke, se) i0 i1 kp dd tr m)
      exact zq_iret (by decide +kernel) rfl (by rw [zfs_at hi2 (by simpa using c21) hI2]) rfl
  · show zq_G _ _ _ _ _ 2 ([(0, .ref 15), (1, .int p), (2, .int (nI D))], [], XH tx n (nI P, nI C, nI R, nI L, hs, ss, cs, gs, vs) dr rd (nI D, sm, nI N, nI K, ce, de, ke, se) i0 i1 kp dd tr m)
    refine zq_b [zq_il 2, zq_al 0, zq_get 5 1] [zq_ilchk 2, zq_alchk 0, zq_getchk 5 1] 7 rfl (by decide +kernel) ?_
    show zq_G _ _ _ _ _ 7 ([(0, .ref 15), (1, .int p), (2, .int (nI D))], [.int (nI D), .int (nI D)], XH tx n (nI P, nI C, nI R, nI L, hs, ss, cs, gs, vs) dr rd (nI D, sm, nI N, nI K, ce, de, ke, se) i0 i1 kp dd tr m)
    refine zq_if .ge 32 (D ≤ D) (by decide +kernel) (zq_cge (a := D) (b := D) (by omega) (by omega)) (fun c7 => ?_) (fun c7 => absurd (by omega) c7)
    show zq_G _ _ _ _ _ 32 ([(0, .ref 15), (1, .int p), (2, .int (nI D))], [], XH tx n (nI P, nI C, nI R, nI L, hs, ss, cs, gs, vs) dr rd (nI D, sm, nI N, nI K, ce, de, ke, se) i0 i1 kp dd tr m)
    refine zq_b [zq_k (-9)] [zq_kchk (-9)] 34 rfl (by decide +kernel) ?_
    show zq_G _ _ _ _ _ 34 ([(0, .ref 15), (1, .int p), (2, .int (nI D))], [.int (-9)], XH tx n (nI P, nI C, nI R, nI L, hs, ss, cs, gs, vs) dr rd (nI D, sm, nI N, nI K, ce, de, ke, se) i0 i1 kp dd tr m)
    exact zq_iret (by decide +kernel) rfl (by rw [zfs_no hI2]) rfl
set_option maxHeartbeats 4000000 in
set_option maxRecDepth 100000 in
theorem c_lastDayKept {p : Int32} (hD : D ≤ 99) : zq_P l mX5_lastDayKept 1 [.ref 15, .int p] (XH tx n (nI P, nI C, nI R, nI L, hs, ss, cs, gs, vs) dr rd (nI D, sm, nI N, nI K, ce, de, ke, se) i0 i1 kp dd tr m) (some (.int (zls (fun d => decide (zbit (ke d) p = 1)) nI D))) (XH tx n (nI P, nI C, nI R, nI L, hs, ss, cs, gs, vs) dr rd (nI D, sm, nI N, nI K, ce, de, ke, se) i0 i1 kp dd tr m) := by
  refine zq_start (by decide +kernel) rfl (Nat.le_of_ble_eq_true rfl) ?_
  show zq_G _ _ _ _ _ 0 ([(0, .ref 15), (1, .int p)], [], XH tx n (nI P, nI C, nI R, nI L, hs, ss, cs, gs, vs) dr rd (nI D, sm, nI N, nI K, ce, de, ke, se) i0 i1 kp dd tr m)
  refine zq_b [zq_al 0, zq_get 5 1, zq_k 1, zq_isub (zi ((D : Int) - 1 - ((0 : Nat) : Int))), zq_is1 2] [zq_alchk 0, zq_getchk 5 1, zq_kchk 1, zq_is .isub 1, zq_is1chk 2] 7 rfl (by decide +kernel) ?_
  refine ⟨((zi_sub D 1).trans (congrArg zi (by omega))), ?_⟩
  show zq_G _ _ _ _ _ 7 ([(0, .ref 15), (1, .int p), (2, .int (zi ((D : Int) - 1 - ((0 : Nat) : Int))))], [], XH tx n (nI P, nI C, nI R, nI L, hs, ss, cs, gs, vs) dr rd (nI D, sm, nI N, nI K, ce, de, ke, se) i0 i1 kp dd tr m)
  refine zq_loop (fun i => ([(0, .ref 15), (1, .int p), (2, .int (zi ((D : Int) - 1 - ((i : Nat) : Int))))], [], XH tx n (nI P, nI C, nI R, nI L, hs, ss, cs, gs, vs) dr rd (nI D, sm, nI N, nI K, ce, de, ke, se) i0 i1 kp dd tr m)) (fun i => ∀ j, D ≤ j + i → j < D → decide (zbit (ke j) p = 1) = false) (D) (0) (by omega) ((fun j h1 h2 => absurd h1 (by omega))) (fun i hl7 hi7 hI7 ih7 => ?_) (fun hI7 => ?_)
  · show zq_G _ _ _ _ _ 7 ([(0, .ref 15), (1, .int p), (2, .int (zi ((D : Int) - 1 - ((i : Nat) : Int))))], [], XH tx n (nI P, nI C, nI R, nI L, hs, ss, cs, gs, vs) dr rd (nI D, sm, nI N, nI K, ce, de, ke, se) i0 i1 kp dd tr m)
    refine zq_b [zq_il 2] [zq_ilchk 2] 8 rfl (by decide +kernel) ?_
    show zq_G _ _ _ _ _ 8 ([(0, .ref 15), (1, .int p), (2, .int (zi ((D : Int) - 1 - ((i : Nat) : Int))))], [.int (zi ((D : Int) - 1 - ((i : Nat) : Int)))], XH tx n (nI P, nI C, nI R, nI L, hs, ss, cs, gs, vs) dr rd (nI D, sm, nI N, nI K, ce, de, ke, se) i0 i1 kp dd tr m)
    refine zq_ifz .lt 33 (((D : Int) - 1 - ((i : Nat) : Int)) < 0) (by decide +kernel) (zi_lt0 (by omega) (by omega)) (fun c8 => absurd c8 (by omega)) (fun c8 => ?_)
    show zq_G _ _ _ _ _ 11 ([(0, .ref 15), (1, .int p), (2, .int (zi ((D : Int) - 1 - ((i : Nat) : Int))))], [], XH tx n (nI P, nI C, nI R, nI L, hs, ss, cs, gs, vs) dr rd (nI D, sm, nI N, nI K, ce, de, ke, se) i0 i1 kp dd tr m)
    refine zq_b [zq_al 0, zq_get 5 7, zq_il 2, zq_iald (D - 1 - i) (ke (D - 1 - i)), zq_il 1] [zq_alchk 0, zq_getchk 5 7, zq_ilchk 2, zq_is .iaload 1, zq_ilchk 1] 18 rfl (by decide +kernel) ?_
    refine ⟨(zi_nat (by omega)), (by omega), (by omega), rfl, ?_⟩
    show zq_G _ _ _ _ _ 18 ([(0, .ref 15), (1, .int p), (2, .int (zi ((D : Int) - 1 - ((i : Nat) : Int))))], [.int p, .int (ke (D - 1 - i))], XH tx n (nI P, nI C, nI R, nI L, hs, ss, cs, gs, vs) dr rd (nI D, sm, nI N, nI K, ce, de, ke, se) i0 i1 kp dd tr m)
    refine zq_callN (av := [.int (ke (D - 1 - i)), .int p]) (rest := []) (by decide +kernel) k5_60 (c_bit (x := (ke (D - 1 - i))) (p := p)) rfl rfl ?_
    show zq_G _ _ _ _ _ 21 ([(0, .ref 15), (1, .int p), (2, .int (zi ((D : Int) - 1 - ((i : Nat) : Int))))], [.int (zbit (ke (D - 1 - i)) p)], XH tx n (nI P, nI C, nI R, nI L, hs, ss, cs, gs, vs) dr rd (nI D, sm, nI N, nI K, ce, de, ke, se) i0 i1 kp dd tr m)
    refine zq_b [zq_k 1] [zq_kchk 1] 22 rfl (by decide +kernel) ?_
    show zq_G _ _ _ _ _ 22 ([(0, .ref 15), (1, .int p), (2, .int (zi ((D : Int) - 1 - ((i : Nat) : Int))))], [.int 1, .int (zbit (ke (D - 1 - i)) p)], XH tx n (nI P, nI C, nI R, nI L, hs, ss, cs, gs, vs) dr rd (nI D, sm, nI N, nI K, ce, de, ke, se) i0 i1 kp dd tr m)
    refine zq_if .ne 27 (¬ (zbit (ke (D - 1 - i)) p) = 1) (by decide +kernel) (Iff.rfl) (fun c22 => ?_) (fun c22 => ?_)
    · show zq_G _ _ _ _ _ 27 ([(0, .ref 15), (1, .int p), (2, .int (zi ((D : Int) - 1 - ((i : Nat) : Int))))], [], XH tx n (nI P, nI C, nI R, nI L, hs, ss, cs, gs, vs) dr rd (nI D, sm, nI N, nI K, ce, de, ke, se) i0 i1 kp dd tr m)
      refine zq_b [zq_inc 2 (-1) (zi ((D : Int) - 1 - ((i + 1 : Nat) : Int))), zq_go] [zq_incchk 2 (-1), zq_gochk] 7 rfl (by decide +kernel) ?_
      refine ⟨(zi_dn D i), ?_⟩
      show zq_G _ _ _ _ _ 7 ([(0, .ref 15), (1, .int p), (2, .int (zi ((D : Int) - 1 - ((i + 1 : Nat) : Int))))], [], XH tx n (nI P, nI C, nI R, nI L, hs, ss, cs, gs, vs) dr rd (nI D, sm, nI N, nI K, ce, de, ke, se) i0 i1 kp dd tr m)
      exact ih7 (fun j h1 h2 => (Nat.lt_or_ge (D - 1 - i) j).elim (fun q => hI7 j (by omega) h2) (fun q => by rw [show j = D - 1 - i by omega]; exact decide_eq_false c22))
    · show zq_G _ _ _ _ _ 25 ([(0, .ref 15), (1, .int p), (2, .int (zi ((D : Int) - 1 - ((i : Nat) : Int))))], [], XH tx n (nI P, nI C, nI R, nI L, hs, ss, cs, gs, vs) dr rd (nI D, sm, nI N, nI K, ce, de, ke, se) i0 i1 kp dd tr m)
      refine zq_b [zq_il 2] [zq_ilchk 2] 26 rfl (by decide +kernel) ?_
      show zq_G _ _ _ _ _ 26 ([(0, .ref 15), (1, .int p), (2, .int (zi ((D : Int) - 1 - ((i : Nat) : Int))))], [.int (zi ((D : Int) - 1 - ((i : Nat) : Int)))], XH tx n (nI P, nI C, nI R, nI L, hs, ss, cs, gs, vs) dr rd (nI D, sm, nI N, nI K, ce, de, ke, se) i0 i1 kp dd tr m)
      exact zq_iret (by decide +kernel) rfl (by rw [zls_at (i := D - 1 - i) (by omega) (by simpa using c22) (fun j h1 h2 => hI7 j (by omega) h2), ← zi_nat (z := (D : Int) - 1 - (i : Int)) (by omega)]) rfl
  · show zq_G _ _ _ _ _ 7 ([(0, .ref 15), (1, .int p), (2, .int (zi ((D : Int) - 1 - ((D : Nat) : Int))))], [], XH tx n (nI P, nI C, nI R, nI L, hs, ss, cs, gs, vs) dr rd (nI D, sm, nI N, nI K, ce, de, ke, se) i0 i1 kp dd tr m)
    refine zq_b [zq_il 2] [zq_ilchk 2] 8 rfl (by decide +kernel) ?_
    show zq_G _ _ _ _ _ 8 ([(0, .ref 15), (1, .int p), (2, .int (zi ((D : Int) - 1 - ((D : Nat) : Int))))], [.int (zi ((D : Int) - 1 - ((D : Nat) : Int)))], XH tx n (nI P, nI C, nI R, nI L, hs, ss, cs, gs, vs) dr rd (nI D, sm, nI N, nI K, ce, de, ke, se) i0 i1 kp dd tr m)
    refine zq_ifz .lt 33 (((D : Int) - 1 - ((D : Nat) : Int)) < 0) (by decide +kernel) (zi_lt0 (by omega) (by omega)) (fun c8 => ?_) (fun c8 => absurd (by omega) c8)
    show zq_G _ _ _ _ _ 33 ([(0, .ref 15), (1, .int p), (2, .int (zi ((D : Int) - 1 - ((D : Nat) : Int))))], [], XH tx n (nI P, nI C, nI R, nI L, hs, ss, cs, gs, vs) dr rd (nI D, sm, nI N, nI K, ce, de, ke, se) i0 i1 kp dd tr m)
    refine zq_b [zq_k (-9)] [zq_kchk (-9)] 35 rfl (by decide +kernel) ?_
    show zq_G _ _ _ _ _ 35 ([(0, .ref 15), (1, .int p), (2, .int (zi ((D : Int) - 1 - ((D : Nat) : Int))))], [.int (-9)], XH tx n (nI P, nI C, nI R, nI L, hs, ss, cs, gs, vs) dr rd (nI D, sm, nI N, nI K, ce, de, ke, se) i0 i1 kp dd tr m)
    exact zq_iret (by decide +kernel) rfl (by rw [zls_no (fun j hj => hI7 j (by omega) hj)]) rfl
set_option maxHeartbeats 4000000 in
set_option maxRecDepth 100000 in
theorem c_peopleIn {x : Int32} (hP : P ≤ 6) : zq_P l mX5_peopleIn 0 [.ref 15, .int x] (XH tx n (nI P, nI C, nI R, nI L, hs, ss, cs, gs, vs) dr rd (nI D, sm, nI N, nI K, ce, de, ke, se) i0 i1 kp dd tr m) (some (.int (orB (fun p => decide (ce p = x)) P))) (XH tx n (nI P, nI C, nI R, nI L, hs, ss, cs, gs, vs) dr rd (nI D, sm, nI N, nI K, ce, de, ke, se) i0 i1 kp dd tr m) := by
  refine zq_start (by decide +kernel) rfl (Nat.le_of_ble_eq_true rfl) ?_
  show zq_G _ _ _ _ _ 0 ([(0, .ref 15), (1, .int x)], [], XH tx n (nI P, nI C, nI R, nI L, hs, ss, cs, gs, vs) dr rd (nI D, sm, nI N, nI K, ce, de, ke, se) i0 i1 kp dd tr m)
  refine zq_b [zq_k 0, zq_is1 2, zq_k 0, zq_is1 3] [zq_kchk 0, zq_is1chk 2, zq_kchk 0, zq_is1chk 3] 4 rfl (by decide +kernel) ?_
  show zq_G _ _ _ _ _ 4 ([(0, .ref 15), (1, .int x), (2, .int 0), (3, .int 0)], [], XH tx n (nI P, nI C, nI R, nI L, hs, ss, cs, gs, vs) dr rd (nI D, sm, nI N, nI K, ce, de, ke, se) i0 i1 kp dd tr m)
  refine zq_loop (fun i => ([(0, .ref 15), (1, .int x), (2, .int (orB (fun p => decide (ce p = x)) i)), (3, .int (nI i))], [], XH tx n (nI P, nI C, nI R, nI L, hs, ss, cs, gs, vs) dr rd (nI D, sm, nI N, nI K, ce, de, ke, se) i0 i1 kp dd tr m)) (fun i => True) (P) (0) (by omega) (trivial) (fun i hl4 hi4 hI4 ih4 => ?_) (fun hI4 => ?_)
  · show zq_G _ _ _ _ _ 4 ([(0, .ref 15), (1, .int x), (2, .int (orB (fun p => decide (ce p = x)) i)), (3, .int (nI i))], [], XH tx n (nI P, nI C, nI R, nI L, hs, ss, cs, gs, vs) dr rd (nI D, sm, nI N, nI K, ce, de, ke, se) i0 i1 kp dd tr m)
    refine zq_b [zq_il 3, zq_al 0, zq_get 5 0, zq_get 9 0] [zq_ilchk 3, zq_alchk 0, zq_getchk 5 0, zq_getchk 9 0] 12 rfl (by decide +kernel) ?_
    show zq_G _ _ _ _ _ 12 ([(0, .ref 15), (1, .int x), (2, .int (orB (fun p => decide (ce p = x)) i)), (3, .int (nI i))], [.int (nI P), .int (nI i)], XH tx n (nI P, nI C, nI R, nI L, hs, ss, cs, gs, vs) dr rd (nI D, sm, nI N, nI K, ce, de, ke, se) i0 i1 kp dd tr m)
    refine zq_if .ge 37 (P ≤ i) (by decide +kernel) (zq_cge (a := i) (b := P) (by omega) (by omega)) (fun c12 => absurd c12 (by omega)) (fun c12 => ?_)
    show zq_G _ _ _ _ _ 15 ([(0, .ref 15), (1, .int x), (2, .int (orB (fun p => decide (ce p = x)) i)), (3, .int (nI i))], [], XH tx n (nI P, nI C, nI R, nI L, hs, ss, cs, gs, vs) dr rd (nI D, sm, nI N, nI K, ce, de, ke, se) i0 i1 kp dd tr m)
    refine zq_b [zq_al 0, zq_get 5 5, zq_il 3, zq_iald i (ce i), zq_il 1] [zq_alchk 0, zq_getchk 5 5, zq_ilchk 3, zq_is .iaload 1, zq_ilchk 1] 22 rfl (by decide +kernel) ?_
    refine ⟨rfl, (by omega), (by omega), rfl, ?_⟩
    show zq_G _ _ _ _ _ 22 ([(0, .ref 15), (1, .int x), (2, .int (orB (fun p => decide (ce p = x)) i)), (3, .int (nI i))], [.int x, .int (ce i)], XH tx n (nI P, nI C, nI R, nI L, hs, ss, cs, gs, vs) dr rd (nI D, sm, nI N, nI K, ce, de, ke, se) i0 i1 kp dd tr m)
    refine zq_if .ne 31 (¬ (ce i) = x) (by decide +kernel) (Iff.rfl) (fun c22 => ?_) (fun c22 => ?_)
    · show zq_G _ _ _ _ _ 31 ([(0, .ref 15), (1, .int x), (2, .int (orB (fun p => decide (ce p = x)) i)), (3, .int (nI i))], [], XH tx n (nI P, nI C, nI R, nI L, hs, ss, cs, gs, vs) dr rd (nI D, sm, nI N, nI K, ce, de, ke, se) i0 i1 kp dd tr m)
      refine zq_b [zq_inc 3 1 (nI (i + 1)), zq_go] [zq_incchk 3 1, zq_gochk] 4 rfl (by decide +kernel) ?_
      refine ⟨nI_add i 1, ?_⟩
      show zq_G _ _ _ _ _ 4 ([(0, .ref 15), (1, .int x), (2, .int (orB (fun p => decide (ce p = x)) i)), (3, .int (nI (i + 1)))], [], XH tx n (nI P, nI C, nI R, nI L, hs, ss, cs, gs, vs) dr rd (nI D, sm, nI N, nI K, ce, de, ke, se) i0 i1 kp dd tr m)
      exact zq_eq (by rw [orB_f (by simp_all)]) (ih4 trivial)
    · show zq_G _ _ _ _ _ 25 ([(0, .ref 15), (1, .int x), (2, .int (orB (fun p => decide (ce p = x)) i)), (3, .int (nI i))], [], XH tx n (nI P, nI C, nI R, nI L, hs, ss, cs, gs, vs) dr rd (nI D, sm, nI N, nI K, ce, de, ke, se) i0 i1 kp dd tr m)
      refine zq_b [zq_il 2, zq_k 1, zq_il 3, zq_ishl (1 <<< (nI i &&& 31)), zq_ior ((orB (fun p => decide (ce p = x)) i) ||| (1 <<< (nI i &&& 31))), zq_is1 2, zq_inc 3 1 (nI (i + 1)), zq_go] [zq_ilchk 2, zq_kchk 1, zq_ilchk 3, zq_is .ishl 1, zq_is .ior 1, zq_is1chk 2, zq_incchk 3 1, zq_gochk] 4 rfl (by decide +kernel) ?_
      refine ⟨rfl, rfl, nI_add i 1, ?_⟩
      show zq_G _ _ _ _ _ 4 ([(0, .ref 15), (1, .int x), (2, .int ((orB (fun p => decide (ce p = x)) i) ||| (1 <<< (nI i &&& 31)))), (3, .int (nI (i + 1)))], [], XH tx n (nI P, nI C, nI R, nI L, hs, ss, cs, gs, vs) dr rd (nI D, sm, nI N, nI K, ce, de, ke, se) i0 i1 kp dd tr m)
      exact zq_eq (by rw [orB_t (by simp_all)]) (ih4 trivial)
  · show zq_G _ _ _ _ _ 4 ([(0, .ref 15), (1, .int x), (2, .int (orB (fun p => decide (ce p = x)) P)), (3, .int (nI P))], [], XH tx n (nI P, nI C, nI R, nI L, hs, ss, cs, gs, vs) dr rd (nI D, sm, nI N, nI K, ce, de, ke, se) i0 i1 kp dd tr m)
    refine zq_b [zq_il 3, zq_al 0, zq_get 5 0, zq_get 9 0] [zq_ilchk 3, zq_alchk 0, zq_getchk 5 0, zq_getchk 9 0] 12 rfl (by decide +kernel) ?_
    show zq_G _ _ _ _ _ 12 ([(0, .ref 15), (1, .int x), (2, .int (orB (fun p => decide (ce p = x)) P)), (3, .int (nI P))], [.int (nI P), .int (nI P)], XH tx n (nI P, nI C, nI R, nI L, hs, ss, cs, gs, vs) dr rd (nI D, sm, nI N, nI K, ce, de, ke, se) i0 i1 kp dd tr m)
    refine zq_if .ge 37 (P ≤ P) (by decide +kernel) (zq_cge (a := P) (b := P) (by omega) (by omega)) (fun c12 => ?_) (fun c12 => absurd (by omega) c12)
    show zq_G _ _ _ _ _ 37 ([(0, .ref 15), (1, .int x), (2, .int (orB (fun p => decide (ce p = x)) P)), (3, .int (nI P))], [], XH tx n (nI P, nI C, nI R, nI L, hs, ss, cs, gs, vs) dr rd (nI D, sm, nI N, nI K, ce, de, ke, se) i0 i1 kp dd tr m)
    refine zq_b [zq_il 2] [zq_ilchk 2] 38 rfl (by decide +kernel) ?_
    show zq_G _ _ _ _ _ 38 ([(0, .ref 15), (1, .int x), (2, .int (orB (fun p => decide (ce p = x)) P)), (3, .int (nI P))], [.int (orB (fun p => decide (ce p = x)) P)], XH tx n (nI P, nI C, nI R, nI L, hs, ss, cs, gs, vs) dr rd (nI D, sm, nI N, nI K, ce, de, ke, se) i0 i1 kp dd tr m)
    exact zq_iret (by decide +kernel) rfl rfl rfl
set_option maxHeartbeats 4000000 in
set_option maxRecDepth 100000 in
theorem c_isInSmoke {k : Nat} (hk : k < 25) : zq_P l mX5_isInSmoke 1 [.ref 15, .int (nI k)] (XH tx n (nI P, nI C, nI R, nI L, hs, ss, cs, gs, vs) dr rd (nI D, sm, nI N, nI K, ce, de, ke, se) i0 i1 kp dd tr m) (some (.int (zb (smk sm k = true)))) (XH tx n (nI P, nI C, nI R, nI L, hs, ss, cs, gs, vs) dr rd (nI D, sm, nI N, nI K, ce, de, ke, se) i0 i1 kp dd tr m) := by
  refine zq_start (by decide +kernel) rfl (Nat.le_of_ble_eq_true rfl) ?_
  show zq_G _ _ _ _ _ 0 ([(0, .ref 15), (1, .int (nI k))], [], XH tx n (nI P, nI C, nI R, nI L, hs, ss, cs, gs, vs) dr rd (nI D, sm, nI N, nI K, ce, de, ke, se) i0 i1 kp dd tr m)
  refine zq_b [zq_il 1, zq_is1 2] [zq_ilchk 1, zq_is1chk 2] 2 rfl (by decide +kernel) ?_
  show zq_G _ _ _ _ _ 2 ([(0, .ref 15), (1, .int (nI k)), (2, .int (nI k))], [], XH tx n (nI P, nI C, nI R, nI L, hs, ss, cs, gs, vs) dr rd (nI D, sm, nI N, nI K, ce, de, ke, se) i0 i1 kp dd tr m)
  refine zq_eq (σ2 := ([(0, .ref 15), (1, .int (nI k)), (2, .int (zi ((k : Int) - 5 * (((0 : Nat) : Nat) : Int))))], [], XH tx n (nI P, nI C, nI R, nI L, hs, ss, cs, gs, vs) dr rd (nI D, sm, nI N, nI K, ce, de, ke, se) i0 i1 kp dd tr m)) (by rw [zi_nat (n := k) (by omega)]) ?_
  refine zq_loop (fun i => ([(0, .ref 15), (1, .int (nI k)), (2, .int (zi ((k : Int) - 5 * ((i : Nat) : Int))))], [], XH tx n (nI P, nI C, nI R, nI L, hs, ss, cs, gs, vs) dr rd (nI D, sm, nI N, nI K, ce, de, ke, se) i0 i1 kp dd tr m)) (fun i => ∀ j, j < i → decide (zbit sm (zi ((k : Int) - 5 * (j : Int))) = 1) = false) (k / 5 + 1) (0) (by omega) ((fun j hj => absurd hj (by omega))) (fun i hl2 hi2 hI2 ih2 => ?_) (fun hI2 => ?_)
  · show zq_G _ _ _ _ _ 2 ([(0, .ref 15), (1, .int (nI k)), (2, .int (zi ((k : Int) - 5 * ((i : Nat) : Int))))], [], XH tx n (nI P, nI C, nI R, nI L, hs, ss, cs, gs, vs) dr rd (nI D, sm, nI N, nI K, ce, de, ke, se) i0 i1 kp dd tr m)
    refine zq_b [zq_il 2] [zq_ilchk 2] 3 rfl (by decide +kernel) ?_
    show zq_G _ _ _ _ _ 3 ([(0, .ref 15), (1, .int (nI k)), (2, .int (zi ((k : Int) - 5 * ((i : Nat) : Int))))], [.int (zi ((k : Int) - 5 * ((i : Nat) : Int)))], XH tx n (nI P, nI C, nI R, nI L, hs, ss, cs, gs, vs) dr rd (nI D, sm, nI N, nI K, ce, de, ke, se) i0 i1 kp dd tr m)
    refine zq_ifz .lt 26 (((k : Int) - 5 * ((i : Nat) : Int)) < 0) (by decide +kernel) (zi_lt0 (by omega) (by omega)) (fun c3 => absurd c3 (by omega)) (fun c3 => ?_)
    show zq_G _ _ _ _ _ 6 ([(0, .ref 15), (1, .int (nI k)), (2, .int (zi ((k : Int) - 5 * ((i : Nat) : Int))))], [], XH tx n (nI P, nI C, nI R, nI L, hs, ss, cs, gs, vs) dr rd (nI D, sm, nI N, nI K, ce, de, ke, se) i0 i1 kp dd tr m)
    refine zq_b [zq_al 0, zq_get 5 2, zq_il 2] [zq_alchk 0, zq_getchk 5 2, zq_ilchk 2] 11 rfl (by decide +kernel) ?_
    show zq_G _ _ _ _ _ 11 ([(0, .ref 15), (1, .int (nI k)), (2, .int (zi ((k : Int) - 5 * ((i : Nat) : Int))))], [.int (zi ((k : Int) - 5 * ((i : Nat) : Int))), .int sm], XH tx n (nI P, nI C, nI R, nI L, hs, ss, cs, gs, vs) dr rd (nI D, sm, nI N, nI K, ce, de, ke, se) i0 i1 kp dd tr m)
    refine zq_callN (av := [.int sm, .int (zi ((k : Int) - 5 * ((i : Nat) : Int)))]) (rest := []) (by decide +kernel) k5_60 (c_bit (x := sm) (p := (zi ((k : Int) - 5 * ((i : Nat) : Int))))) rfl rfl ?_
    show zq_G _ _ _ _ _ 14 ([(0, .ref 15), (1, .int (nI k)), (2, .int (zi ((k : Int) - 5 * ((i : Nat) : Int))))], [.int (zbit sm (zi ((k : Int) - 5 * ((i : Nat) : Int))))], XH tx n (nI P, nI C, nI R, nI L, hs, ss, cs, gs, vs) dr rd (nI D, sm, nI N, nI K, ce, de, ke, se) i0 i1 kp dd tr m)
    refine zq_b [zq_k 1] [zq_kchk 1] 15 rfl (by decide +kernel) ?_
    show zq_G _ _ _ _ _ 15 ([(0, .ref 15), (1, .int (nI k)), (2, .int (zi ((k : Int) - 5 * ((i : Nat) : Int))))], [.int 1, .int (zbit sm (zi ((k : Int) - 5 * ((i : Nat) : Int))))], XH tx n (nI P, nI C, nI R, nI L, hs, ss, cs, gs, vs) dr rd (nI D, sm, nI N, nI K, ce, de, ke, se) i0 i1 kp dd tr m)
    refine zq_if .ne 20 (¬ (zbit sm (zi ((k : Int) - 5 * ((i : Nat) : Int)))) = 1) (by decide +kernel) (Iff.rfl) (fun c15 => ?_) (fun c15 => ?_)
    · show zq_G _ _ _ _ _ 20 ([(0, .ref 15), (1, .int (nI k)), (2, .int (zi ((k : Int) - 5 * ((i : Nat) : Int))))], [], XH tx n (nI P, nI C, nI R, nI L, hs, ss, cs, gs, vs) dr rd (nI D, sm, nI N, nI K, ce, de, ke, se) i0 i1 kp dd tr m)
      refine zq_b [zq_inc 2 (-5) (zi ((k : Int) - 5 * ((i + 1 : Nat) : Int))), zq_go] [zq_incchk 2 (-5), zq_gochk] 2 rfl (by decide +kernel) ?_
      refine ⟨(zi_step k i), ?_⟩
      show zq_G _ _ _ _ _ 2 ([(0, .ref 15), (1, .int (nI k)), (2, .int (zi ((k : Int) - 5 * ((i + 1 : Nat) : Int))))], [], XH tx n (nI P, nI C, nI R, nI L, hs, ss, cs, gs, vs) dr rd (nI D, sm, nI N, nI K, ce, de, ke, se) i0 i1 kp dd tr m)
      exact ih2 (lt_ext hI2 (decide_eq_false c15))
    · show zq_G _ _ _ _ _ 18 ([(0, .ref 15), (1, .int (nI k)), (2, .int (zi ((k : Int) - 5 * ((i : Nat) : Int))))], [], XH tx n (nI P, nI C, nI R, nI L, hs, ss, cs, gs, vs) dr rd (nI D, sm, nI N, nI K, ce, de, ke, se) i0 i1 kp dd tr m)
      refine zq_b [zq_k 1] [zq_kchk 1] 19 rfl (by decide +kernel) ?_
      show zq_G _ _ _ _ _ 19 ([(0, .ref 15), (1, .int (nI k)), (2, .int (zi ((k : Int) - 5 * ((i : Nat) : Int))))], [.int 1], XH tx n (nI P, nI C, nI R, nI L, hs, ss, cs, gs, vs) dr rd (nI D, sm, nI N, nI K, ce, de, ke, se) i0 i1 kp dd tr m)
      exact zq_zret (by decide +kernel) rfl (Or.inr rfl) (zb_r (zb_t (zany_i hi2 (by simpa using c15)))) rfl
  · show zq_G _ _ _ _ _ 2 ([(0, .ref 15), (1, .int (nI k)), (2, .int (zi ((k : Int) - 5 * ((k / 5 + 1 : Nat) : Int))))], [], XH tx n (nI P, nI C, nI R, nI L, hs, ss, cs, gs, vs) dr rd (nI D, sm, nI N, nI K, ce, de, ke, se) i0 i1 kp dd tr m)
    refine zq_b [zq_il 2] [zq_ilchk 2] 3 rfl (by decide +kernel) ?_
    show zq_G _ _ _ _ _ 3 ([(0, .ref 15), (1, .int (nI k)), (2, .int (zi ((k : Int) - 5 * ((k / 5 + 1 : Nat) : Int))))], [.int (zi ((k : Int) - 5 * ((k / 5 + 1 : Nat) : Int)))], XH tx n (nI P, nI C, nI R, nI L, hs, ss, cs, gs, vs) dr rd (nI D, sm, nI N, nI K, ce, de, ke, se) i0 i1 kp dd tr m)
    refine zq_ifz .lt 26 (((k : Int) - 5 * ((k / 5 + 1 : Nat) : Int)) < 0) (by decide +kernel) (zi_lt0 (by omega) (by omega)) (fun c3 => ?_) (fun c3 => absurd (by omega) c3)
    show zq_G _ _ _ _ _ 26 ([(0, .ref 15), (1, .int (nI k)), (2, .int (zi ((k : Int) - 5 * ((k / 5 + 1 : Nat) : Int))))], [], XH tx n (nI P, nI C, nI R, nI L, hs, ss, cs, gs, vs) dr rd (nI D, sm, nI N, nI K, ce, de, ke, se) i0 i1 kp dd tr m)
    refine zq_b [zq_k 0] [zq_kchk 0] 27 rfl (by decide +kernel) ?_
    show zq_G _ _ _ _ _ 27 ([(0, .ref 15), (1, .int (nI k)), (2, .int (zi ((k : Int) - 5 * ((k / 5 + 1 : Nat) : Int))))], [.int 0], XH tx n (nI P, nI C, nI R, nI L, hs, ss, cs, gs, vs) dr rd (nI D, sm, nI N, nI K, ce, de, ke, se) i0 i1 kp dd tr m)
    exact zq_zret (by decide +kernel) rfl (Or.inl rfl) (zb_r (zb_f (by unfold smk; rw [zany_f hI2]; exact Bool.false_ne_true))) rfl
set_option maxHeartbeats 4000000 in
set_option maxRecDepth 100000 in
theorem c_isAhead {a : Nat} {b : Nat} (ha : a ≤ 26) (hb : b < 25) : zq_P l mX5_isAhead 1 [.int (nI a), .int (nI b)] (h) (some (.int (zb (aheadB a b = true)))) (h) := by
  refine zq_start (by decide +kernel) rfl (Nat.le_of_ble_eq_true rfl) ?_
  show zq_G _ _ _ _ _ 0 ([(0, .int (nI a)), (1, .int (nI b))], [], h)
  refine zq_b [zq_il 0] [zq_ilchk 0] 1 rfl (by decide +kernel) ?_
  show zq_G _ _ _ _ _ 1 ([(0, .int (nI a)), (1, .int (nI b))], [.int (nI a)], h)
  refine zq_callN (av := [.int (nI a)]) (rest := []) (by decide +kernel) k5_84 (c_isInSquare (a := a) (by omega)) rfl rfl ?_
  show zq_G _ _ _ _ _ 4 ([(0, .int (nI a)), (1, .int (nI b))], [.int (zb (a < 25))], h)
  refine zq_ifz .eq 25 (¬ (a < 25)) (by decide +kernel) (zb_eq _) (fun c4 => ?_) (fun c4 => ?_)
  · show zq_G _ _ _ _ _ 25 ([(0, .int (nI a)), (1, .int (nI b))], [], h)
    refine zq_b [zq_k 0] [zq_kchk 0] 26 rfl (by decide +kernel) ?_
    show zq_G _ _ _ _ _ 26 ([(0, .int (nI a)), (1, .int (nI b))], [.int 0], h)
    exact zq_zret (by decide +kernel) rfl (Or.inl rfl) (zb_r (zb_f (by unfold aheadB; simp; omega))) rfl
  · show zq_G _ _ _ _ _ 7 ([(0, .int (nI a)), (1, .int (nI b))], [], h)
    refine zq_b [zq_il 0, zq_il 1] [zq_ilchk 0, zq_ilchk 1] 9 rfl (by decide +kernel) ?_
    show zq_G _ _ _ _ _ 9 ([(0, .int (nI a)), (1, .int (nI b))], [.int (nI b), .int (nI a)], h)
    refine zq_if .ge 25 (b ≤ a) (by decide +kernel) (zq_cge (a := a) (b := b) (by omega) (by omega)) (fun c9 => ?_) (fun c9 => ?_)
    · show zq_G _ _ _ _ _ 25 ([(0, .int (nI a)), (1, .int (nI b))], [], h)
      refine zq_b [zq_k 0] [zq_kchk 0] 26 rfl (by decide +kernel) ?_
      show zq_G _ _ _ _ _ 26 ([(0, .int (nI a)), (1, .int (nI b))], [.int 0], h)
      exact zq_zret (by decide +kernel) rfl (Or.inl rfl) (zb_r (zb_f (by unfold aheadB; simp; omega))) rfl
    · show zq_G _ _ _ _ _ 12 ([(0, .int (nI a)), (1, .int (nI b))], [], h)
      refine zq_b [zq_il 0, zq_k 5, zq_irem (nI (a % 5)), zq_il 1, zq_k 5, zq_irem (nI (b % 5))] [zq_ilchk 0, zq_kchk 5, zq_is .irem 1, zq_ilchk 1, zq_kchk 5, zq_is .irem 1] 18 rfl (by decide +kernel) ?_
      refine ⟨(by decide), (zq_rem (a := a) (b := 5) (by omega) (by omega) (by omega)), (by decide), (zq_rem (a := b) (b := 5) (by omega) (by omega) (by omega)), ?_⟩
      show zq_G _ _ _ _ _ 18 ([(0, .int (nI a)), (1, .int (nI b))], [.int (nI (b % 5)), .int (nI (a % 5))], h)
      refine zq_if .ne 25 (¬ (a % 5) = (b % 5)) (by decide +kernel) (zq_cne (a := a % 5) (b := b % 5) (by omega) (by omega)) (fun c18 => ?_) (fun c18 => ?_)
      · show zq_G _ _ _ _ _ 25 ([(0, .int (nI a)), (1, .int (nI b))], [], h)
        refine zq_b [zq_k 0] [zq_kchk 0] 26 rfl (by decide +kernel) ?_
        show zq_G _ _ _ _ _ 26 ([(0, .int (nI a)), (1, .int (nI b))], [.int 0], h)
        exact zq_zret (by decide +kernel) rfl (Or.inl rfl) (zb_r (zb_f (by unfold aheadB; simp; omega))) rfl
      · show zq_G _ _ _ _ _ 21 ([(0, .int (nI a)), (1, .int (nI b))], [], h)
        refine zq_b [zq_k 1, zq_go] [zq_kchk 1, zq_gochk] 26 rfl (by decide +kernel) ?_
        show zq_G _ _ _ _ _ 26 ([(0, .int (nI a)), (1, .int (nI b))], [.int 1], h)
        exact zq_zret (by decide +kernel) rfl (Or.inr rfl) (zb_r (zb_t (by unfold aheadB; simp; omega))) rfl
end XV1
