section XV5
variable {l : Launch} {tx : Nat → Int32} {n : Int32} {t dr : zT} {rd : zR} {w i0 i1 : zN} {kp : Nat → Int32} {dd : Int32} {tr : Int64} {m : Nat → zq_C} {h : zq_H}
variable {P C R L D N K Z : Nat} {hs ss cs gs vs ce de ke se : Nat → Int32} {sm : Int32} {cn ga va : Nat → Nat}
set_option maxHeartbeats 4000000 in
set_option maxRecDepth 100000 in
theorem x_counts_bad {x : Int32} (hN : N ≤ 12) (hb : ¬ (0 ≤ x.toInt ∧ x.toInt < (N : Int))) : zq_P l mX11_counts 1 [.ref 0, .int x] (XH tx (nI Z) (nI P, nI C, nI R, nI L, hs, ss, cs, gs, vs) dr rd (nI D, sm, nI N, nI K, ce, de, ke, se) i0 i1 kp dd tr m) (some (.int (-1))) (XH tx (nI Z) (nI P, nI C, nI R, nI L, hs, ss, cs, gs, vs) dr rd (nI D, sm, nI N, nI K, ce, de, ke, se) i0 i1 kp dd tr m) := by
  refine zq_start (by decide +kernel) rfl (Nat.le_of_ble_eq_true rfl) ?_
  show zq_G _ _ _ _ _ 0 ([(0, .ref 0), (1, .int x)], [], XH tx (nI Z) (nI P, nI C, nI R, nI L, hs, ss, cs, gs, vs) dr rd (nI D, sm, nI N, nI K, ce, de, ke, se) i0 i1 kp dd tr m)
  refine zq_b [zq_al 0, zq_get 11 5, zq_il 1] [zq_alchk 0, zq_getchk 11 5, zq_ilchk 1] 5 rfl (by decide +kernel) ?_
  show zq_G _ _ _ _ _ 5 ([(0, .ref 0), (1, .int x)], [.int x, .ref 15], XH tx (nI Z) (nI P, nI C, nI R, nI L, hs, ss, cs, gs, vs) dr rd (nI D, sm, nI N, nI K, ce, de, ke, se) i0 i1 kp dd tr m)
  refine zq_callV (av := [.int x]) (rest := []) (by decide +kernel) k11_168 (x_hasDeed (i := x) hN) rfl rfl rfl rfl ?_
  show zq_G _ _ _ _ _ 8 ([(0, .ref 0), (1, .int x)], [.int (zb (0 ≤ x.toInt ∧ x.toInt < (N : Int)))], XH tx (nI Z) (nI P, nI C, nI R, nI L, hs, ss, cs, gs, vs) dr rd (nI D, sm, nI N, nI K, ce, de, ke, se) i0 i1 kp dd tr m)
  refine zq_ifz .ne 13 (0 ≤ x.toInt ∧ x.toInt < (N : Int)) (by decide +kernel) (zb_ne _) (fun c8 => ?_) (fun c8 => ?_)
  · show zq_G _ _ _ _ _ 13 ([(0, .ref 0), (1, .int x)], [], XH tx (nI Z) (nI P, nI C, nI R, nI L, hs, ss, cs, gs, vs) dr rd (nI D, sm, nI N, nI K, ce, de, ke, se) i0 i1 kp dd tr m)
    exact absurd hb (by omega)
  · show zq_G _ _ _ _ _ 11 ([(0, .ref 0), (1, .int x)], [], XH tx (nI Z) (nI P, nI C, nI R, nI L, hs, ss, cs, gs, vs) dr rd (nI D, sm, nI N, nI K, ce, de, ke, se) i0 i1 kp dd tr m)
    refine zq_b [zq_k (-1)] [zq_kchk (-1)] 12 rfl (by decide +kernel) ?_
    show zq_G _ _ _ _ _ 12 ([(0, .ref 0), (1, .int x)], [.int (-1)], XH tx (nI Z) (nI P, nI C, nI R, nI L, hs, ss, cs, gs, vs) dr rd (nI D, sm, nI N, nI K, ce, de, ke, se) i0 i1 kp dd tr m)
    exact zq_iret (by decide +kernel) rfl rfl rfl
set_option maxHeartbeats 4000000 in
set_option maxRecDepth 100000 in
theorem x_counts {i : Nat} (hN : N ≤ 12) (hi : i < N) : zq_P l mX11_counts 1 [.ref 0, .int (nI i)] (XH tx (nI Z) (nI P, nI C, nI R, nI L, hs, ss, cs, gs, vs) dr rd (nI D, sm, nI N, nI K, ce, de, ke, se) i0 i1 kp dd tr m) (some (.int (if de (i * 5 + 4) = 1 then de (i * 5 + 2) + nI L else -9))) (XH tx (nI Z) (nI P, nI C, nI R, nI L, hs, ss, cs, gs, vs) dr rd (nI D, sm, nI N, nI K, ce, de, ke, se) i0 i1 kp dd tr m) := by
  refine zq_start (by decide +kernel) rfl (Nat.le_of_ble_eq_true rfl) ?_
  show zq_G _ _ _ _ _ 0 ([(0, .ref 0), (1, .int (nI i))], [], XH tx (nI Z) (nI P, nI C, nI R, nI L, hs, ss, cs, gs, vs) dr rd (nI D, sm, nI N, nI K, ce, de, ke, se) i0 i1 kp dd tr m)
  refine zq_b [zq_al 0, zq_get 11 5, zq_il 1] [zq_alchk 0, zq_getchk 11 5, zq_ilchk 1] 5 rfl (by decide +kernel) ?_
  show zq_G _ _ _ _ _ 5 ([(0, .ref 0), (1, .int (nI i))], [.int (nI i), .ref 15], XH tx (nI Z) (nI P, nI C, nI R, nI L, hs, ss, cs, gs, vs) dr rd (nI D, sm, nI N, nI K, ce, de, ke, se) i0 i1 kp dd tr m)
  refine zq_callV (av := [.int (nI i)]) (rest := []) (by decide +kernel) k11_168 (x_hasDeedN (i := i) hN (by omega)) rfl rfl rfl rfl ?_
  show zq_G _ _ _ _ _ 8 ([(0, .ref 0), (1, .int (nI i))], [.int (zb (i < N))], XH tx (nI Z) (nI P, nI C, nI R, nI L, hs, ss, cs, gs, vs) dr rd (nI D, sm, nI N, nI K, ce, de, ke, se) i0 i1 kp dd tr m)
  refine zq_ifz .ne 13 (i < N) (by decide +kernel) (zb_ne _) (fun c8 => ?_) (fun c8 => absurd (by omega) c8)
  show zq_G _ _ _ _ _ 13 ([(0, .ref 0), (1, .int (nI i))], [], XH tx (nI Z) (nI P, nI C, nI R, nI L, hs, ss, cs, gs, vs) dr rd (nI D, sm, nI N, nI K, ce, de, ke, se) i0 i1 kp dd tr m)
  refine zq_b [zq_al 0, zq_get 11 5, zq_il 1, zq_k 4] [zq_alchk 0, zq_getchk 11 5, zq_ilchk 1, zq_kchk 4] 19 rfl (by decide +kernel) ?_
  show zq_G _ _ _ _ _ 19 ([(0, .ref 0), (1, .int (nI i))], [.int 4, .int (nI i), .ref 15], XH tx (nI Z) (nI P, nI C, nI R, nI L, hs, ss, cs, gs, vs) dr rd (nI D, sm, nI N, nI K, ce, de, ke, se) i0 i1 kp dd tr m)
  refine zq_callV (av := [.int (nI i), .int 4]) (rest := []) (by decide +kernel) k11_171 (c_ofDeed (i := i) (k := 4) (by omega) (by omega)) rfl rfl rfl rfl ?_
  show zq_G _ _ _ _ _ 22 ([(0, .ref 0), (1, .int (nI i))], [.int (de (i * 5 + 4))], XH tx (nI Z) (nI P, nI C, nI R, nI L, hs, ss, cs, gs, vs) dr rd (nI D, sm, nI N, nI K, ce, de, ke, se) i0 i1 kp dd tr m)
  refine zq_b [zq_k 1] [zq_kchk 1] 23 rfl (by decide +kernel) ?_
  show zq_G _ _ _ _ _ 23 ([(0, .ref 0), (1, .int (nI i))], [.int 1, .int (de (i * 5 + 4))], XH tx (nI Z) (nI P, nI C, nI R, nI L, hs, ss, cs, gs, vs) dr rd (nI D, sm, nI N, nI K, ce, de, ke, se) i0 i1 kp dd tr m)
  refine zq_if .ne 46 (¬ (de (i * 5 + 4)) = 1) (by decide +kernel) (Iff.rfl) (fun c23 => ?_) (fun c23 => ?_)
  · show zq_G _ _ _ _ _ 46 ([(0, .ref 0), (1, .int (nI i))], [], XH tx (nI Z) (nI P, nI C, nI R, nI L, hs, ss, cs, gs, vs) dr rd (nI D, sm, nI N, nI K, ce, de, ke, se) i0 i1 kp dd tr m)
    refine zq_b [zq_k (-9)] [zq_kchk (-9)] 48 rfl (by decide +kernel) ?_
    show zq_G _ _ _ _ _ 48 ([(0, .ref 0), (1, .int (nI i))], [.int (-9)], XH tx (nI Z) (nI P, nI C, nI R, nI L, hs, ss, cs, gs, vs) dr rd (nI D, sm, nI N, nI K, ce, de, ke, se) i0 i1 kp dd tr m)
    exact zq_iret (by decide +kernel) rfl (by rw [if_neg c23]) rfl
  · show zq_G _ _ _ _ _ 26 ([(0, .ref 0), (1, .int (nI i))], [], XH tx (nI Z) (nI P, nI C, nI R, nI L, hs, ss, cs, gs, vs) dr rd (nI D, sm, nI N, nI K, ce, de, ke, se) i0 i1 kp dd tr m)
    refine zq_b [zq_al 0, zq_get 11 5, zq_il 1, zq_k 2] [zq_alchk 0, zq_getchk 11 5, zq_ilchk 1, zq_kchk 2] 32 rfl (by decide +kernel) ?_
    show zq_G _ _ _ _ _ 32 ([(0, .ref 0), (1, .int (nI i))], [.int 2, .int (nI i), .ref 15], XH tx (nI Z) (nI P, nI C, nI R, nI L, hs, ss, cs, gs, vs) dr rd (nI D, sm, nI N, nI K, ce, de, ke, se) i0 i1 kp dd tr m)
    refine zq_callV (av := [.int (nI i), .int 2]) (rest := []) (by decide +kernel) k11_171 (c_ofDeed (i := i) (k := 2) (by omega) (by omega)) rfl rfl rfl rfl ?_
    show zq_G _ _ _ _ _ 35 ([(0, .ref 0), (1, .int (nI i))], [.int (de (i * 5 + 2))], XH tx (nI Z) (nI P, nI C, nI R, nI L, hs, ss, cs, gs, vs) dr rd (nI D, sm, nI N, nI K, ce, de, ke, se) i0 i1 kp dd tr m)
    refine zq_b [zq_al 0, zq_get 11 2, zq_get 9 3, zq_iadd ((de (i * 5 + 2)) + (nI L)), zq_go] [zq_alchk 0, zq_getchk 11 2, zq_getchk 9 3, zq_is .iadd 1, zq_gochk] 48 rfl (by decide +kernel) ?_
    refine ⟨rfl, ?_⟩
    show zq_G _ _ _ _ _ 48 ([(0, .ref 0), (1, .int (nI i))], [.int ((de (i * 5 + 2)) + (nI L))], XH tx (nI Z) (nI P, nI C, nI R, nI L, hs, ss, cs, gs, vs) dr rd (nI D, sm, nI N, nI K, ce, de, ke, se) i0 i1 kp dd tr m)
    exact zq_iret (by decide +kernel) rfl (by rw [if_pos (Decidable.not_not.mp c23)]) rfl
set_option maxHeartbeats 4000000 in
set_option maxRecDepth 100000 in
theorem x_holder_bad {x : Int32} {y : Int32} (hb : ¬ (0 ≤ x.toInt ∧ x.toInt ≤ 7 ∧ 0 ≤ y.toInt ∧ y.toInt ≤ 200)) : zq_P l mX11_holder 1 [.ref 0, .int x, .int y] (XH tx (nI Z) (nI P, nI C, nI R, nI L, hs, ss, cs, gs, vs) dr rd (nI D, sm, nI N, nI K, ce, de, ke, se) i0 i1 kp dd tr m) (some (.int (-1))) (XH tx (nI Z) (nI P, nI C, nI R, nI L, hs, ss, cs, gs, vs) dr rd (nI D, sm, nI N, nI K, ce, de, ke, se) i0 i1 kp dd tr m) := by
  refine zq_start (by decide +kernel) rfl (Nat.le_of_ble_eq_true rfl) ?_
  show zq_G _ _ _ _ _ 0 ([(0, .ref 0), (1, .int x), (2, .int y)], [], XH tx (nI Z) (nI P, nI C, nI R, nI L, hs, ss, cs, gs, vs) dr rd (nI D, sm, nI N, nI K, ce, de, ke, se) i0 i1 kp dd tr m)
  refine zq_b [zq_il 1, zq_k 7] [zq_ilchk 1, zq_kchk 7] 3 rfl (by decide +kernel) ?_
  show zq_G _ _ _ _ _ 3 ([(0, .ref 0), (1, .int x), (2, .int y)], [.int 7, .int x], XH tx (nI Z) (nI P, nI C, nI R, nI L, hs, ss, cs, gs, vs) dr rd (nI D, sm, nI N, nI K, ce, de, ke, se) i0 i1 kp dd tr m)
  refine zq_callS (av := [.int x, .int 7]) (rest := []) (by decide +kernel) k11_87 (x_isBeyond (x := x) (q := 7) (by omega)) rfl rfl ?_
  show zq_G _ _ _ _ _ 6 ([(0, .ref 0), (1, .int x), (2, .int y)], [.int (zb (x.toInt < 0 ∨ (7 : Int) < x.toInt))], XH tx (nI Z) (nI P, nI C, nI R, nI L, hs, ss, cs, gs, vs) dr rd (nI D, sm, nI N, nI K, ce, de, ke, se) i0 i1 kp dd tr m)
  refine zq_ifz .ne 19 (x.toInt < 0 ∨ (7 : Int) < x.toInt) (by decide +kernel) (zb_ne _) (fun c6 => ?_) (fun c6 => ?_)
  · show zq_G _ _ _ _ _ 19 ([(0, .ref 0), (1, .int x), (2, .int y)], [], XH tx (nI Z) (nI P, nI C, nI R, nI L, hs, ss, cs, gs, vs) dr rd (nI D, sm, nI N, nI K, ce, de, ke, se) i0 i1 kp dd tr m)
    refine zq_b [zq_k (-1)] [zq_kchk (-1)] 20 rfl (by decide +kernel) ?_
    show zq_G _ _ _ _ _ 20 ([(0, .ref 0), (1, .int x), (2, .int y)], [.int (-1)], XH tx (nI Z) (nI P, nI C, nI R, nI L, hs, ss, cs, gs, vs) dr rd (nI D, sm, nI N, nI K, ce, de, ke, se) i0 i1 kp dd tr m)
    exact zq_iret (by decide +kernel) rfl rfl rfl
  · show zq_G _ _ _ _ _ 9 ([(0, .ref 0), (1, .int x), (2, .int y)], [], XH tx (nI Z) (nI P, nI C, nI R, nI L, hs, ss, cs, gs, vs) dr rd (nI D, sm, nI N, nI K, ce, de, ke, se) i0 i1 kp dd tr m)
    refine zq_b [zq_il 2, zq_k 200] [zq_ilchk 2, zq_kchk 200] 13 rfl (by decide +kernel) ?_
    show zq_G _ _ _ _ _ 13 ([(0, .ref 0), (1, .int x), (2, .int y)], [.int 200, .int y], XH tx (nI Z) (nI P, nI C, nI R, nI L, hs, ss, cs, gs, vs) dr rd (nI D, sm, nI N, nI K, ce, de, ke, se) i0 i1 kp dd tr m)
    refine zq_callS (av := [.int y, .int 200]) (rest := []) (by decide +kernel) k11_87 (x_isBeyond (x := y) (q := 200) (by omega)) rfl rfl ?_
    show zq_G _ _ _ _ _ 16 ([(0, .ref 0), (1, .int x), (2, .int y)], [.int (zb (y.toInt < 0 ∨ (200 : Int) < y.toInt))], XH tx (nI Z) (nI P, nI C, nI R, nI L, hs, ss, cs, gs, vs) dr rd (nI D, sm, nI N, nI K, ce, de, ke, se) i0 i1 kp dd tr m)
    refine zq_ifz .eq 21 (¬ (y.toInt < 0 ∨ (200 : Int) < y.toInt)) (by decide +kernel) (zb_eq _) (fun c16 => ?_) (fun c16 => ?_)
    · show zq_G _ _ _ _ _ 21 ([(0, .ref 0), (1, .int x), (2, .int y)], [], XH tx (nI Z) (nI P, nI C, nI R, nI L, hs, ss, cs, gs, vs) dr rd (nI D, sm, nI N, nI K, ce, de, ke, se) i0 i1 kp dd tr m)
      exact absurd hb (by omega)
    · show zq_G _ _ _ _ _ 19 ([(0, .ref 0), (1, .int x), (2, .int y)], [], XH tx (nI Z) (nI P, nI C, nI R, nI L, hs, ss, cs, gs, vs) dr rd (nI D, sm, nI N, nI K, ce, de, ke, se) i0 i1 kp dd tr m)
      refine zq_b [zq_k (-1)] [zq_kchk (-1)] 20 rfl (by decide +kernel) ?_
      show zq_G _ _ _ _ _ 20 ([(0, .ref 0), (1, .int x), (2, .int y)], [.int (-1)], XH tx (nI Z) (nI P, nI C, nI R, nI L, hs, ss, cs, gs, vs) dr rd (nI D, sm, nI N, nI K, ce, de, ke, se) i0 i1 kp dd tr m)
      exact zq_iret (by decide +kernel) rfl rfl rfl
set_option maxHeartbeats 4000000 in
set_option maxRecDepth 100000 in
theorem x_holder {a : Nat} {b : Nat} (ha : a ≤ 7) (hb2 : b ≤ 200) (hN : N ≤ 12) (hR : R ≤ 6) : zq_P l mX11_holder 4 [.ref 0, .int (nI a), .int (nI b)] (XH tx (nI Z) (nI P, nI C, nI R, nI L, hs, ss, cs, gs, vs) dr rd (nI D, sm, nI N, nI K, ce, de, ke, se) i0 i1 kp dd tr m) (some (.int (zwho (fun r => zac r vs gs R) (fun a => zown de N (nI a) (nI b) (nI L)) ((1 : Int32) <<< (nI a &&& 31))))) (XH tx (nI Z) (nI P, nI C, nI R, nI L, hs, ss, cs, gs, vs) dr rd (nI D, sm, nI N, nI K, ce, de, ke, se) i0 i1 kp dd tr m) := by
  refine zq_start (by decide +kernel) rfl (Nat.le_of_ble_eq_true rfl) ?_
  show zq_G _ _ _ _ _ 0 ([(0, .ref 0), (1, .int (nI a)), (2, .int (nI b))], [], XH tx (nI Z) (nI P, nI C, nI R, nI L, hs, ss, cs, gs, vs) dr rd (nI D, sm, nI N, nI K, ce, de, ke, se) i0 i1 kp dd tr m)
  refine zq_b [zq_il 1, zq_k 7] [zq_ilchk 1, zq_kchk 7] 3 rfl (by decide +kernel) ?_
  show zq_G _ _ _ _ _ 3 ([(0, .ref 0), (1, .int (nI a)), (2, .int (nI b))], [.int 7, .int (nI a)], XH tx (nI Z) (nI P, nI C, nI R, nI L, hs, ss, cs, gs, vs) dr rd (nI D, sm, nI N, nI K, ce, de, ke, se) i0 i1 kp dd tr m)
  refine zq_callS (av := [.int (nI a), .int 7]) (rest := []) (by decide +kernel) k11_87 (x_isBeyondN (p := a) (q := 7) (by omega) (by omega)) rfl rfl ?_
  show zq_G _ _ _ _ _ 6 ([(0, .ref 0), (1, .int (nI a)), (2, .int (nI b))], [.int (zb (7 < a))], XH tx (nI Z) (nI P, nI C, nI R, nI L, hs, ss, cs, gs, vs) dr rd (nI D, sm, nI N, nI K, ce, de, ke, se) i0 i1 kp dd tr m)
  refine zq_ifz .ne 19 (7 < a) (by decide +kernel) (zb_ne _) (fun c6 => absurd c6 (by omega)) (fun c6 => ?_)
  show zq_G _ _ _ _ _ 9 ([(0, .ref 0), (1, .int (nI a)), (2, .int (nI b))], [], XH tx (nI Z) (nI P, nI C, nI R, nI L, hs, ss, cs, gs, vs) dr rd (nI D, sm, nI N, nI K, ce, de, ke, se) i0 i1 kp dd tr m)
  refine zq_b [zq_il 2, zq_k 200] [zq_ilchk 2, zq_kchk 200] 13 rfl (by decide +kernel) ?_
  show zq_G _ _ _ _ _ 13 ([(0, .ref 0), (1, .int (nI a)), (2, .int (nI b))], [.int 200, .int (nI b)], XH tx (nI Z) (nI P, nI C, nI R, nI L, hs, ss, cs, gs, vs) dr rd (nI D, sm, nI N, nI K, ce, de, ke, se) i0 i1 kp dd tr m)
  refine zq_callS (av := [.int (nI b), .int 200]) (rest := []) (by decide +kernel) k11_87 (x_isBeyondN (p := b) (q := 200) (by omega) (by omega)) rfl rfl ?_
  show zq_G _ _ _ _ _ 16 ([(0, .ref 0), (1, .int (nI a)), (2, .int (nI b))], [.int (zb (200 < b))], XH tx (nI Z) (nI P, nI C, nI R, nI L, hs, ss, cs, gs, vs) dr rd (nI D, sm, nI N, nI K, ce, de, ke, se) i0 i1 kp dd tr m)
  refine zq_ifz .eq 21 (¬ (200 < b)) (by decide +kernel) (zb_eq _) (fun c16 => ?_) (fun c16 => absurd (by omega) c16)
  show zq_G _ _ _ _ _ 21 ([(0, .ref 0), (1, .int (nI a)), (2, .int (nI b))], [], XH tx (nI Z) (nI P, nI C, nI R, nI L, hs, ss, cs, gs, vs) dr rd (nI D, sm, nI N, nI K, ce, de, ke, se) i0 i1 kp dd tr m)
  refine zq_b [zq_al 0, zq_get 11 8, zq_il 1, zq_il 2, zq_al 0, zq_get 11 2, zq_get 9 3] [zq_alchk 0, zq_getchk 11 8, zq_ilchk 1, zq_ilchk 2, zq_alchk 0, zq_getchk 11 2, zq_getchk 9 3] 34 rfl (by decide +kernel) ?_
  show zq_G _ _ _ _ _ 34 ([(0, .ref 0), (1, .int (nI a)), (2, .int (nI b))], [.int (nI L), .int (nI b), .int (nI a), .ref 32], XH tx (nI Z) (nI P, nI C, nI R, nI L, hs, ss, cs, gs, vs) dr rd (nI D, sm, nI N, nI K, ce, de, ke, se) i0 i1 kp dd tr m)
  refine zq_callV (av := [.int (nI a), .int (nI b), .int (nI L)]) (rest := []) (by decide +kernel) k11_174 (c_whoHolds (x := (nI a)) (y := (nI b)) (z := (nI L)) hN hR) rfl rfl rfl rfl ?_
  show zq_G _ _ _ _ _ 37 ([(0, .ref 0), (1, .int (nI a)), (2, .int (nI b))], [.int (zwho (fun r => zac r vs gs R) (fun a => zown de N (nI a) (nI b) (nI L)) ((1 : Int32) <<< (nI a &&& 31)))], XH tx (nI Z) (nI P, nI C, nI R, nI L, hs, ss, cs, gs, vs) dr rd (nI D, sm, nI N, nI K, ce, de, ke, se) i0 i1 kp dd tr m)
  exact zq_iret (by decide +kernel) rfl rfl rfl
set_option maxHeartbeats 4000000 in
set_option maxRecDepth 100000 in
theorem x_round  (hR : R ≤ 6) : zq_P l mX11_round 4 [.ref 0] (XH tx (nI Z) (nI P, nI C, nI R, nI L, hs, ss, cs, gs, vs) dr rd (nI D, sm, nI N, nI K, ce, de, ke, se) i0 i1 kp dd tr m) (some (.int (zfs (fun a => decide (zbit (zrc (fun r => zac r gs vs R) (zac ((1 : Int32) <<< (nI a &&& 31)) gs vs R) 8) (nI a) = 1)) nI 8))) (XH tx (nI Z) (nI P, nI C, nI R, nI L, hs, ss, cs, gs, vs) dr rd (nI D, sm, nI N, nI K, ce, de, ke, se) i0 i1 kp dd tr m) := by
  refine zq_start (by decide +kernel) rfl (Nat.le_of_ble_eq_true rfl) ?_
  show zq_G _ _ _ _ _ 0 ([(0, .ref 0)], [], XH tx (nI Z) (nI P, nI C, nI R, nI L, hs, ss, cs, gs, vs) dr rd (nI D, sm, nI N, nI K, ce, de, ke, se) i0 i1 kp dd tr m)
  refine zq_b [zq_k 0, zq_is1 1] [zq_kchk 0, zq_is1chk 1] 2 rfl (by decide +kernel) ?_
  show zq_G _ _ _ _ _ 2 ([(0, .ref 0), (1, .int 0)], [], XH tx (nI Z) (nI P, nI C, nI R, nI L, hs, ss, cs, gs, vs) dr rd (nI D, sm, nI N, nI K, ce, de, ke, se) i0 i1 kp dd tr m)
  refine zq_loop (fun i => ([(0, .ref 0), (1, .int (nI i))], [], XH tx (nI Z) (nI P, nI C, nI R, nI L, hs, ss, cs, gs, vs) dr rd (nI D, sm, nI N, nI K, ce, de, ke, se) i0 i1 kp dd tr m)) (fun i => ∀ j, j < i → decide (zbit (zrc (fun r => zac r gs vs R) (zac ((1 : Int32) <<< (nI j &&& 31)) gs vs R) 8) (nI j) = 1) = false) (8) (0) (by omega) ((fun j hj => absurd hj (by omega))) (fun i hl2 hi2 hI2 ih2 => ?_) (fun hI2 => ?_)
  · show zq_G _ _ _ _ _ 2 ([(0, .ref 0), (1, .int (nI i))], [], XH tx (nI Z) (nI P, nI C, nI R, nI L, hs, ss, cs, gs, vs) dr rd (nI D, sm, nI N, nI K, ce, de, ke, se) i0 i1 kp dd tr m)
    refine zq_b [zq_il 1, zq_k 8] [zq_ilchk 1, zq_kchk 8] 5 rfl (by decide +kernel) ?_
    show zq_G _ _ _ _ _ 5 ([(0, .ref 0), (1, .int (nI i))], [.int 8, .int (nI i)], XH tx (nI Z) (nI P, nI C, nI R, nI L, hs, ss, cs, gs, vs) dr rd (nI D, sm, nI N, nI K, ce, de, ke, se) i0 i1 kp dd tr m)
    refine zq_if .ge 27 (8 ≤ i) (by decide +kernel) (zq_cge (a := i) (b := 8) (by omega) (by omega)) (fun c5 => absurd c5 (by omega)) (fun c5 => ?_)
    show zq_G _ _ _ _ _ 8 ([(0, .ref 0), (1, .int (nI i))], [], XH tx (nI Z) (nI P, nI C, nI R, nI L, hs, ss, cs, gs, vs) dr rd (nI D, sm, nI N, nI K, ce, de, ke, se) i0 i1 kp dd tr m)
    refine zq_b [zq_al 0, zq_get 11 8, zq_il 1] [zq_alchk 0, zq_getchk 11 8, zq_ilchk 1] 13 rfl (by decide +kernel) ?_
    show zq_G _ _ _ _ _ 13 ([(0, .ref 0), (1, .int (nI i))], [.int (nI i), .ref 32], XH tx (nI Z) (nI P, nI C, nI R, nI L, hs, ss, cs, gs, vs) dr rd (nI D, sm, nI N, nI K, ce, de, ke, se) i0 i1 kp dd tr m)
    refine zq_callV (av := [.int (nI i)]) (rest := []) (by decide +kernel) k11_178 (c_comesBack (x := (nI i)) hR) rfl rfl rfl rfl ?_
    show zq_G _ _ _ _ _ 16 ([(0, .ref 0), (1, .int (nI i))], [.int (zb (zbit (zrc (fun r => zac r gs vs R) (zac ((1 : Int32) <<< (nI i &&& 31)) gs vs R) 8) (nI i) = 1))], XH tx (nI Z) (nI P, nI C, nI R, nI L, hs, ss, cs, gs, vs) dr rd (nI D, sm, nI N, nI K, ce, de, ke, se) i0 i1 kp dd tr m)
    refine zq_ifz .eq 21 (¬ (zbit (zrc (fun r => zac r gs vs R) (zac ((1 : Int32) <<< (nI i &&& 31)) gs vs R) 8) (nI i) = 1)) (by decide +kernel) (zb_eq _) (fun c16 => ?_) (fun c16 => ?_)
    · show zq_G _ _ _ _ _ 21 ([(0, .ref 0), (1, .int (nI i))], [], XH tx (nI Z) (nI P, nI C, nI R, nI L, hs, ss, cs, gs, vs) dr rd (nI D, sm, nI N, nI K, ce, de, ke, se) i0 i1 kp dd tr m)
      refine zq_b [zq_inc 1 1 (nI (i + 1)), zq_go] [zq_incchk 1 1, zq_gochk] 2 rfl (by decide +kernel) ?_
      refine ⟨nI_add i 1, ?_⟩
      show zq_G _ _ _ _ _ 2 ([(0, .ref 0), (1, .int (nI (i + 1)))], [], XH tx (nI Z) (nI P, nI C, nI R, nI L, hs, ss, cs, gs, vs) dr rd (nI D, sm, nI N, nI K, ce, de, ke, se) i0 i1 kp dd tr m)
      exact ih2 (lt_ext hI2 (decide_eq_false c16))
    · show zq_G _ _ _ _ _ 19 ([(0, .ref 0), (1, .int (nI i))], [], XH tx (nI Z) (nI P, nI C, nI R, nI L, hs, ss, cs, gs, vs) dr rd (nI D, sm, nI N, nI K, ce, de, ke, se) i0 i1 kp dd tr m)
      refine zq_b [zq_il 1] [zq_ilchk 1] 20 rfl (by decide +kernel) ?_
      show zq_G _ _ _ _ _ 20 ([(0, .ref 0), (1, .int (nI i))], [.int (nI i)], XH tx (nI Z) (nI P, nI C, nI R, nI L, hs, ss, cs, gs, vs) dr rd (nI D, sm, nI N, nI K, ce, de, ke, se) i0 i1 kp dd tr m)
      exact zq_iret (by decide +kernel) rfl (by rw [zfs_at hi2 (decide_eq_true (Decidable.not_not.mp c16)) hI2]) rfl
  · show zq_G _ _ _ _ _ 2 ([(0, .ref 0), (1, .int 8)], [], XH tx (nI Z) (nI P, nI C, nI R, nI L, hs, ss, cs, gs, vs) dr rd (nI D, sm, nI N, nI K, ce, de, ke, se) i0 i1 kp dd tr m)
    refine zq_b [zq_il 1, zq_k 8] [zq_ilchk 1, zq_kchk 8] 5 rfl (by decide +kernel) ?_
    show zq_G _ _ _ _ _ 5 ([(0, .ref 0), (1, .int 8)], [.int 8, .int 8], XH tx (nI Z) (nI P, nI C, nI R, nI L, hs, ss, cs, gs, vs) dr rd (nI D, sm, nI N, nI K, ce, de, ke, se) i0 i1 kp dd tr m)
    refine zq_if .ge 27 (8 ≤ 8) (by decide +kernel) (zq_cge (a := 8) (b := 8) (by omega) (by omega)) (fun c5 => ?_) (fun c5 => absurd (by omega) c5)
    show zq_G _ _ _ _ _ 27 ([(0, .ref 0), (1, .int 8)], [], XH tx (nI Z) (nI P, nI C, nI R, nI L, hs, ss, cs, gs, vs) dr rd (nI D, sm, nI N, nI K, ce, de, ke, se) i0 i1 kp dd tr m)
    refine zq_b [zq_k (-9)] [zq_kchk (-9)] 29 rfl (by decide +kernel) ?_
    show zq_G _ _ _ _ _ 29 ([(0, .ref 0), (1, .int 8)], [.int (-9)], XH tx (nI Z) (nI P, nI C, nI R, nI L, hs, ss, cs, gs, vs) dr rd (nI D, sm, nI N, nI K, ce, de, ke, se) i0 i1 kp dd tr m)
    exact zq_iret (by decide +kernel) rfl (by rw [zfs_no hI2]) rfl
set_option maxHeartbeats 4000000 in
set_option maxRecDepth 100000 in
theorem x_votes_bad {x : Int32} (hb : x.toInt < 0 ∨ 200 < x.toInt) : zq_P l mX11_votes 1 [.ref 0, .int x] (XH tx (nI Z) (nI P, nI C, nI R, nI L, hs, ss, cs, gs, vs) dr rd (nI D, sm, nI N, nI K, ce, de, ke, se) i0 i1 kp dd tr m) (some (.int (-1))) (XH tx (nI Z) (nI P, nI C, nI R, nI L, hs, ss, cs, gs, vs) dr rd (nI D, sm, nI N, nI K, ce, de, ke, se) i0 i1 kp dd tr m) := by
  refine zq_start (by decide +kernel) rfl (Nat.le_of_ble_eq_true rfl) ?_
  show zq_G _ _ _ _ _ 0 ([(0, .ref 0), (1, .int x)], [], XH tx (nI Z) (nI P, nI C, nI R, nI L, hs, ss, cs, gs, vs) dr rd (nI D, sm, nI N, nI K, ce, de, ke, se) i0 i1 kp dd tr m)
  refine zq_b [zq_il 1, zq_k 200] [zq_ilchk 1, zq_kchk 200] 4 rfl (by decide +kernel) ?_
  show zq_G _ _ _ _ _ 4 ([(0, .ref 0), (1, .int x)], [.int 200, .int x], XH tx (nI Z) (nI P, nI C, nI R, nI L, hs, ss, cs, gs, vs) dr rd (nI D, sm, nI N, nI K, ce, de, ke, se) i0 i1 kp dd tr m)
  refine zq_callS (av := [.int x, .int 200]) (rest := []) (by decide +kernel) k11_87 (x_isBeyond (x := x) (q := 200) (by omega)) rfl rfl ?_
  show zq_G _ _ _ _ _ 7 ([(0, .ref 0), (1, .int x)], [.int (zb (x.toInt < 0 ∨ (200 : Int) < x.toInt))], XH tx (nI Z) (nI P, nI C, nI R, nI L, hs, ss, cs, gs, vs) dr rd (nI D, sm, nI N, nI K, ce, de, ke, se) i0 i1 kp dd tr m)
  refine zq_ifz .eq 12 (¬ (x.toInt < 0 ∨ (200 : Int) < x.toInt)) (by decide +kernel) (zb_eq _) (fun c7 => ?_) (fun c7 => ?_)
  · show zq_G _ _ _ _ _ 12 ([(0, .ref 0), (1, .int x)], [], XH tx (nI Z) (nI P, nI C, nI R, nI L, hs, ss, cs, gs, vs) dr rd (nI D, sm, nI N, nI K, ce, de, ke, se) i0 i1 kp dd tr m)
    exact absurd hb (by omega)
  · show zq_G _ _ _ _ _ 10 ([(0, .ref 0), (1, .int x)], [], XH tx (nI Z) (nI P, nI C, nI R, nI L, hs, ss, cs, gs, vs) dr rd (nI D, sm, nI N, nI K, ce, de, ke, se) i0 i1 kp dd tr m)
    refine zq_b [zq_k (-1)] [zq_kchk (-1)] 11 rfl (by decide +kernel) ?_
    show zq_G _ _ _ _ _ 11 ([(0, .ref 0), (1, .int x)], [.int (-1)], XH tx (nI Z) (nI P, nI C, nI R, nI L, hs, ss, cs, gs, vs) dr rd (nI D, sm, nI N, nI K, ce, de, ke, se) i0 i1 kp dd tr m)
    exact zq_iret (by decide +kernel) rfl rfl rfl
set_option maxHeartbeats 4000000 in
set_option maxRecDepth 100000 in
theorem x_votes {b : Nat} (hb2 : b ≤ 200) (hL : L ≤ 30) (hD : D ≤ 99) : zq_P l mX11_votes 1 [.ref 0, .int (nI b)] (XH tx (nI Z) (nI P, nI C, nI R, nI L, hs, ss, cs, gs, vs) dr rd (nI D, sm, nI N, nI K, ce, de, ke, se) i0 i1 kp dd tr m) (some (.int (zkept ke D ((b : Int) - (L : Int))))) (XH tx (nI Z) (nI P, nI C, nI R, nI L, hs, ss, cs, gs, vs) dr rd (nI D, sm, nI N, nI K, ce, de, ke, se) i0 i1 kp dd tr m) := by
  refine zq_start (by decide +kernel) rfl (Nat.le_of_ble_eq_true rfl) ?_
  show zq_G _ _ _ _ _ 0 ([(0, .ref 0), (1, .int (nI b))], [], XH tx (nI Z) (nI P, nI C, nI R, nI L, hs, ss, cs, gs, vs) dr rd (nI D, sm, nI N, nI K, ce, de, ke, se) i0 i1 kp dd tr m)
  refine zq_b [zq_il 1, zq_k 200] [zq_ilchk 1, zq_kchk 200] 4 rfl (by decide +kernel) ?_
  show zq_G _ _ _ _ _ 4 ([(0, .ref 0), (1, .int (nI b))], [.int 200, .int (nI b)], XH tx (nI Z) (nI P, nI C, nI R, nI L, hs, ss, cs, gs, vs) dr rd (nI D, sm, nI N, nI K, ce, de, ke, se) i0 i1 kp dd tr m)
  refine zq_callS (av := [.int (nI b), .int 200]) (rest := []) (by decide +kernel) k11_87 (x_isBeyondN (p := b) (q := 200) (by omega) (by omega)) rfl rfl ?_
  show zq_G _ _ _ _ _ 7 ([(0, .ref 0), (1, .int (nI b))], [.int (zb (200 < b))], XH tx (nI Z) (nI P, nI C, nI R, nI L, hs, ss, cs, gs, vs) dr rd (nI D, sm, nI N, nI K, ce, de, ke, se) i0 i1 kp dd tr m)
  refine zq_ifz .eq 12 (¬ (200 < b)) (by decide +kernel) (zb_eq _) (fun c7 => ?_) (fun c7 => absurd (by omega) c7)
  show zq_G _ _ _ _ _ 12 ([(0, .ref 0), (1, .int (nI b))], [], XH tx (nI Z) (nI P, nI C, nI R, nI L, hs, ss, cs, gs, vs) dr rd (nI D, sm, nI N, nI K, ce, de, ke, se) i0 i1 kp dd tr m)
  refine zq_b [zq_al 0, zq_get 11 5, zq_il 1, zq_al 0, zq_get 11 2, zq_get 9 3, zq_isub (zi ((b : Int) - (L : Int)))] [zq_alchk 0, zq_getchk 11 5, zq_ilchk 1, zq_alchk 0, zq_getchk 11 2, zq_getchk 9 3, zq_is .isub 1] 25 rfl (by decide +kernel) ?_
  refine ⟨(zi_sub b L), ?_⟩
  show zq_G _ _ _ _ _ 25 ([(0, .ref 0), (1, .int (nI b))], [.int (zi ((b : Int) - (L : Int))), .ref 15], XH tx (nI Z) (nI P, nI C, nI R, nI L, hs, ss, cs, gs, vs) dr rd (nI D, sm, nI N, nI K, ce, de, ke, se) i0 i1 kp dd tr m)
  refine zq_callV (av := [.int (zi ((b : Int) - (L : Int)))]) (rest := []) (by decide +kernel) k11_181 (c_keptOn (z := ((b : Int) - (L : Int))) (by omega) (by omega) hD) rfl rfl rfl rfl ?_
  show zq_G _ _ _ _ _ 28 ([(0, .ref 0), (1, .int (nI b))], [.int (zkept ke D ((b : Int) - (L : Int)))], XH tx (nI Z) (nI P, nI C, nI R, nI L, hs, ss, cs, gs, vs) dr rd (nI D, sm, nI N, nI K, ce, de, ke, se) i0 i1 kp dd tr m)
  exact zq_iret (by decide +kernel) rfl rfl rfl
set_option maxHeartbeats 4000000 in
set_option maxRecDepth 100000 in
theorem x_nearer_bad {x : Int32} {y : Int32} (hb : ¬ (1 ≤ x.toInt ∧ x.toInt ≤ 30 ∧ 0 ≤ y.toInt ∧ y.toInt ≤ 200)) : zq_P l mX11_nearer 1 [.ref 0, .int x, .int y] (XH tx (nI Z) (nI P, nI C, nI R, nI L, hs, ss, cs, gs, vs) dr rd (nI D, sm, nI N, nI K, ce, de, ke, se) i0 i1 kp dd tr m) (some (.int (-1))) (XH tx (nI Z) (nI P, nI C, nI R, nI L, hs, ss, cs, gs, vs) dr rd (nI D, sm, nI N, nI K, ce, de, ke, se) i0 i1 kp dd tr m) := by
  refine zq_start (by decide +kernel) rfl (Nat.le_of_ble_eq_true rfl) ?_
  show zq_G _ _ _ _ _ 0 ([(0, .ref 0), (1, .int x), (2, .int y)], [], XH tx (nI Z) (nI P, nI C, nI R, nI L, hs, ss, cs, gs, vs) dr rd (nI D, sm, nI N, nI K, ce, de, ke, se) i0 i1 kp dd tr m)
  refine zq_b [zq_il 1, zq_k 1] [zq_ilchk 1, zq_kchk 1] 2 rfl (by decide +kernel) ?_
  show zq_G _ _ _ _ _ 2 ([(0, .ref 0), (1, .int x), (2, .int y)], [.int 1, .int x], XH tx (nI Z) (nI P, nI C, nI R, nI L, hs, ss, cs, gs, vs) dr rd (nI D, sm, nI N, nI K, ce, de, ke, se) i0 i1 kp dd tr m)
  refine zq_if .lt 21 (x.toInt < (1 : Int)) (by decide +kernel) (zq_tn .lt x (n := 1) (by omega)) (fun c2 => ?_) (fun c2 => ?_)
  · show zq_G _ _ _ _ _ 21 ([(0, .ref 0), (1, .int x), (2, .int y)], [], XH tx (nI Z) (nI P, nI C, nI R, nI L, hs, ss, cs, gs, vs) dr rd (nI D, sm, nI N, nI K, ce, de, ke, se) i0 i1 kp dd tr m)
    refine zq_b [zq_k (-1)] [zq_kchk (-1)] 22 rfl (by decide +kernel) ?_
    show zq_G _ _ _ _ _ 22 ([(0, .ref 0), (1, .int x), (2, .int y)], [.int (-1)], XH tx (nI Z) (nI P, nI C, nI R, nI L, hs, ss, cs, gs, vs) dr rd (nI D, sm, nI N, nI K, ce, de, ke, se) i0 i1 kp dd tr m)
    exact zq_iret (by decide +kernel) rfl rfl rfl
  · show zq_G _ _ _ _ _ 5 ([(0, .ref 0), (1, .int x), (2, .int y)], [], XH tx (nI Z) (nI P, nI C, nI R, nI L, hs, ss, cs, gs, vs) dr rd (nI D, sm, nI N, nI K, ce, de, ke, se) i0 i1 kp dd tr m)
    refine zq_b [zq_il 1, zq_k 30] [zq_ilchk 1, zq_kchk 30] 8 rfl (by decide +kernel) ?_
    show zq_G _ _ _ _ _ 8 ([(0, .ref 0), (1, .int x), (2, .int y)], [.int 30, .int x], XH tx (nI Z) (nI P, nI C, nI R, nI L, hs, ss, cs, gs, vs) dr rd (nI D, sm, nI N, nI K, ce, de, ke, se) i0 i1 kp dd tr m)
    refine zq_if .gt 21 ((30 : Int) < x.toInt) (by decide +kernel) (zq_tn .gt x (n := 30) (by omega)) (fun c8 => ?_) (fun c8 => ?_)
    · show zq_G _ _ _ _ _ 21 ([(0, .ref 0), (1, .int x), (2, .int y)], [], XH tx (nI Z) (nI P, nI C, nI R, nI L, hs, ss, cs, gs, vs) dr rd (nI D, sm, nI N, nI K, ce, de, ke, se) i0 i1 kp dd tr m)
      refine zq_b [zq_k (-1)] [zq_kchk (-1)] 22 rfl (by decide +kernel) ?_
      show zq_G _ _ _ _ _ 22 ([(0, .ref 0), (1, .int x), (2, .int y)], [.int (-1)], XH tx (nI Z) (nI P, nI C, nI R, nI L, hs, ss, cs, gs, vs) dr rd (nI D, sm, nI N, nI K, ce, de, ke, se) i0 i1 kp dd tr m)
      exact zq_iret (by decide +kernel) rfl rfl rfl
    · show zq_G _ _ _ _ _ 11 ([(0, .ref 0), (1, .int x), (2, .int y)], [], XH tx (nI Z) (nI P, nI C, nI R, nI L, hs, ss, cs, gs, vs) dr rd (nI D, sm, nI N, nI K, ce, de, ke, se) i0 i1 kp dd tr m)
      refine zq_b [zq_il 2, zq_k 200] [zq_ilchk 2, zq_kchk 200] 15 rfl (by decide +kernel) ?_
      show zq_G _ _ _ _ _ 15 ([(0, .ref 0), (1, .int x), (2, .int y)], [.int 200, .int y], XH tx (nI Z) (nI P, nI C, nI R, nI L, hs, ss, cs, gs, vs) dr rd (nI D, sm, nI N, nI K, ce, de, ke, se) i0 i1 kp dd tr m)
      refine zq_callS (av := [.int y, .int 200]) (rest := []) (by decide +kernel) k11_87 (x_isBeyond (x := y) (q := 200) (by omega)) rfl rfl ?_
      show zq_G _ _ _ _ _ 18 ([(0, .ref 0), (1, .int x), (2, .int y)], [.int (zb (y.toInt < 0 ∨ (200 : Int) < y.toInt))], XH tx (nI Z) (nI P, nI C, nI R, nI L, hs, ss, cs, gs, vs) dr rd (nI D, sm, nI N, nI K, ce, de, ke, se) i0 i1 kp dd tr m)
      refine zq_ifz .eq 23 (¬ (y.toInt < 0 ∨ (200 : Int) < y.toInt)) (by decide +kernel) (zb_eq _) (fun c18 => ?_) (fun c18 => ?_)
      · show zq_G _ _ _ _ _ 23 ([(0, .ref 0), (1, .int x), (2, .int y)], [], XH tx (nI Z) (nI P, nI C, nI R, nI L, hs, ss, cs, gs, vs) dr rd (nI D, sm, nI N, nI K, ce, de, ke, se) i0 i1 kp dd tr m)
        exact absurd hb (by omega)
      · show zq_G _ _ _ _ _ 21 ([(0, .ref 0), (1, .int x), (2, .int y)], [], XH tx (nI Z) (nI P, nI C, nI R, nI L, hs, ss, cs, gs, vs) dr rd (nI D, sm, nI N, nI K, ce, de, ke, se) i0 i1 kp dd tr m)
        refine zq_b [zq_k (-1)] [zq_kchk (-1)] 22 rfl (by decide +kernel) ?_
        show zq_G _ _ _ _ _ 22 ([(0, .ref 0), (1, .int x), (2, .int y)], [.int (-1)], XH tx (nI Z) (nI P, nI C, nI R, nI L, hs, ss, cs, gs, vs) dr rd (nI D, sm, nI N, nI K, ce, de, ke, se) i0 i1 kp dd tr m)
        exact zq_iret (by decide +kernel) rfl rfl rfl
set_option maxHeartbeats 4000000 in
set_option maxRecDepth 100000 in
theorem x_nearer {q : Nat} {b : Nat} (hq1 : 1 ≤ q) (hq2 : q ≤ 30) (hb2 : b ≤ 200) (hN : N ≤ 12) (hR : R ≤ 6) : zq_P l mX11_nearer 4 [.ref 0, .int (nI q), .int (nI b)] (XH tx (nI Z) (nI P, nI C, nI R, nI L, hs, ss, cs, gs, vs) dr rd (nI D, sm, nI N, nI K, ce, de, ke, se) i0 i1 kp dd tr m) (some (.int (orB (fun a => decide (¬ zwho (fun r => zac r vs gs R) (fun a => zown de N (nI a) (nI b) (nI q)) ((1 : Int32) <<< (nI a &&& 31)) = zwho (fun r => zac r vs gs R) (fun a => zown de N (nI a) (nI b) (nI L)) ((1 : Int32) <<< (nI a &&& 31)))) 8))) (XH tx (nI Z) (nI P, nI C, nI R, nI L, hs, ss, cs, gs, vs) dr rd (nI D, sm, nI N, nI K, ce, de, ke, se) i0 i1 kp dd tr m) := by
  refine zq_start (by decide +kernel) rfl (Nat.le_of_ble_eq_true rfl) ?_
  show zq_G _ _ _ _ _ 0 ([(0, .ref 0), (1, .int (nI q)), (2, .int (nI b))], [], XH tx (nI Z) (nI P, nI C, nI R, nI L, hs, ss, cs, gs, vs) dr rd (nI D, sm, nI N, nI K, ce, de, ke, se) i0 i1 kp dd tr m)
  refine zq_b [zq_il 1, zq_k 1] [zq_ilchk 1, zq_kchk 1] 2 rfl (by decide +kernel) ?_
  show zq_G _ _ _ _ _ 2 ([(0, .ref 0), (1, .int (nI q)), (2, .int (nI b))], [.int 1, .int (nI q)], XH tx (nI Z) (nI P, nI C, nI R, nI L, hs, ss, cs, gs, vs) dr rd (nI D, sm, nI N, nI K, ce, de, ke, se) i0 i1 kp dd tr m)
  refine zq_if .lt 21 (q < 1) (by decide +kernel) (zq_clt (a := q) (b := 1) (by omega) (by omega)) (fun c2 => absurd c2 (by omega)) (fun c2 => ?_)
  show zq_G _ _ _ _ _ 5 ([(0, .ref 0), (1, .int (nI q)), (2, .int (nI b))], [], XH tx (nI Z) (nI P, nI C, nI R, nI L, hs, ss, cs, gs, vs) dr rd (nI D, sm, nI N, nI K, ce, de, ke, se) i0 i1 kp dd tr m)
  refine zq_b [zq_il 1, zq_k 30] [zq_ilchk 1, zq_kchk 30] 8 rfl (by decide +kernel) ?_
  show zq_G _ _ _ _ _ 8 ([(0, .ref 0), (1, .int (nI q)), (2, .int (nI b))], [.int 30, .int (nI q)], XH tx (nI Z) (nI P, nI C, nI R, nI L, hs, ss, cs, gs, vs) dr rd (nI D, sm, nI N, nI K, ce, de, ke, se) i0 i1 kp dd tr m)
  refine zq_if .gt 21 (30 < q) (by decide +kernel) (zq_cgt (a := q) (b := 30) (by omega) (by omega)) (fun c8 => absurd c8 (by omega)) (fun c8 => ?_)
  show zq_G _ _ _ _ _ 11 ([(0, .ref 0), (1, .int (nI q)), (2, .int (nI b))], [], XH tx (nI Z) (nI P, nI C, nI R, nI L, hs, ss, cs, gs, vs) dr rd (nI D, sm, nI N, nI K, ce, de, ke, se) i0 i1 kp dd tr m)
  refine zq_b [zq_il 2, zq_k 200] [zq_ilchk 2, zq_kchk 200] 15 rfl (by decide +kernel) ?_
  show zq_G _ _ _ _ _ 15 ([(0, .ref 0), (1, .int (nI q)), (2, .int (nI b))], [.int 200, .int (nI b)], XH tx (nI Z) (nI P, nI C, nI R, nI L, hs, ss, cs, gs, vs) dr rd (nI D, sm, nI N, nI K, ce, de, ke, se) i0 i1 kp dd tr m)
  refine zq_callS (av := [.int (nI b), .int 200]) (rest := []) (by decide +kernel) k11_87 (x_isBeyondN (p := b) (q := 200) (by omega) (by omega)) rfl rfl ?_
  show zq_G _ _ _ _ _ 18 ([(0, .ref 0), (1, .int (nI q)), (2, .int (nI b))], [.int (zb (200 < b))], XH tx (nI Z) (nI P, nI C, nI R, nI L, hs, ss, cs, gs, vs) dr rd (nI D, sm, nI N, nI K, ce, de, ke, se) i0 i1 kp dd tr m)
  refine zq_ifz .eq 23 (¬ (200 < b)) (by decide +kernel) (zb_eq _) (fun c18 => ?_) (fun c18 => absurd (by omega) c18)
  show zq_G _ _ _ _ _ 23 ([(0, .ref 0), (1, .int (nI q)), (2, .int (nI b))], [], XH tx (nI Z) (nI P, nI C, nI R, nI L, hs, ss, cs, gs, vs) dr rd (nI D, sm, nI N, nI K, ce, de, ke, se) i0 i1 kp dd tr m)
  refine zq_b [zq_k 0, zq_is1 3, zq_k 0, zq_is1 4] [zq_kchk 0, zq_is1chk 3, zq_kchk 0, zq_is1chk 4] 28 rfl (by decide +kernel) ?_
  show zq_G _ _ _ _ _ 28 ([(0, .ref 0), (1, .int (nI q)), (2, .int (nI b)), (3, .int 0), (4, .int 0)], [], XH tx (nI Z) (nI P, nI C, nI R, nI L, hs, ss, cs, gs, vs) dr rd (nI D, sm, nI N, nI K, ce, de, ke, se) i0 i1 kp dd tr m)
  refine zq_loop (fun i => ([(0, .ref 0), (1, .int (nI q)), (2, .int (nI b)), (3, .int (orB (fun a => decide (¬ zwho (fun r => zac r vs gs R) (fun a => zown de N (nI a) (nI b) (nI q)) ((1 : Int32) <<< (nI a &&& 31)) = zwho (fun r => zac r vs gs R) (fun a => zown de N (nI a) (nI b) (nI L)) ((1 : Int32) <<< (nI a &&& 31)))) i)), (4, .int (nI i))], [], XH tx (nI Z) (nI P, nI C, nI R, nI L, hs, ss, cs, gs, vs) dr rd (nI D, sm, nI N, nI K, ce, de, ke, se) i0 i1 kp dd tr m)) (fun i => True) (8) (0) (by omega) (trivial) (fun i hl28 hi28 hI28 ih28 => ?_) (fun hI28 => ?_)
  · show zq_G _ _ _ _ _ 28 ([(0, .ref 0), (1, .int (nI q)), (2, .int (nI b)), (3, .int (orB (fun a => decide (¬ zwho (fun r => zac r vs gs R) (fun a => zown de N (nI a) (nI b) (nI q)) ((1 : Int32) <<< (nI a &&& 31)) = zwho (fun r => zac r vs gs R) (fun a => zown de N (nI a) (nI b) (nI L)) ((1 : Int32) <<< (nI a &&& 31)))) i)), (4, .int (nI i))], [], XH tx (nI Z) (nI P, nI C, nI R, nI L, hs, ss, cs, gs, vs) dr rd (nI D, sm, nI N, nI K, ce, de, ke, se) i0 i1 kp dd tr m)
    refine zq_b [zq_il 4, zq_k 8] [zq_ilchk 4, zq_kchk 8] 32 rfl (by decide +kernel) ?_
    show zq_G _ _ _ _ _ 32 ([(0, .ref 0), (1, .int (nI q)), (2, .int (nI b)), (3, .int (orB (fun a => decide (¬ zwho (fun r => zac r vs gs R) (fun a => zown de N (nI a) (nI b) (nI q)) ((1 : Int32) <<< (nI a &&& 31)) = zwho (fun r => zac r vs gs R) (fun a => zown de N (nI a) (nI b) (nI L)) ((1 : Int32) <<< (nI a &&& 31)))) i)), (4, .int (nI i))], [.int 8, .int (nI i)], XH tx (nI Z) (nI P, nI C, nI R, nI L, hs, ss, cs, gs, vs) dr rd (nI D, sm, nI N, nI K, ce, de, ke, se) i0 i1 kp dd tr m)
    refine zq_if .ge 79 (8 ≤ i) (by decide +kernel) (zq_cge (a := i) (b := 8) (by omega) (by omega)) (fun c32 => absurd c32 (by omega)) (fun c32 => ?_)
    show zq_G _ _ _ _ _ 35 ([(0, .ref 0), (1, .int (nI q)), (2, .int (nI b)), (3, .int (orB (fun a => decide (¬ zwho (fun r => zac r vs gs R) (fun a => zown de N (nI a) (nI b) (nI q)) ((1 : Int32) <<< (nI a &&& 31)) = zwho (fun r => zac r vs gs R) (fun a => zown de N (nI a) (nI b) (nI L)) ((1 : Int32) <<< (nI a &&& 31)))) i)), (4, .int (nI i))], [], XH tx (nI Z) (nI P, nI C, nI R, nI L, hs, ss, cs, gs, vs) dr rd (nI D, sm, nI N, nI K, ce, de, ke, se) i0 i1 kp dd tr m)
    refine zq_b [zq_al 0, zq_get 11 8, zq_il 4, zq_il 2, zq_il 1] [zq_alchk 0, zq_getchk 11 8, zq_ilchk 4, zq_ilchk 2, zq_ilchk 1] 43 rfl (by decide +kernel) ?_
    show zq_G _ _ _ _ _ 43 ([(0, .ref 0), (1, .int (nI q)), (2, .int (nI b)), (3, .int (orB (fun a => decide (¬ zwho (fun r => zac r vs gs R) (fun a => zown de N (nI a) (nI b) (nI q)) ((1 : Int32) <<< (nI a &&& 31)) = zwho (fun r => zac r vs gs R) (fun a => zown de N (nI a) (nI b) (nI L)) ((1 : Int32) <<< (nI a &&& 31)))) i)), (4, .int (nI i))], [.int (nI q), .int (nI b), .int (nI i), .ref 32], XH tx (nI Z) (nI P, nI C, nI R, nI L, hs, ss, cs, gs, vs) dr rd (nI D, sm, nI N, nI K, ce, de, ke, se) i0 i1 kp dd tr m)
    refine zq_callV (av := [.int (nI i), .int (nI b), .int (nI q)]) (rest := []) (by decide +kernel) k11_174 (c_whoHolds (x := (nI i)) (y := (nI b)) (z := (nI q)) hN hR) rfl rfl rfl rfl ?_
    show zq_G _ _ _ _ _ 46 ([(0, .ref 0), (1, .int (nI q)), (2, .int (nI b)), (3, .int (orB (fun a => decide (¬ zwho (fun r => zac r vs gs R) (fun a => zown de N (nI a) (nI b) (nI q)) ((1 : Int32) <<< (nI a &&& 31)) = zwho (fun r => zac r vs gs R) (fun a => zown de N (nI a) (nI b) (nI L)) ((1 : Int32) <<< (nI a &&& 31)))) i)), (4, .int (nI i))], [.int (zwho (fun r => zac r vs gs R) (fun a => zown de N (nI a) (nI b) (nI q)) ((1 : Int32) <<< (nI i &&& 31)))], XH tx (nI Z) (nI P, nI C, nI R, nI L, hs, ss, cs, gs, vs) dr rd (nI D, sm, nI N, nI K, ce, de, ke, se) i0 i1 kp dd tr m)
    refine zq_b [zq_al 0, zq_get 11 8, zq_il 4, zq_il 2, zq_al 0, zq_get 11 2, zq_get 9 3] [zq_alchk 0, zq_getchk 11 8, zq_ilchk 4, zq_ilchk 2, zq_alchk 0, zq_getchk 11 2, zq_getchk 9 3] 60 rfl (by decide +kernel) ?_
    show zq_G _ _ _ _ _ 60 ([(0, .ref 0), (1, .int (nI q)), (2, .int (nI b)), (3, .int (orB (fun a => decide (¬ zwho (fun r => zac r vs gs R) (fun a => zown de N (nI a) (nI b) (nI q)) ((1 : Int32) <<< (nI a &&& 31)) = zwho (fun r => zac r vs gs R) (fun a => zown de N (nI a) (nI b) (nI L)) ((1 : Int32) <<< (nI a &&& 31)))) i)), (4, .int (nI i))], [.int (nI L), .int (nI b), .int (nI i), .ref 32, .int (zwho (fun r => zac r vs gs R) (fun a => zown de N (nI a) (nI b) (nI q)) ((1 : Int32) <<< (nI i &&& 31)))], XH tx (nI Z) (nI P, nI C, nI R, nI L, hs, ss, cs, gs, vs) dr rd (nI D, sm, nI N, nI K, ce, de, ke, se) i0 i1 kp dd tr m)
    refine zq_callV (av := [.int (nI i), .int (nI b), .int (nI L)]) (rest := [.int (zwho (fun r => zac r vs gs R) (fun a => zown de N (nI a) (nI b) (nI q)) ((1 : Int32) <<< (nI i &&& 31)))]) (by decide +kernel) k11_174 (c_whoHolds (x := (nI i)) (y := (nI b)) (z := (nI L)) hN hR) rfl rfl rfl rfl ?_
    show zq_G _ _ _ _ _ 63 ([(0, .ref 0), (1, .int (nI q)), (2, .int (nI b)), (3, .int (orB (fun a => decide (¬ zwho (fun r => zac r vs gs R) (fun a => zown de N (nI a) (nI b) (nI q)) ((1 : Int32) <<< (nI a &&& 31)) = zwho (fun r => zac r vs gs R) (fun a => zown de N (nI a) (nI b) (nI L)) ((1 : Int32) <<< (nI a &&& 31)))) i)), (4, .int (nI i))], [.int (zwho (fun r => zac r vs gs R) (fun a => zown de N (nI a) (nI b) (nI L)) ((1 : Int32) <<< (nI i &&& 31))), .int (zwho (fun r => zac r vs gs R) (fun a => zown de N (nI a) (nI b) (nI q)) ((1 : Int32) <<< (nI i &&& 31)))], XH tx (nI Z) (nI P, nI C, nI R, nI L, hs, ss, cs, gs, vs) dr rd (nI D, sm, nI N, nI K, ce, de, ke, se) i0 i1 kp dd tr m)
    refine zq_if .eq 73 ((zwho (fun r => zac r vs gs R) (fun a => zown de N (nI a) (nI b) (nI q)) ((1 : Int32) <<< (nI i &&& 31))) = (zwho (fun r => zac r vs gs R) (fun a => zown de N (nI a) (nI b) (nI L)) ((1 : Int32) <<< (nI i &&& 31)))) (by decide +kernel) (Iff.rfl) (fun c63 => ?_) (fun c63 => ?_)
    · show zq_G _ _ _ _ _ 73 ([(0, .ref 0), (1, .int (nI q)), (2, .int (nI b)), (3, .int (orB (fun a => decide (¬ zwho (fun r => zac r vs gs R) (fun a => zown de N (nI a) (nI b) (nI q)) ((1 : Int32) <<< (nI a &&& 31)) = zwho (fun r => zac r vs gs R) (fun a => zown de N (nI a) (nI b) (nI L)) ((1 : Int32) <<< (nI a &&& 31)))) i)), (4, .int (nI i))], [], XH tx (nI Z) (nI P, nI C, nI R, nI L, hs, ss, cs, gs, vs) dr rd (nI D, sm, nI N, nI K, ce, de, ke, se) i0 i1 kp dd tr m)
      refine zq_b [zq_inc 4 1 (nI (i + 1)), zq_go] [zq_incchk 4 1, zq_gochk] 28 rfl (by decide +kernel) ?_
      refine ⟨nI_add i 1, ?_⟩
      show zq_G _ _ _ _ _ 28 ([(0, .ref 0), (1, .int (nI q)), (2, .int (nI b)), (3, .int (orB (fun a => decide (¬ zwho (fun r => zac r vs gs R) (fun a => zown de N (nI a) (nI b) (nI q)) ((1 : Int32) <<< (nI a &&& 31)) = zwho (fun r => zac r vs gs R) (fun a => zown de N (nI a) (nI b) (nI L)) ((1 : Int32) <<< (nI a &&& 31)))) i)), (4, .int (nI (i + 1)))], [], XH tx (nI Z) (nI P, nI C, nI R, nI L, hs, ss, cs, gs, vs) dr rd (nI D, sm, nI N, nI K, ce, de, ke, se) i0 i1 kp dd tr m)
      exact zq_eq (by rw [orB_f (f := (fun a => decide (¬ zwho (fun r => zac r vs gs R) (fun a => zown de N (nI a) (nI b) (nI q)) ((1 : Int32) <<< (nI a &&& 31)) = zwho (fun r => zac r vs gs R) (fun a => zown de N (nI a) (nI b) (nI L)) ((1 : Int32) <<< (nI a &&& 31))))) (decide_eq_false (fun q => q c63))]) (ih28 trivial)
    · show zq_G _ _ _ _ _ 66 ([(0, .ref 0), (1, .int (nI q)), (2, .int (nI b)), (3, .int (orB (fun a => decide (¬ zwho (fun r => zac r vs gs R) (fun a => zown de N (nI a) (nI b) (nI q)) ((1 : Int32) <<< (nI a &&& 31)) = zwho (fun r => zac r vs gs R) (fun a => zown de N (nI a) (nI b) (nI L)) ((1 : Int32) <<< (nI a &&& 31)))) i)), (4, .int (nI i))], [], XH tx (nI Z) (nI P, nI C, nI R, nI L, hs, ss, cs, gs, vs) dr rd (nI D, sm, nI N, nI K, ce, de, ke, se) i0 i1 kp dd tr m)
      refine zq_b [zq_il 3, zq_k 1, zq_il 4, zq_ishl (1 <<< (nI i &&& 31)), zq_ior ((orB (fun a => decide (¬ zwho (fun r => zac r vs gs R) (fun a => zown de N (nI a) (nI b) (nI q)) ((1 : Int32) <<< (nI a &&& 31)) = zwho (fun r => zac r vs gs R) (fun a => zown de N (nI a) (nI b) (nI L)) ((1 : Int32) <<< (nI a &&& 31)))) i) ||| (1 <<< (nI i &&& 31))), zq_is1 3, zq_inc 4 1 (nI (i + 1)), zq_go] [zq_ilchk 3, zq_kchk 1, zq_ilchk 4, zq_is .ishl 1, zq_is .ior 1, zq_is1chk 3, zq_incchk 4 1, zq_gochk] 28 rfl (by decide +kernel) ?_
      refine ⟨rfl, rfl, nI_add i 1, ?_⟩
      show zq_G _ _ _ _ _ 28 ([(0, .ref 0), (1, .int (nI q)), (2, .int (nI b)), (3, .int ((orB (fun a => decide (¬ zwho (fun r => zac r vs gs R) (fun a => zown de N (nI a) (nI b) (nI q)) ((1 : Int32) <<< (nI a &&& 31)) = zwho (fun r => zac r vs gs R) (fun a => zown de N (nI a) (nI b) (nI L)) ((1 : Int32) <<< (nI a &&& 31)))) i) ||| (1 <<< (nI i &&& 31)))), (4, .int (nI (i + 1)))], [], XH tx (nI Z) (nI P, nI C, nI R, nI L, hs, ss, cs, gs, vs) dr rd (nI D, sm, nI N, nI K, ce, de, ke, se) i0 i1 kp dd tr m)
      exact zq_eq (by rw [orB_t (f := (fun a => decide (¬ zwho (fun r => zac r vs gs R) (fun a => zown de N (nI a) (nI b) (nI q)) ((1 : Int32) <<< (nI a &&& 31)) = zwho (fun r => zac r vs gs R) (fun a => zown de N (nI a) (nI b) (nI L)) ((1 : Int32) <<< (nI a &&& 31))))) (decide_eq_true c63)]) (ih28 trivial)
  · show zq_G _ _ _ _ _ 28 ([(0, .ref 0), (1, .int (nI q)), (2, .int (nI b)), (3, .int (orB (fun a => decide (¬ zwho (fun r => zac r vs gs R) (fun a => zown de N (nI a) (nI b) (nI q)) ((1 : Int32) <<< (nI a &&& 31)) = zwho (fun r => zac r vs gs R) (fun a => zown de N (nI a) (nI b) (nI L)) ((1 : Int32) <<< (nI a &&& 31)))) 8)), (4, .int 8)], [], XH tx (nI Z) (nI P, nI C, nI R, nI L, hs, ss, cs, gs, vs) dr rd (nI D, sm, nI N, nI K, ce, de, ke, se) i0 i1 kp dd tr m)
    refine zq_b [zq_il 4, zq_k 8] [zq_ilchk 4, zq_kchk 8] 32 rfl (by decide +kernel) ?_
    show zq_G _ _ _ _ _ 32 ([(0, .ref 0), (1, .int (nI q)), (2, .int (nI b)), (3, .int (orB (fun a => decide (¬ zwho (fun r => zac r vs gs R) (fun a => zown de N (nI a) (nI b) (nI q)) ((1 : Int32) <<< (nI a &&& 31)) = zwho (fun r => zac r vs gs R) (fun a => zown de N (nI a) (nI b) (nI L)) ((1 : Int32) <<< (nI a &&& 31)))) 8)), (4, .int 8)], [.int 8, .int 8], XH tx (nI Z) (nI P, nI C, nI R, nI L, hs, ss, cs, gs, vs) dr rd (nI D, sm, nI N, nI K, ce, de, ke, se) i0 i1 kp dd tr m)
    refine zq_if .ge 79 (8 ≤ 8) (by decide +kernel) (zq_cge (a := 8) (b := 8) (by omega) (by omega)) (fun c32 => ?_) (fun c32 => absurd (by omega) c32)
    show zq_G _ _ _ _ _ 79 ([(0, .ref 0), (1, .int (nI q)), (2, .int (nI b)), (3, .int (orB (fun a => decide (¬ zwho (fun r => zac r vs gs R) (fun a => zown de N (nI a) (nI b) (nI q)) ((1 : Int32) <<< (nI a &&& 31)) = zwho (fun r => zac r vs gs R) (fun a => zown de N (nI a) (nI b) (nI L)) ((1 : Int32) <<< (nI a &&& 31)))) 8)), (4, .int 8)], [], XH tx (nI Z) (nI P, nI C, nI R, nI L, hs, ss, cs, gs, vs) dr rd (nI D, sm, nI N, nI K, ce, de, ke, se) i0 i1 kp dd tr m)
    refine zq_b [zq_il 3] [zq_ilchk 3] 80 rfl (by decide +kernel) ?_
    show zq_G _ _ _ _ _ 80 ([(0, .ref 0), (1, .int (nI q)), (2, .int (nI b)), (3, .int (orB (fun a => decide (¬ zwho (fun r => zac r vs gs R) (fun a => zown de N (nI a) (nI b) (nI q)) ((1 : Int32) <<< (nI a &&& 31)) = zwho (fun r => zac r vs gs R) (fun a => zown de N (nI a) (nI b) (nI L)) ((1 : Int32) <<< (nI a &&& 31)))) 8)), (4, .int 8)], [.int (orB (fun a => decide (¬ zwho (fun r => zac r vs gs R) (fun a => zown de N (nI a) (nI b) (nI q)) ((1 : Int32) <<< (nI a &&& 31)) = zwho (fun r => zac r vs gs R) (fun a => zown de N (nI a) (nI b) (nI L)) ((1 : Int32) <<< (nI a &&& 31)))) 8)], XH tx (nI Z) (nI P, nI C, nI R, nI L, hs, ss, cs, gs, vs) dr rd (nI D, sm, nI N, nI K, ce, de, ke, se) i0 i1 kp dd tr m)
    exact zq_iret (by decide +kernel) rfl rfl rfl
set_option maxHeartbeats 4000000 in
set_option maxRecDepth 100000 in
theorem x_hide_bad {x : Int32} {y : Int32} {u : Int32} (hP : P ≤ 6) (hb : ¬ ((0 ≤ x.toInt ∧ x.toInt < (zp2 P : Int)) ∧ (0 ≤ y.toInt ∧ y.toInt < (zp2 P : Int)) ∧ x &&& y = 0 ∧ 0 ≤ u.toInt ∧ u.toInt ≤ 1)) : zq_P l mX11_hide 1 [.ref 0, .int x, .int y, .int u] (XH tx (nI Z) (nI P, nI C, nI R, nI L, hs, ss, cs, gs, vs) dr rd (nI D, sm, nI N, nI K, ce, de, ke, se) i0 i1 kp dd tr m) (some (.int (-1))) (XH tx (nI Z) (nI P, nI C, nI R, nI L, hs, ss, cs, gs, vs) dr rd (nI D, sm, nI N, nI K, ce, de, ke, se) i0 i1 kp dd tr m) := by
  refine zq_start (by decide +kernel) rfl (Nat.le_of_ble_eq_true rfl) ?_
  show zq_G _ _ _ _ _ 0 ([(0, .ref 0), (1, .int x), (2, .int y), (3, .int u)], [], XH tx (nI Z) (nI P, nI C, nI R, nI L, hs, ss, cs, gs, vs) dr rd (nI D, sm, nI N, nI K, ce, de, ke, se) i0 i1 kp dd tr m)
  refine zq_b [zq_al 0, zq_get 11 2, zq_il 1] [zq_alchk 0, zq_getchk 11 2, zq_ilchk 1] 5 rfl (by decide +kernel) ?_
  show zq_G _ _ _ _ _ 5 ([(0, .ref 0), (1, .int x), (2, .int y), (3, .int u)], [.int x, .ref 2], XH tx (nI Z) (nI P, nI C, nI R, nI L, hs, ss, cs, gs, vs) dr rd (nI D, sm, nI N, nI K, ce, de, ke, se) i0 i1 kp dd tr m)
  refine zq_callV (av := [.int x]) (rest := []) (by decide +kernel) k11_184 (x_areBits (b := x) hP) rfl rfl rfl rfl ?_
  show zq_G _ _ _ _ _ 8 ([(0, .ref 0), (1, .int x), (2, .int y), (3, .int u)], [.int (zb (0 ≤ x.toInt ∧ x.toInt < (zp2 P : Int)))], XH tx (nI Z) (nI P, nI C, nI R, nI L, hs, ss, cs, gs, vs) dr rd (nI D, sm, nI N, nI K, ce, de, ke, se) i0 i1 kp dd tr m)
  refine zq_ifz .eq 36 (¬ (0 ≤ x.toInt ∧ x.toInt < (zp2 P : Int))) (by decide +kernel) (zb_eq _) (fun c8 => ?_) (fun c8 => ?_)
  · show zq_G _ _ _ _ _ 36 ([(0, .ref 0), (1, .int x), (2, .int y), (3, .int u)], [], XH tx (nI Z) (nI P, nI C, nI R, nI L, hs, ss, cs, gs, vs) dr rd (nI D, sm, nI N, nI K, ce, de, ke, se) i0 i1 kp dd tr m)
    refine zq_b [zq_k (-1)] [zq_kchk (-1)] 37 rfl (by decide +kernel) ?_
    show zq_G _ _ _ _ _ 37 ([(0, .ref 0), (1, .int x), (2, .int y), (3, .int u)], [.int (-1)], XH tx (nI Z) (nI P, nI C, nI R, nI L, hs, ss, cs, gs, vs) dr rd (nI D, sm, nI N, nI K, ce, de, ke, se) i0 i1 kp dd tr m)
    exact zq_iret (by decide +kernel) rfl rfl rfl
  · show zq_G _ _ _ _ _ 11 ([(0, .ref 0), (1, .int x), (2, .int y), (3, .int u)], [], XH tx (nI Z) (nI P, nI C, nI R, nI L, hs, ss, cs, gs, vs) dr rd (nI D, sm, nI N, nI K, ce, de, ke, se) i0 i1 kp dd tr m)
    refine zq_b [zq_al 0, zq_get 11 2, zq_il 2] [zq_alchk 0, zq_getchk 11 2, zq_ilchk 2] 16 rfl (by decide +kernel) ?_
    show zq_G _ _ _ _ _ 16 ([(0, .ref 0), (1, .int x), (2, .int y), (3, .int u)], [.int y, .ref 2], XH tx (nI Z) (nI P, nI C, nI R, nI L, hs, ss, cs, gs, vs) dr rd (nI D, sm, nI N, nI K, ce, de, ke, se) i0 i1 kp dd tr m)
    refine zq_callV (av := [.int y]) (rest := []) (by decide +kernel) k11_184 (x_areBits (b := y) hP) rfl rfl rfl rfl ?_
    show zq_G _ _ _ _ _ 19 ([(0, .ref 0), (1, .int x), (2, .int y), (3, .int u)], [.int (zb (0 ≤ y.toInt ∧ y.toInt < (zp2 P : Int)))], XH tx (nI Z) (nI P, nI C, nI R, nI L, hs, ss, cs, gs, vs) dr rd (nI D, sm, nI N, nI K, ce, de, ke, se) i0 i1 kp dd tr m)
    refine zq_ifz .eq 36 (¬ (0 ≤ y.toInt ∧ y.toInt < (zp2 P : Int))) (by decide +kernel) (zb_eq _) (fun c19 => ?_) (fun c19 => ?_)
    · show zq_G _ _ _ _ _ 36 ([(0, .ref 0), (1, .int x), (2, .int y), (3, .int u)], [], XH tx (nI Z) (nI P, nI C, nI R, nI L, hs, ss, cs, gs, vs) dr rd (nI D, sm, nI N, nI K, ce, de, ke, se) i0 i1 kp dd tr m)
      refine zq_b [zq_k (-1)] [zq_kchk (-1)] 37 rfl (by decide +kernel) ?_
      show zq_G _ _ _ _ _ 37 ([(0, .ref 0), (1, .int x), (2, .int y), (3, .int u)], [.int (-1)], XH tx (nI Z) (nI P, nI C, nI R, nI L, hs, ss, cs, gs, vs) dr rd (nI D, sm, nI N, nI K, ce, de, ke, se) i0 i1 kp dd tr m)
      exact zq_iret (by decide +kernel) rfl rfl rfl
    · show zq_G _ _ _ _ _ 22 ([(0, .ref 0), (1, .int x), (2, .int y), (3, .int u)], [], XH tx (nI Z) (nI P, nI C, nI R, nI L, hs, ss, cs, gs, vs) dr rd (nI D, sm, nI N, nI K, ce, de, ke, se) i0 i1 kp dd tr m)
      refine zq_b [zq_il 1, zq_il 2, zq_iand (x &&& y)] [zq_ilchk 1, zq_ilchk 2, zq_is .iand 1] 25 rfl (by decide +kernel) ?_
      refine ⟨rfl, ?_⟩
      show zq_G _ _ _ _ _ 25 ([(0, .ref 0), (1, .int x), (2, .int y), (3, .int u)], [.int (x &&& y)], XH tx (nI Z) (nI P, nI C, nI R, nI L, hs, ss, cs, gs, vs) dr rd (nI D, sm, nI N, nI K, ce, de, ke, se) i0 i1 kp dd tr m)
      refine zq_ifz .ne 36 (¬ (x &&& y) = 0) (by decide +kernel) (Iff.rfl) (fun c25 => ?_) (fun c25 => ?_)
      · show zq_G _ _ _ _ _ 36 ([(0, .ref 0), (1, .int x), (2, .int y), (3, .int u)], [], XH tx (nI Z) (nI P, nI C, nI R, nI L, hs, ss, cs, gs, vs) dr rd (nI D, sm, nI N, nI K, ce, de, ke, se) i0 i1 kp dd tr m)
        refine zq_b [zq_k (-1)] [zq_kchk (-1)] 37 rfl (by decide +kernel) ?_
        show zq_G _ _ _ _ _ 37 ([(0, .ref 0), (1, .int x), (2, .int y), (3, .int u)], [.int (-1)], XH tx (nI Z) (nI P, nI C, nI R, nI L, hs, ss, cs, gs, vs) dr rd (nI D, sm, nI N, nI K, ce, de, ke, se) i0 i1 kp dd tr m)
        exact zq_iret (by decide +kernel) rfl rfl rfl
      · show zq_G _ _ _ _ _ 28 ([(0, .ref 0), (1, .int x), (2, .int y), (3, .int u)], [], XH tx (nI Z) (nI P, nI C, nI R, nI L, hs, ss, cs, gs, vs) dr rd (nI D, sm, nI N, nI K, ce, de, ke, se) i0 i1 kp dd tr m)
        refine zq_b [zq_il 3, zq_k 1] [zq_ilchk 3, zq_kchk 1] 30 rfl (by decide +kernel) ?_
        show zq_G _ _ _ _ _ 30 ([(0, .ref 0), (1, .int x), (2, .int y), (3, .int u)], [.int 1, .int u], XH tx (nI Z) (nI P, nI C, nI R, nI L, hs, ss, cs, gs, vs) dr rd (nI D, sm, nI N, nI K, ce, de, ke, se) i0 i1 kp dd tr m)
        refine zq_callS (av := [.int u, .int 1]) (rest := []) (by decide +kernel) k11_87 (x_isBeyond (x := u) (q := 1) (by omega)) rfl rfl ?_
        show zq_G _ _ _ _ _ 33 ([(0, .ref 0), (1, .int x), (2, .int y), (3, .int u)], [.int (zb (u.toInt < 0 ∨ (1 : Int) < u.toInt))], XH tx (nI Z) (nI P, nI C, nI R, nI L, hs, ss, cs, gs, vs) dr rd (nI D, sm, nI N, nI K, ce, de, ke, se) i0 i1 kp dd tr m)
        refine zq_ifz .eq 38 (¬ (u.toInt < 0 ∨ (1 : Int) < u.toInt)) (by decide +kernel) (zb_eq _) (fun c33 => ?_) (fun c33 => ?_)
        · show zq_G _ _ _ _ _ 38 ([(0, .ref 0), (1, .int x), (2, .int y), (3, .int u)], [], XH tx (nI Z) (nI P, nI C, nI R, nI L, hs, ss, cs, gs, vs) dr rd (nI D, sm, nI N, nI K, ce, de, ke, se) i0 i1 kp dd tr m)
          exact absurd ⟨Decidable.not_not.mp c8, Decidable.not_not.mp c19, Decidable.not_not.mp c25, by omega, by omega⟩ hb
        · show zq_G _ _ _ _ _ 36 ([(0, .ref 0), (1, .int x), (2, .int y), (3, .int u)], [], XH tx (nI Z) (nI P, nI C, nI R, nI L, hs, ss, cs, gs, vs) dr rd (nI D, sm, nI N, nI K, ce, de, ke, se) i0 i1 kp dd tr m)
          refine zq_b [zq_k (-1)] [zq_kchk (-1)] 37 rfl (by decide +kernel) ?_
          show zq_G _ _ _ _ _ 37 ([(0, .ref 0), (1, .int x), (2, .int y), (3, .int u)], [.int (-1)], XH tx (nI Z) (nI P, nI C, nI R, nI L, hs, ss, cs, gs, vs) dr rd (nI D, sm, nI N, nI K, ce, de, ke, se) i0 i1 kp dd tr m)
          exact zq_iret (by decide +kernel) rfl rfl rfl
set_option maxHeartbeats 4000000 in
set_option maxRecDepth 100000 in
theorem x_hide_0 {x : Int32} {y : Int32} (hP : P ≤ 6) (hce : ∀ j, j < P → ce j = nI (cn j) ∧ cn j ≤ 26) (hx : 0 ≤ x.toInt ∧ x.toInt < (zp2 P : Int)) (hy : 0 ≤ y.toInt ∧ y.toInt < (zp2 P : Int)) (hxy : x &&& y = 0) : zq_P l mX11_hide 6 [.ref 0, .int x, .int y, .int 0] (XH tx (nI Z) (nI P, nI C, nI R, nI L, hs, ss, cs, gs, vs) dr rd (nI D, sm, nI N, nI K, ce, de, ke, se) i0 i1 kp dd tr m) (some (.int (if zleast (fun c => nearN (colB (x &&& orB (bareB P hs sm cn) P) cn c) cn P) (fun c => farN (colB (y &&& orB (bareB P hs sm cn) P) cn c) cn P) = -9 then -9 else zbc (zleast (fun c => nearN (colB (x &&& orB (bareB P hs sm cn) P) cn c) cn P) (fun c => farN (colB (y &&& orB (bareB P hs sm cn) P) cn c) cn P))))) (XH tx (nI Z) (nI P, nI C, nI R, nI L, hs, ss, cs, gs, vs) dr rd (nI D, sm, nI N, nI K, ce, de, ke, se) i0 i1 kp dd tr m) := by
  refine zq_start (by decide +kernel) rfl (Nat.le_of_ble_eq_true rfl) ?_
  show zq_G _ _ _ _ _ 0 ([(0, .ref 0), (1, .int x), (2, .int y), (3, .int 0)], [], XH tx (nI Z) (nI P, nI C, nI R, nI L, hs, ss, cs, gs, vs) dr rd (nI D, sm, nI N, nI K, ce, de, ke, se) i0 i1 kp dd tr m)
  refine zq_b [zq_al 0, zq_get 11 2, zq_il 1] [zq_alchk 0, zq_getchk 11 2, zq_ilchk 1] 5 rfl (by decide +kernel) ?_
  show zq_G _ _ _ _ _ 5 ([(0, .ref 0), (1, .int x), (2, .int y), (3, .int 0)], [.int x, .ref 2], XH tx (nI Z) (nI P, nI C, nI R, nI L, hs, ss, cs, gs, vs) dr rd (nI D, sm, nI N, nI K, ce, de, ke, se) i0 i1 kp dd tr m)
  refine zq_callV (av := [.int x]) (rest := []) (by decide +kernel) k11_184 (x_areBits (b := x) hP) rfl rfl rfl rfl ?_
  show zq_G _ _ _ _ _ 8 ([(0, .ref 0), (1, .int x), (2, .int y), (3, .int 0)], [.int (zb (0 ≤ x.toInt ∧ x.toInt < (zp2 P : Int)))], XH tx (nI Z) (nI P, nI C, nI R, nI L, hs, ss, cs, gs, vs) dr rd (nI D, sm, nI N, nI K, ce, de, ke, se) i0 i1 kp dd tr m)
  refine zq_ifz .eq 36 (¬ (0 ≤ x.toInt ∧ x.toInt < (zp2 P : Int))) (by decide +kernel) (zb_eq _) (fun c8 => absurd c8 (fun q => q hx)) (fun c8 => ?_)
  show zq_G _ _ _ _ _ 11 ([(0, .ref 0), (1, .int x), (2, .int y), (3, .int 0)], [], XH tx (nI Z) (nI P, nI C, nI R, nI L, hs, ss, cs, gs, vs) dr rd (nI D, sm, nI N, nI K, ce, de, ke, se) i0 i1 kp dd tr m)
  refine zq_b [zq_al 0, zq_get 11 2, zq_il 2] [zq_alchk 0, zq_getchk 11 2, zq_ilchk 2] 16 rfl (by decide +kernel) ?_
  show zq_G _ _ _ _ _ 16 ([(0, .ref 0), (1, .int x), (2, .int y), (3, .int 0)], [.int y, .ref 2], XH tx (nI Z) (nI P, nI C, nI R, nI L, hs, ss, cs, gs, vs) dr rd (nI D, sm, nI N, nI K, ce, de, ke, se) i0 i1 kp dd tr m)
  refine zq_callV (av := [.int y]) (rest := []) (by decide +kernel) k11_184 (x_areBits (b := y) hP) rfl rfl rfl rfl ?_
  show zq_G _ _ _ _ _ 19 ([(0, .ref 0), (1, .int x), (2, .int y), (3, .int 0)], [.int (zb (0 ≤ y.toInt ∧ y.toInt < (zp2 P : Int)))], XH tx (nI Z) (nI P, nI C, nI R, nI L, hs, ss, cs, gs, vs) dr rd (nI D, sm, nI N, nI K, ce, de, ke, se) i0 i1 kp dd tr m)
  refine zq_ifz .eq 36 (¬ (0 ≤ y.toInt ∧ y.toInt < (zp2 P : Int))) (by decide +kernel) (zb_eq _) (fun c19 => absurd c19 (fun q => q hy)) (fun c19 => ?_)
  show zq_G _ _ _ _ _ 22 ([(0, .ref 0), (1, .int x), (2, .int y), (3, .int 0)], [], XH tx (nI Z) (nI P, nI C, nI R, nI L, hs, ss, cs, gs, vs) dr rd (nI D, sm, nI N, nI K, ce, de, ke, se) i0 i1 kp dd tr m)
  refine zq_b [zq_il 1, zq_il 2, zq_iand (x &&& y)] [zq_ilchk 1, zq_ilchk 2, zq_is .iand 1] 25 rfl (by decide +kernel) ?_
  refine ⟨rfl, ?_⟩
  show zq_G _ _ _ _ _ 25 ([(0, .ref 0), (1, .int x), (2, .int y), (3, .int 0)], [.int (x &&& y)], XH tx (nI Z) (nI P, nI C, nI R, nI L, hs, ss, cs, gs, vs) dr rd (nI D, sm, nI N, nI K, ce, de, ke, se) i0 i1 kp dd tr m)
  refine zq_ifz .ne 36 (¬ (x &&& y) = 0) (by decide +kernel) (Iff.rfl) (fun c25 => absurd c25 (fun q => q hxy)) (fun c25 => ?_)
  show zq_G _ _ _ _ _ 28 ([(0, .ref 0), (1, .int x), (2, .int y), (3, .int 0)], [], XH tx (nI Z) (nI P, nI C, nI R, nI L, hs, ss, cs, gs, vs) dr rd (nI D, sm, nI N, nI K, ce, de, ke, se) i0 i1 kp dd tr m)
  refine zq_b [zq_il 3, zq_k 1] [zq_ilchk 3, zq_kchk 1] 30 rfl (by decide +kernel) ?_
  show zq_G _ _ _ _ _ 30 ([(0, .ref 0), (1, .int x), (2, .int y), (3, .int 0)], [.int 1, .int 0], XH tx (nI Z) (nI P, nI C, nI R, nI L, hs, ss, cs, gs, vs) dr rd (nI D, sm, nI N, nI K, ce, de, ke, se) i0 i1 kp dd tr m)
  refine zq_callS (av := [.int 0, .int 1]) (rest := []) (by decide +kernel) k11_87 (x_isBeyondN (p := 0) (q := 1) (by omega) (by omega)) rfl rfl ?_
  show zq_G _ _ _ _ _ 33 ([(0, .ref 0), (1, .int x), (2, .int y), (3, .int 0)], [.int (zb (1 < 0))], XH tx (nI Z) (nI P, nI C, nI R, nI L, hs, ss, cs, gs, vs) dr rd (nI D, sm, nI N, nI K, ce, de, ke, se) i0 i1 kp dd tr m)
  refine zq_ifz .eq 38 (¬ (1 < 0)) (by decide +kernel) (zb_eq _) (fun c33 => ?_) (fun c33 => absurd (by omega) c33)
  show zq_G _ _ _ _ _ 38 ([(0, .ref 0), (1, .int x), (2, .int y), (3, .int 0)], [], XH tx (nI Z) (nI P, nI C, nI R, nI L, hs, ss, cs, gs, vs) dr rd (nI D, sm, nI N, nI K, ce, de, ke, se) i0 i1 kp dd tr m)
  refine zq_b [zq_al 0, zq_get 11 5, zq_il 1, zq_il 2] [zq_alchk 0, zq_getchk 11 5, zq_ilchk 1, zq_ilchk 2] 44 rfl (by decide +kernel) ?_
  show zq_G _ _ _ _ _ 44 ([(0, .ref 0), (1, .int x), (2, .int y), (3, .int 0)], [.int y, .int x, .ref 15], XH tx (nI Z) (nI P, nI C, nI R, nI L, hs, ss, cs, gs, vs) dr rd (nI D, sm, nI N, nI K, ce, de, ke, se) i0 i1 kp dd tr m)
  refine zq_callV (av := [.int x, .int y]) (rest := []) (by decide +kernel) k11_187 (c_leastSmoke (x := x) (y := y) hP hce) rfl rfl rfl rfl ?_
  show zq_G _ _ _ _ _ 47 ([(0, .ref 0), (1, .int x), (2, .int y), (3, .int 0)], [.int (zleast (fun c => nearN (colB (x &&& orB (bareB P hs sm cn) P) cn c) cn P) (fun c => farN (colB (y &&& orB (bareB P hs sm cn) P) cn c) cn P))], XH tx (nI Z) (nI P, nI C, nI R, nI L, hs, ss, cs, gs, vs) dr rd (nI D, sm, nI N, nI K, ce, de, ke, se) i0 i1 kp dd tr m)
  refine zq_b [zq_is1 4, zq_il 4, zq_k (-9)] [zq_is1chk 4, zq_ilchk 4, zq_kchk (-9)] 53 rfl (by decide +kernel) ?_
  show zq_G _ _ _ _ _ 53 ([(0, .ref 0), (1, .int x), (2, .int y), (3, .int 0), (4, .int (zleast (fun c => nearN (colB (x &&& orB (bareB P hs sm cn) P) cn c) cn P) (fun c => farN (colB (y &&& orB (bareB P hs sm cn) P) cn c) cn P)))], [.int (-9), .int (zleast (fun c => nearN (colB (x &&& orB (bareB P hs sm cn) P) cn c) cn P) (fun c => farN (colB (y &&& orB (bareB P hs sm cn) P) cn c) cn P))], XH tx (nI Z) (nI P, nI C, nI R, nI L, hs, ss, cs, gs, vs) dr rd (nI D, sm, nI N, nI K, ce, de, ke, se) i0 i1 kp dd tr m)
  refine zq_if .ne 59 (¬ (zleast (fun c => nearN (colB (x &&& orB (bareB P hs sm cn) P) cn c) cn P) (fun c => farN (colB (y &&& orB (bareB P hs sm cn) P) cn c) cn P)) = (-9)) (by decide +kernel) (Iff.rfl) (fun c53 => ?_) (fun c53 => ?_)
  · show zq_G _ _ _ _ _ 59 ([(0, .ref 0), (1, .int x), (2, .int y), (3, .int 0), (4, .int (zleast (fun c => nearN (colB (x &&& orB (bareB P hs sm cn) P) cn c) cn P) (fun c => farN (colB (y &&& orB (bareB P hs sm cn) P) cn c) cn P)))], [], XH tx (nI Z) (nI P, nI C, nI R, nI L, hs, ss, cs, gs, vs) dr rd (nI D, sm, nI N, nI K, ce, de, ke, se) i0 i1 kp dd tr m)
    refine zq_b [zq_il 3] [zq_ilchk 3] 60 rfl (by decide +kernel) ?_
    show zq_G _ _ _ _ _ 60 ([(0, .ref 0), (1, .int x), (2, .int y), (3, .int 0), (4, .int (zleast (fun c => nearN (colB (x &&& orB (bareB P hs sm cn) P) cn c) cn P) (fun c => farN (colB (y &&& orB (bareB P hs sm cn) P) cn c) cn P)))], [.int 0], XH tx (nI Z) (nI P, nI C, nI R, nI L, hs, ss, cs, gs, vs) dr rd (nI D, sm, nI N, nI K, ce, de, ke, se) i0 i1 kp dd tr m)
    refine zq_ifz .ne 71 (¬ 0 = 0) (by decide +kernel) (zq_cne (a := 0) (b := 0) (by omega) (by omega)) (fun c60 => absurd c60 (fun q => q rfl)) (fun c60 => ?_)
    show zq_G _ _ _ _ _ 63 ([(0, .ref 0), (1, .int x), (2, .int y), (3, .int 0), (4, .int (zleast (fun c => nearN (colB (x &&& orB (bareB P hs sm cn) P) cn c) cn P) (fun c => farN (colB (y &&& orB (bareB P hs sm cn) P) cn c) cn P)))], [], XH tx (nI Z) (nI P, nI C, nI R, nI L, hs, ss, cs, gs, vs) dr rd (nI D, sm, nI N, nI K, ce, de, ke, se) i0 i1 kp dd tr m)
    refine zq_b [zq_il 4] [zq_ilchk 4] 65 rfl (by decide +kernel) ?_
    show zq_G _ _ _ _ _ 65 ([(0, .ref 0), (1, .int x), (2, .int y), (3, .int 0), (4, .int (zleast (fun c => nearN (colB (x &&& orB (bareB P hs sm cn) P) cn c) cn P) (fun c => farN (colB (y &&& orB (bareB P hs sm cn) P) cn c) cn P)))], [.int (zleast (fun c => nearN (colB (x &&& orB (bareB P hs sm cn) P) cn c) cn P) (fun c => farN (colB (y &&& orB (bareB P hs sm cn) P) cn c) cn P))], XH tx (nI Z) (nI P, nI C, nI R, nI L, hs, ss, cs, gs, vs) dr rd (nI D, sm, nI N, nI K, ce, de, ke, se) i0 i1 kp dd tr m)
    refine zq_callS (av := [.int (zleast (fun c => nearN (colB (x &&& orB (bareB P hs sm cn) P) cn c) cn P) (fun c => farN (colB (y &&& orB (bareB P hs sm cn) P) cn c) cn P))]) (rest := []) (by decide +kernel) k11_145 (c_bitCount (x := (zleast (fun c => nearN (colB (x &&& orB (bareB P hs sm cn) P) cn c) cn P) (fun c => farN (colB (y &&& orB (bareB P hs sm cn) P) cn c) cn P)))) rfl rfl ?_
    show zq_G _ _ _ _ _ 68 ([(0, .ref 0), (1, .int x), (2, .int y), (3, .int 0), (4, .int (zleast (fun c => nearN (colB (x &&& orB (bareB P hs sm cn) P) cn c) cn P) (fun c => farN (colB (y &&& orB (bareB P hs sm cn) P) cn c) cn P)))], [.int (zbc (zleast (fun c => nearN (colB (x &&& orB (bareB P hs sm cn) P) cn c) cn P) (fun c => farN (colB (y &&& orB (bareB P hs sm cn) P) cn c) cn P)))], XH tx (nI Z) (nI P, nI C, nI R, nI L, hs, ss, cs, gs, vs) dr rd (nI D, sm, nI N, nI K, ce, de, ke, se) i0 i1 kp dd tr m)
    refine zq_b [zq_go] [zq_gochk] 73 rfl (by decide +kernel) ?_
    show zq_G _ _ _ _ _ 73 ([(0, .ref 0), (1, .int x), (2, .int y), (3, .int 0), (4, .int (zleast (fun c => nearN (colB (x &&& orB (bareB P hs sm cn) P) cn c) cn P) (fun c => farN (colB (y &&& orB (bareB P hs sm cn) P) cn c) cn P)))], [.int (zbc (zleast (fun c => nearN (colB (x &&& orB (bareB P hs sm cn) P) cn c) cn P) (fun c => farN (colB (y &&& orB (bareB P hs sm cn) P) cn c) cn P)))], XH tx (nI Z) (nI P, nI C, nI R, nI L, hs, ss, cs, gs, vs) dr rd (nI D, sm, nI N, nI K, ce, de, ke, se) i0 i1 kp dd tr m)
    exact zq_iret (by decide +kernel) rfl (by rw [if_neg c53]) rfl
  · show zq_G _ _ _ _ _ 56 ([(0, .ref 0), (1, .int x), (2, .int y), (3, .int 0), (4, .int (zleast (fun c => nearN (colB (x &&& orB (bareB P hs sm cn) P) cn c) cn P) (fun c => farN (colB (y &&& orB (bareB P hs sm cn) P) cn c) cn P)))], [], XH tx (nI Z) (nI P, nI C, nI R, nI L, hs, ss, cs, gs, vs) dr rd (nI D, sm, nI N, nI K, ce, de, ke, se) i0 i1 kp dd tr m)
    refine zq_b [zq_k (-9)] [zq_kchk (-9)] 58 rfl (by decide +kernel) ?_
    show zq_G _ _ _ _ _ 58 ([(0, .ref 0), (1, .int x), (2, .int y), (3, .int 0), (4, .int (zleast (fun c => nearN (colB (x &&& orB (bareB P hs sm cn) P) cn c) cn P) (fun c => farN (colB (y &&& orB (bareB P hs sm cn) P) cn c) cn P)))], [.int (-9)], XH tx (nI Z) (nI P, nI C, nI R, nI L, hs, ss, cs, gs, vs) dr rd (nI D, sm, nI N, nI K, ce, de, ke, se) i0 i1 kp dd tr m)
    exact zq_iret (by decide +kernel) rfl (by rw [if_pos (Decidable.not_not.mp c53)]) rfl
set_option maxHeartbeats 4000000 in
set_option maxRecDepth 100000 in
theorem x_hide_1 {x : Int32} {y : Int32} (hP : P ≤ 6) (hce : ∀ j, j < P → ce j = nI (cn j) ∧ cn j ≤ 26) (hx : 0 ≤ x.toInt ∧ x.toInt < (zp2 P : Int)) (hy : 0 ≤ y.toInt ∧ y.toInt < (zp2 P : Int)) (hxy : x &&& y = 0) : zq_P l mX11_hide 6 [.ref 0, .int x, .int y, .int 1] (XH tx (nI Z) (nI P, nI C, nI R, nI L, hs, ss, cs, gs, vs) dr rd (nI D, sm, nI N, nI K, ce, de, ke, se) i0 i1 kp dd tr m) (some (.int (if zleast (fun c => nearN (colB (x &&& orB (bareB P hs sm cn) P) cn c) cn P) (fun c => farN (colB (y &&& orB (bareB P hs sm cn) P) cn c) cn P) = -9 then -9 else zleast (fun c => nearN (colB (x &&& orB (bareB P hs sm cn) P) cn c) cn P) (fun c => farN (colB (y &&& orB (bareB P hs sm cn) P) cn c) cn P)))) (XH tx (nI Z) (nI P, nI C, nI R, nI L, hs, ss, cs, gs, vs) dr rd (nI D, sm, nI N, nI K, ce, de, ke, se) i0 i1 kp dd tr m) := by
  refine zq_start (by decide +kernel) rfl (Nat.le_of_ble_eq_true rfl) ?_
  show zq_G _ _ _ _ _ 0 ([(0, .ref 0), (1, .int x), (2, .int y), (3, .int 1)], [], XH tx (nI Z) (nI P, nI C, nI R, nI L, hs, ss, cs, gs, vs) dr rd (nI D, sm, nI N, nI K, ce, de, ke, se) i0 i1 kp dd tr m)
  refine zq_b [zq_al 0, zq_get 11 2, zq_il 1] [zq_alchk 0, zq_getchk 11 2, zq_ilchk 1] 5 rfl (by decide +kernel) ?_
  show zq_G _ _ _ _ _ 5 ([(0, .ref 0), (1, .int x), (2, .int y), (3, .int 1)], [.int x, .ref 2], XH tx (nI Z) (nI P, nI C, nI R, nI L, hs, ss, cs, gs, vs) dr rd (nI D, sm, nI N, nI K, ce, de, ke, se) i0 i1 kp dd tr m)
  refine zq_callV (av := [.int x]) (rest := []) (by decide +kernel) k11_184 (x_areBits (b := x) hP) rfl rfl rfl rfl ?_
  show zq_G _ _ _ _ _ 8 ([(0, .ref 0), (1, .int x), (2, .int y), (3, .int 1)], [.int (zb (0 ≤ x.toInt ∧ x.toInt < (zp2 P : Int)))], XH tx (nI Z) (nI P, nI C, nI R, nI L, hs, ss, cs, gs, vs) dr rd (nI D, sm, nI N, nI K, ce, de, ke, se) i0 i1 kp dd tr m)
  refine zq_ifz .eq 36 (¬ (0 ≤ x.toInt ∧ x.toInt < (zp2 P : Int))) (by decide +kernel) (zb_eq _) (fun c8 => absurd c8 (fun q => q hx)) (fun c8 => ?_)
  show zq_G _ _ _ _ _ 11 ([(0, .ref 0), (1, .int x), (2, .int y), (3, .int 1)], [], XH tx (nI Z) (nI P, nI C, nI R, nI L, hs, ss, cs, gs, vs) dr rd (nI D, sm, nI N, nI K, ce, de, ke, se) i0 i1 kp dd tr m)
  refine zq_b [zq_al 0, zq_get 11 2, zq_il 2] [zq_alchk 0, zq_getchk 11 2, zq_ilchk 2] 16 rfl (by decide +kernel) ?_
  show zq_G _ _ _ _ _ 16 ([(0, .ref 0), (1, .int x), (2, .int y), (3, .int 1)], [.int y, .ref 2], XH tx (nI Z) (nI P, nI C, nI R, nI L, hs, ss, cs, gs, vs) dr rd (nI D, sm, nI N, nI K, ce, de, ke, se) i0 i1 kp dd tr m)
  refine zq_callV (av := [.int y]) (rest := []) (by decide +kernel) k11_184 (x_areBits (b := y) hP) rfl rfl rfl rfl ?_
  show zq_G _ _ _ _ _ 19 ([(0, .ref 0), (1, .int x), (2, .int y), (3, .int 1)], [.int (zb (0 ≤ y.toInt ∧ y.toInt < (zp2 P : Int)))], XH tx (nI Z) (nI P, nI C, nI R, nI L, hs, ss, cs, gs, vs) dr rd (nI D, sm, nI N, nI K, ce, de, ke, se) i0 i1 kp dd tr m)
  refine zq_ifz .eq 36 (¬ (0 ≤ y.toInt ∧ y.toInt < (zp2 P : Int))) (by decide +kernel) (zb_eq _) (fun c19 => absurd c19 (fun q => q hy)) (fun c19 => ?_)
  show zq_G _ _ _ _ _ 22 ([(0, .ref 0), (1, .int x), (2, .int y), (3, .int 1)], [], XH tx (nI Z) (nI P, nI C, nI R, nI L, hs, ss, cs, gs, vs) dr rd (nI D, sm, nI N, nI K, ce, de, ke, se) i0 i1 kp dd tr m)
  refine zq_b [zq_il 1, zq_il 2, zq_iand (x &&& y)] [zq_ilchk 1, zq_ilchk 2, zq_is .iand 1] 25 rfl (by decide +kernel) ?_
  refine ⟨rfl, ?_⟩
  show zq_G _ _ _ _ _ 25 ([(0, .ref 0), (1, .int x), (2, .int y), (3, .int 1)], [.int (x &&& y)], XH tx (nI Z) (nI P, nI C, nI R, nI L, hs, ss, cs, gs, vs) dr rd (nI D, sm, nI N, nI K, ce, de, ke, se) i0 i1 kp dd tr m)
  refine zq_ifz .ne 36 (¬ (x &&& y) = 0) (by decide +kernel) (Iff.rfl) (fun c25 => absurd c25 (fun q => q hxy)) (fun c25 => ?_)
  show zq_G _ _ _ _ _ 28 ([(0, .ref 0), (1, .int x), (2, .int y), (3, .int 1)], [], XH tx (nI Z) (nI P, nI C, nI R, nI L, hs, ss, cs, gs, vs) dr rd (nI D, sm, nI N, nI K, ce, de, ke, se) i0 i1 kp dd tr m)
  refine zq_b [zq_il 3, zq_k 1] [zq_ilchk 3, zq_kchk 1] 30 rfl (by decide +kernel) ?_
  show zq_G _ _ _ _ _ 30 ([(0, .ref 0), (1, .int x), (2, .int y), (3, .int 1)], [.int 1, .int 1], XH tx (nI Z) (nI P, nI C, nI R, nI L, hs, ss, cs, gs, vs) dr rd (nI D, sm, nI N, nI K, ce, de, ke, se) i0 i1 kp dd tr m)
  refine zq_callS (av := [.int 1, .int 1]) (rest := []) (by decide +kernel) k11_87 (x_isBeyondN (p := 1) (q := 1) (by omega) (by omega)) rfl rfl ?_
  show zq_G _ _ _ _ _ 33 ([(0, .ref 0), (1, .int x), (2, .int y), (3, .int 1)], [.int (zb (1 < 1))], XH tx (nI Z) (nI P, nI C, nI R, nI L, hs, ss, cs, gs, vs) dr rd (nI D, sm, nI N, nI K, ce, de, ke, se) i0 i1 kp dd tr m)
  refine zq_ifz .eq 38 (¬ (1 < 1)) (by decide +kernel) (zb_eq _) (fun c33 => ?_) (fun c33 => absurd (by omega) c33)
  show zq_G _ _ _ _ _ 38 ([(0, .ref 0), (1, .int x), (2, .int y), (3, .int 1)], [], XH tx (nI Z) (nI P, nI C, nI R, nI L, hs, ss, cs, gs, vs) dr rd (nI D, sm, nI N, nI K, ce, de, ke, se) i0 i1 kp dd tr m)
  refine zq_b [zq_al 0, zq_get 11 5, zq_il 1, zq_il 2] [zq_alchk 0, zq_getchk 11 5, zq_ilchk 1, zq_ilchk 2] 44 rfl (by decide +kernel) ?_
  show zq_G _ _ _ _ _ 44 ([(0, .ref 0), (1, .int x), (2, .int y), (3, .int 1)], [.int y, .int x, .ref 15], XH tx (nI Z) (nI P, nI C, nI R, nI L, hs, ss, cs, gs, vs) dr rd (nI D, sm, nI N, nI K, ce, de, ke, se) i0 i1 kp dd tr m)
  refine zq_callV (av := [.int x, .int y]) (rest := []) (by decide +kernel) k11_187 (c_leastSmoke (x := x) (y := y) hP hce) rfl rfl rfl rfl ?_
  show zq_G _ _ _ _ _ 47 ([(0, .ref 0), (1, .int x), (2, .int y), (3, .int 1)], [.int (zleast (fun c => nearN (colB (x &&& orB (bareB P hs sm cn) P) cn c) cn P) (fun c => farN (colB (y &&& orB (bareB P hs sm cn) P) cn c) cn P))], XH tx (nI Z) (nI P, nI C, nI R, nI L, hs, ss, cs, gs, vs) dr rd (nI D, sm, nI N, nI K, ce, de, ke, se) i0 i1 kp dd tr m)
  refine zq_b [zq_is1 4, zq_il 4, zq_k (-9)] [zq_is1chk 4, zq_ilchk 4, zq_kchk (-9)] 53 rfl (by decide +kernel) ?_
  show zq_G _ _ _ _ _ 53 ([(0, .ref 0), (1, .int x), (2, .int y), (3, .int 1), (4, .int (zleast (fun c => nearN (colB (x &&& orB (bareB P hs sm cn) P) cn c) cn P) (fun c => farN (colB (y &&& orB (bareB P hs sm cn) P) cn c) cn P)))], [.int (-9), .int (zleast (fun c => nearN (colB (x &&& orB (bareB P hs sm cn) P) cn c) cn P) (fun c => farN (colB (y &&& orB (bareB P hs sm cn) P) cn c) cn P))], XH tx (nI Z) (nI P, nI C, nI R, nI L, hs, ss, cs, gs, vs) dr rd (nI D, sm, nI N, nI K, ce, de, ke, se) i0 i1 kp dd tr m)
  refine zq_if .ne 59 (¬ (zleast (fun c => nearN (colB (x &&& orB (bareB P hs sm cn) P) cn c) cn P) (fun c => farN (colB (y &&& orB (bareB P hs sm cn) P) cn c) cn P)) = (-9)) (by decide +kernel) (Iff.rfl) (fun c53 => ?_) (fun c53 => ?_)
  · show zq_G _ _ _ _ _ 59 ([(0, .ref 0), (1, .int x), (2, .int y), (3, .int 1), (4, .int (zleast (fun c => nearN (colB (x &&& orB (bareB P hs sm cn) P) cn c) cn P) (fun c => farN (colB (y &&& orB (bareB P hs sm cn) P) cn c) cn P)))], [], XH tx (nI Z) (nI P, nI C, nI R, nI L, hs, ss, cs, gs, vs) dr rd (nI D, sm, nI N, nI K, ce, de, ke, se) i0 i1 kp dd tr m)
    refine zq_b [zq_il 3] [zq_ilchk 3] 60 rfl (by decide +kernel) ?_
    show zq_G _ _ _ _ _ 60 ([(0, .ref 0), (1, .int x), (2, .int y), (3, .int 1), (4, .int (zleast (fun c => nearN (colB (x &&& orB (bareB P hs sm cn) P) cn c) cn P) (fun c => farN (colB (y &&& orB (bareB P hs sm cn) P) cn c) cn P)))], [.int 1], XH tx (nI Z) (nI P, nI C, nI R, nI L, hs, ss, cs, gs, vs) dr rd (nI D, sm, nI N, nI K, ce, de, ke, se) i0 i1 kp dd tr m)
    refine zq_ifz .ne 71 (¬ 1 = 0) (by decide +kernel) (zq_cne (a := 1) (b := 0) (by omega) (by omega)) (fun c60 => ?_) (fun c60 => absurd (by decide) c60)
    show zq_G _ _ _ _ _ 71 ([(0, .ref 0), (1, .int x), (2, .int y), (3, .int 1), (4, .int (zleast (fun c => nearN (colB (x &&& orB (bareB P hs sm cn) P) cn c) cn P) (fun c => farN (colB (y &&& orB (bareB P hs sm cn) P) cn c) cn P)))], [], XH tx (nI Z) (nI P, nI C, nI R, nI L, hs, ss, cs, gs, vs) dr rd (nI D, sm, nI N, nI K, ce, de, ke, se) i0 i1 kp dd tr m)
    refine zq_b [zq_il 4] [zq_ilchk 4] 73 rfl (by decide +kernel) ?_
    show zq_G _ _ _ _ _ 73 ([(0, .ref 0), (1, .int x), (2, .int y), (3, .int 1), (4, .int (zleast (fun c => nearN (colB (x &&& orB (bareB P hs sm cn) P) cn c) cn P) (fun c => farN (colB (y &&& orB (bareB P hs sm cn) P) cn c) cn P)))], [.int (zleast (fun c => nearN (colB (x &&& orB (bareB P hs sm cn) P) cn c) cn P) (fun c => farN (colB (y &&& orB (bareB P hs sm cn) P) cn c) cn P))], XH tx (nI Z) (nI P, nI C, nI R, nI L, hs, ss, cs, gs, vs) dr rd (nI D, sm, nI N, nI K, ce, de, ke, se) i0 i1 kp dd tr m)
    exact zq_iret (by decide +kernel) rfl (by rw [if_neg c53]) rfl
  · show zq_G _ _ _ _ _ 56 ([(0, .ref 0), (1, .int x), (2, .int y), (3, .int 1), (4, .int (zleast (fun c => nearN (colB (x &&& orB (bareB P hs sm cn) P) cn c) cn P) (fun c => farN (colB (y &&& orB (bareB P hs sm cn) P) cn c) cn P)))], [], XH tx (nI Z) (nI P, nI C, nI R, nI L, hs, ss, cs, gs, vs) dr rd (nI D, sm, nI N, nI K, ce, de, ke, se) i0 i1 kp dd tr m)
    refine zq_b [zq_k (-9)] [zq_kchk (-9)] 58 rfl (by decide +kernel) ?_
    show zq_G _ _ _ _ _ 58 ([(0, .ref 0), (1, .int x), (2, .int y), (3, .int 1), (4, .int (zleast (fun c => nearN (colB (x &&& orB (bareB P hs sm cn) P) cn c) cn P) (fun c => farN (colB (y &&& orB (bareB P hs sm cn) P) cn c) cn P)))], [.int (-9)], XH tx (nI Z) (nI P, nI C, nI R, nI L, hs, ss, cs, gs, vs) dr rd (nI D, sm, nI N, nI K, ce, de, ke, se) i0 i1 kp dd tr m)
    exact zq_iret (by decide +kernel) rfl (by rw [if_pos (Decidable.not_not.mp c53)]) rfl
set_option maxHeartbeats 4000000 in
set_option maxRecDepth 100000 in
theorem x_blocks_bad {x : Int32} {y : Int32} (hP : P ≤ 6) (hb : ¬ ((0 ≤ x.toInt ∧ x.toInt < (P : Int)) ∧ (0 ≤ y.toInt ∧ y.toInt < (P : Int)) ∧ ¬ x.toInt = y.toInt)) : zq_P l mX11_blocks 1 [.ref 0, .int x, .int y] (XH tx (nI Z) (nI P, nI C, nI R, nI L, hs, ss, cs, gs, vs) dr rd (nI D, sm, nI N, nI K, ce, de, ke, se) i0 i1 kp dd tr m) (some (.int (-1))) (XH tx (nI Z) (nI P, nI C, nI R, nI L, hs, ss, cs, gs, vs) dr rd (nI D, sm, nI N, nI K, ce, de, ke, se) i0 i1 kp dd tr m) := by
  refine zq_start (by decide +kernel) rfl (Nat.le_of_ble_eq_true rfl) ?_
  show zq_G _ _ _ _ _ 0 ([(0, .ref 0), (1, .int x), (2, .int y)], [], XH tx (nI Z) (nI P, nI C, nI R, nI L, hs, ss, cs, gs, vs) dr rd (nI D, sm, nI N, nI K, ce, de, ke, se) i0 i1 kp dd tr m)
  refine zq_b [zq_al 0, zq_get 11 2, zq_il 1] [zq_alchk 0, zq_getchk 11 2, zq_ilchk 1] 5 rfl (by decide +kernel) ?_
  show zq_G _ _ _ _ _ 5 ([(0, .ref 0), (1, .int x), (2, .int y)], [.int x, .ref 2], XH tx (nI Z) (nI P, nI C, nI R, nI L, hs, ss, cs, gs, vs) dr rd (nI D, sm, nI N, nI K, ce, de, ke, se) i0 i1 kp dd tr m)
  refine zq_callV (av := [.int x]) (rest := []) (by decide +kernel) k11_105 (x_hasPerson (p := x) hP) rfl rfl rfl rfl ?_
  show zq_G _ _ _ _ _ 8 ([(0, .ref 0), (1, .int x), (2, .int y)], [.int (zb (0 ≤ x.toInt ∧ x.toInt < (P : Int)))], XH tx (nI Z) (nI P, nI C, nI R, nI L, hs, ss, cs, gs, vs) dr rd (nI D, sm, nI N, nI K, ce, de, ke, se) i0 i1 kp dd tr m)
  refine zq_ifz .eq 27 (¬ (0 ≤ x.toInt ∧ x.toInt < (P : Int))) (by decide +kernel) (zb_eq _) (fun c8 => ?_) (fun c8 => ?_)
  · show zq_G _ _ _ _ _ 27 ([(0, .ref 0), (1, .int x), (2, .int y)], [], XH tx (nI Z) (nI P, nI C, nI R, nI L, hs, ss, cs, gs, vs) dr rd (nI D, sm, nI N, nI K, ce, de, ke, se) i0 i1 kp dd tr m)
    refine zq_b [zq_k (-1)] [zq_kchk (-1)] 28 rfl (by decide +kernel) ?_
    show zq_G _ _ _ _ _ 28 ([(0, .ref 0), (1, .int x), (2, .int y)], [.int (-1)], XH tx (nI Z) (nI P, nI C, nI R, nI L, hs, ss, cs, gs, vs) dr rd (nI D, sm, nI N, nI K, ce, de, ke, se) i0 i1 kp dd tr m)
    exact zq_iret (by decide +kernel) rfl rfl rfl
  · show zq_G _ _ _ _ _ 11 ([(0, .ref 0), (1, .int x), (2, .int y)], [], XH tx (nI Z) (nI P, nI C, nI R, nI L, hs, ss, cs, gs, vs) dr rd (nI D, sm, nI N, nI K, ce, de, ke, se) i0 i1 kp dd tr m)
    refine zq_b [zq_al 0, zq_get 11 2, zq_il 2] [zq_alchk 0, zq_getchk 11 2, zq_ilchk 2] 16 rfl (by decide +kernel) ?_
    show zq_G _ _ _ _ _ 16 ([(0, .ref 0), (1, .int x), (2, .int y)], [.int y, .ref 2], XH tx (nI Z) (nI P, nI C, nI R, nI L, hs, ss, cs, gs, vs) dr rd (nI D, sm, nI N, nI K, ce, de, ke, se) i0 i1 kp dd tr m)
    refine zq_callV (av := [.int y]) (rest := []) (by decide +kernel) k11_105 (x_hasPerson (p := y) hP) rfl rfl rfl rfl ?_
    show zq_G _ _ _ _ _ 19 ([(0, .ref 0), (1, .int x), (2, .int y)], [.int (zb (0 ≤ y.toInt ∧ y.toInt < (P : Int)))], XH tx (nI Z) (nI P, nI C, nI R, nI L, hs, ss, cs, gs, vs) dr rd (nI D, sm, nI N, nI K, ce, de, ke, se) i0 i1 kp dd tr m)
    refine zq_ifz .eq 27 (¬ (0 ≤ y.toInt ∧ y.toInt < (P : Int))) (by decide +kernel) (zb_eq _) (fun c19 => ?_) (fun c19 => ?_)
    · show zq_G _ _ _ _ _ 27 ([(0, .ref 0), (1, .int x), (2, .int y)], [], XH tx (nI Z) (nI P, nI C, nI R, nI L, hs, ss, cs, gs, vs) dr rd (nI D, sm, nI N, nI K, ce, de, ke, se) i0 i1 kp dd tr m)
      refine zq_b [zq_k (-1)] [zq_kchk (-1)] 28 rfl (by decide +kernel) ?_
      show zq_G _ _ _ _ _ 28 ([(0, .ref 0), (1, .int x), (2, .int y)], [.int (-1)], XH tx (nI Z) (nI P, nI C, nI R, nI L, hs, ss, cs, gs, vs) dr rd (nI D, sm, nI N, nI K, ce, de, ke, se) i0 i1 kp dd tr m)
      exact zq_iret (by decide +kernel) rfl rfl rfl
    · show zq_G _ _ _ _ _ 22 ([(0, .ref 0), (1, .int x), (2, .int y)], [], XH tx (nI Z) (nI P, nI C, nI R, nI L, hs, ss, cs, gs, vs) dr rd (nI D, sm, nI N, nI K, ce, de, ke, se) i0 i1 kp dd tr m)
      refine zq_b [zq_il 1, zq_il 2] [zq_ilchk 1, zq_ilchk 2] 24 rfl (by decide +kernel) ?_
      show zq_G _ _ _ _ _ 24 ([(0, .ref 0), (1, .int x), (2, .int y)], [.int y, .int x], XH tx (nI Z) (nI P, nI C, nI R, nI L, hs, ss, cs, gs, vs) dr rd (nI D, sm, nI N, nI K, ce, de, ke, se) i0 i1 kp dd tr m)
      refine zq_if .ne 29 (¬ x.toInt = y.toInt) (by decide +kernel) (zq_tt .ne _ _) (fun c24 => ?_) (fun c24 => ?_)
      · show zq_G _ _ _ _ _ 29 ([(0, .ref 0), (1, .int x), (2, .int y)], [], XH tx (nI Z) (nI P, nI C, nI R, nI L, hs, ss, cs, gs, vs) dr rd (nI D, sm, nI N, nI K, ce, de, ke, se) i0 i1 kp dd tr m)
        exact absurd hb (by omega)
      · show zq_G _ _ _ _ _ 27 ([(0, .ref 0), (1, .int x), (2, .int y)], [], XH tx (nI Z) (nI P, nI C, nI R, nI L, hs, ss, cs, gs, vs) dr rd (nI D, sm, nI N, nI K, ce, de, ke, se) i0 i1 kp dd tr m)
        refine zq_b [zq_k (-1)] [zq_kchk (-1)] 28 rfl (by decide +kernel) ?_
        show zq_G _ _ _ _ _ 28 ([(0, .ref 0), (1, .int x), (2, .int y)], [.int (-1)], XH tx (nI Z) (nI P, nI C, nI R, nI L, hs, ss, cs, gs, vs) dr rd (nI D, sm, nI N, nI K, ce, de, ke, se) i0 i1 kp dd tr m)
        exact zq_iret (by decide +kernel) rfl rfl rfl
set_option maxHeartbeats 4000000 in
set_option maxRecDepth 100000 in
theorem x_blocks_bad2 {a : Nat} {b : Nat} (ha : a < P) (hbP : b < P) (hab : ¬ a = b) (hP : P ≤ 6) (hce : ∀ j, j < P → ce j = nI (cn j) ∧ cn j ≤ 26) (hb : 25 ≤ cn b ∨ cn a = 26) : zq_P l mX11_blocks 1 [.ref 0, .int (nI a), .int (nI b)] (XH tx (nI Z) (nI P, nI C, nI R, nI L, hs, ss, cs, gs, vs) dr rd (nI D, sm, nI N, nI K, ce, de, ke, se) i0 i1 kp dd tr m) (some (.int (-1))) (XH tx (nI Z) (nI P, nI C, nI R, nI L, hs, ss, cs, gs, vs) dr rd (nI D, sm, nI N, nI K, ce, de, ke, se) i0 i1 kp dd tr m) := by
  refine zq_start (by decide +kernel) rfl (Nat.le_of_ble_eq_true rfl) ?_
  show zq_G _ _ _ _ _ 0 ([(0, .ref 0), (1, .int (nI a)), (2, .int (nI b))], [], XH tx (nI Z) (nI P, nI C, nI R, nI L, hs, ss, cs, gs, vs) dr rd (nI D, sm, nI N, nI K, ce, de, ke, se) i0 i1 kp dd tr m)
  have hca := (hce a ha).2
  have hcb := (hce b hbP).2
  refine zq_b [zq_al 0, zq_get 11 2, zq_il 1] [zq_alchk 0, zq_getchk 11 2, zq_ilchk 1] 5 rfl (by decide +kernel) ?_
  show zq_G _ _ _ _ _ 5 ([(0, .ref 0), (1, .int (nI a)), (2, .int (nI b))], [.int (nI a), .ref 2], XH tx (nI Z) (nI P, nI C, nI R, nI L, hs, ss, cs, gs, vs) dr rd (nI D, sm, nI N, nI K, ce, de, ke, se) i0 i1 kp dd tr m)
  refine zq_callV (av := [.int (nI a)]) (rest := []) (by decide +kernel) k11_105 (x_hasPersonN (p := a) hP (by omega)) rfl rfl rfl rfl ?_
  show zq_G _ _ _ _ _ 8 ([(0, .ref 0), (1, .int (nI a)), (2, .int (nI b))], [.int (zb (a < P))], XH tx (nI Z) (nI P, nI C, nI R, nI L, hs, ss, cs, gs, vs) dr rd (nI D, sm, nI N, nI K, ce, de, ke, se) i0 i1 kp dd tr m)
  refine zq_ifz .eq 27 (¬ (a < P)) (by decide +kernel) (zb_eq _) (fun c8 => absurd c8 (by omega)) (fun c8 => ?_)
  show zq_G _ _ _ _ _ 11 ([(0, .ref 0), (1, .int (nI a)), (2, .int (nI b))], [], XH tx (nI Z) (nI P, nI C, nI R, nI L, hs, ss, cs, gs, vs) dr rd (nI D, sm, nI N, nI K, ce, de, ke, se) i0 i1 kp dd tr m)
  refine zq_b [zq_al 0, zq_get 11 2, zq_il 2] [zq_alchk 0, zq_getchk 11 2, zq_ilchk 2] 16 rfl (by decide +kernel) ?_
  show zq_G _ _ _ _ _ 16 ([(0, .ref 0), (1, .int (nI a)), (2, .int (nI b))], [.int (nI b), .ref 2], XH tx (nI Z) (nI P, nI C, nI R, nI L, hs, ss, cs, gs, vs) dr rd (nI D, sm, nI N, nI K, ce, de, ke, se) i0 i1 kp dd tr m)
  refine zq_callV (av := [.int (nI b)]) (rest := []) (by decide +kernel) k11_105 (x_hasPersonN (p := b) hP (by omega)) rfl rfl rfl rfl ?_
  show zq_G _ _ _ _ _ 19 ([(0, .ref 0), (1, .int (nI a)), (2, .int (nI b))], [.int (zb (b < P))], XH tx (nI Z) (nI P, nI C, nI R, nI L, hs, ss, cs, gs, vs) dr rd (nI D, sm, nI N, nI K, ce, de, ke, se) i0 i1 kp dd tr m)
  refine zq_ifz .eq 27 (¬ (b < P)) (by decide +kernel) (zb_eq _) (fun c19 => absurd c19 (by omega)) (fun c19 => ?_)
  show zq_G _ _ _ _ _ 22 ([(0, .ref 0), (1, .int (nI a)), (2, .int (nI b))], [], XH tx (nI Z) (nI P, nI C, nI R, nI L, hs, ss, cs, gs, vs) dr rd (nI D, sm, nI N, nI K, ce, de, ke, se) i0 i1 kp dd tr m)
  refine zq_b [zq_il 1, zq_il 2] [zq_ilchk 1, zq_ilchk 2] 24 rfl (by decide +kernel) ?_
  show zq_G _ _ _ _ _ 24 ([(0, .ref 0), (1, .int (nI a)), (2, .int (nI b))], [.int (nI b), .int (nI a)], XH tx (nI Z) (nI P, nI C, nI R, nI L, hs, ss, cs, gs, vs) dr rd (nI D, sm, nI N, nI K, ce, de, ke, se) i0 i1 kp dd tr m)
  refine zq_if .ne 29 (¬ a = b) (by decide +kernel) (zq_cne (a := a) (b := b) (by omega) (by omega)) (fun c24 => ?_) (fun c24 => absurd (by omega) c24)
  show zq_G _ _ _ _ _ 29 ([(0, .ref 0), (1, .int (nI a)), (2, .int (nI b))], [], XH tx (nI Z) (nI P, nI C, nI R, nI L, hs, ss, cs, gs, vs) dr rd (nI D, sm, nI N, nI K, ce, de, ke, se) i0 i1 kp dd tr m)
  refine zq_b [zq_al 0, zq_get 11 5, zq_get 5 5, zq_il 2, zq_iald b (nI (cn b))] [zq_alchk 0, zq_getchk 11 5, zq_getchk 5 5, zq_ilchk 2, zq_is .iaload 1] 38 rfl (by decide +kernel) ?_
  refine ⟨rfl, (by omega), (by omega), (hce b hbP).1, ?_⟩
  show zq_G _ _ _ _ _ 38 ([(0, .ref 0), (1, .int (nI a)), (2, .int (nI b))], [.int (nI (cn b))], XH tx (nI Z) (nI P, nI C, nI R, nI L, hs, ss, cs, gs, vs) dr rd (nI D, sm, nI N, nI K, ce, de, ke, se) i0 i1 kp dd tr m)
  refine zq_callS (av := [.int (nI (cn b))]) (rest := []) (by decide +kernel) k11_150 (c_isInSquare (a := (cn b)) (by omega)) rfl rfl ?_
  show zq_G _ _ _ _ _ 41 ([(0, .ref 0), (1, .int (nI a)), (2, .int (nI b))], [.int (zb ((cn b) < 25))], XH tx (nI Z) (nI P, nI C, nI R, nI L, hs, ss, cs, gs, vs) dr rd (nI D, sm, nI N, nI K, ce, de, ke, se) i0 i1 kp dd tr m)
  refine zq_ifz .eq 58 (¬ ((cn b) < 25)) (by decide +kernel) (zb_eq _) (fun c41 => ?_) (fun c41 => ?_)
  · show zq_G _ _ _ _ _ 58 ([(0, .ref 0), (1, .int (nI a)), (2, .int (nI b))], [], XH tx (nI Z) (nI P, nI C, nI R, nI L, hs, ss, cs, gs, vs) dr rd (nI D, sm, nI N, nI K, ce, de, ke, se) i0 i1 kp dd tr m)
    refine zq_b [zq_k (-1)] [zq_kchk (-1)] 59 rfl (by decide +kernel) ?_
    show zq_G _ _ _ _ _ 59 ([(0, .ref 0), (1, .int (nI a)), (2, .int (nI b))], [.int (-1)], XH tx (nI Z) (nI P, nI C, nI R, nI L, hs, ss, cs, gs, vs) dr rd (nI D, sm, nI N, nI K, ce, de, ke, se) i0 i1 kp dd tr m)
    exact zq_iret (by decide +kernel) rfl rfl rfl
  · show zq_G _ _ _ _ _ 44 ([(0, .ref 0), (1, .int (nI a)), (2, .int (nI b))], [], XH tx (nI Z) (nI P, nI C, nI R, nI L, hs, ss, cs, gs, vs) dr rd (nI D, sm, nI N, nI K, ce, de, ke, se) i0 i1 kp dd tr m)
    refine zq_b [zq_al 0, zq_get 11 5, zq_get 5 5, zq_il 1, zq_iald a (nI (cn a)), zq_k 26] [zq_alchk 0, zq_getchk 11 5, zq_getchk 5 5, zq_ilchk 1, zq_is .iaload 1, zq_kchk 26] 55 rfl (by decide +kernel) ?_
    refine ⟨rfl, (by omega), (by omega), (hce a ha).1, ?_⟩
    show zq_G _ _ _ _ _ 55 ([(0, .ref 0), (1, .int (nI a)), (2, .int (nI b))], [.int 26, .int (nI (cn a))], XH tx (nI Z) (nI P, nI C, nI R, nI L, hs, ss, cs, gs, vs) dr rd (nI D, sm, nI N, nI K, ce, de, ke, se) i0 i1 kp dd tr m)
    refine zq_if .ne 60 (¬ (cn a) = 26) (by decide +kernel) (zq_cne (a := cn a) (b := 26) (by omega) (by omega)) (fun c55 => ?_) (fun c55 => ?_)
    · show zq_G _ _ _ _ _ 60 ([(0, .ref 0), (1, .int (nI a)), (2, .int (nI b))], [], XH tx (nI Z) (nI P, nI C, nI R, nI L, hs, ss, cs, gs, vs) dr rd (nI D, sm, nI N, nI K, ce, de, ke, se) i0 i1 kp dd tr m)
      exact absurd hb (by omega)
    · show zq_G _ _ _ _ _ 58 ([(0, .ref 0), (1, .int (nI a)), (2, .int (nI b))], [], XH tx (nI Z) (nI P, nI C, nI R, nI L, hs, ss, cs, gs, vs) dr rd (nI D, sm, nI N, nI K, ce, de, ke, se) i0 i1 kp dd tr m)
      refine zq_b [zq_k (-1)] [zq_kchk (-1)] 59 rfl (by decide +kernel) ?_
      show zq_G _ _ _ _ _ 59 ([(0, .ref 0), (1, .int (nI a)), (2, .int (nI b))], [.int (-1)], XH tx (nI Z) (nI P, nI C, nI R, nI L, hs, ss, cs, gs, vs) dr rd (nI D, sm, nI N, nI K, ce, de, ke, se) i0 i1 kp dd tr m)
      exact zq_iret (by decide +kernel) rfl rfl rfl
set_option maxHeartbeats 4000000 in
set_option maxRecDepth 100000 in
theorem x_blocks {a : Nat} {b : Nat} (ha : a < P) (hbP : b < P) (hab : ¬ a = b) (hP : P ≤ 6) (hce : ∀ j, j < P → ce j = nI (cn j) ∧ cn j ≤ 26) (hb : cn b < 25 ∧ ¬ cn a = 26) : zq_P l mX11_blocks 3 [.ref 0, .int (nI a), .int (nI b)] (XH tx (nI Z) (nI P, nI C, nI R, nI L, hs, ss, cs, gs, vs) dr rd (nI D, sm, nI N, nI K, ce, de, ke, se) i0 i1 kp dd tr m) (some (.int (orB (fun c => !bareB P hs sm (zcm (nI a) c cn) b) 25))) (XH tx (nI Z) (nI P, nI C, nI R, nI L, hs, ss, cs, gs, vs) dr rd (nI D, sm, nI N, nI K, ce, de, ke, se) i0 i1 kp dd tr m) := by
  refine zq_start (by decide +kernel) rfl (Nat.le_of_ble_eq_true rfl) ?_
  show zq_G _ _ _ _ _ 0 ([(0, .ref 0), (1, .int (nI a)), (2, .int (nI b))], [], XH tx (nI Z) (nI P, nI C, nI R, nI L, hs, ss, cs, gs, vs) dr rd (nI D, sm, nI N, nI K, ce, de, ke, se) i0 i1 kp dd tr m)
  have hca := (hce a ha).2
  have hcb := (hce b hbP).2
  refine zq_b [zq_al 0, zq_get 11 2, zq_il 1] [zq_alchk 0, zq_getchk 11 2, zq_ilchk 1] 5 rfl (by decide +kernel) ?_
  show zq_G _ _ _ _ _ 5 ([(0, .ref 0), (1, .int (nI a)), (2, .int (nI b))], [.int (nI a), .ref 2], XH tx (nI Z) (nI P, nI C, nI R, nI L, hs, ss, cs, gs, vs) dr rd (nI D, sm, nI N, nI K, ce, de, ke, se) i0 i1 kp dd tr m)
  refine zq_callV (av := [.int (nI a)]) (rest := []) (by decide +kernel) k11_105 (x_hasPersonN (p := a) hP (by omega)) rfl rfl rfl rfl ?_
  show zq_G _ _ _ _ _ 8 ([(0, .ref 0), (1, .int (nI a)), (2, .int (nI b))], [.int (zb (a < P))], XH tx (nI Z) (nI P, nI C, nI R, nI L, hs, ss, cs, gs, vs) dr rd (nI D, sm, nI N, nI K, ce, de, ke, se) i0 i1 kp dd tr m)
  refine zq_ifz .eq 27 (¬ (a < P)) (by decide +kernel) (zb_eq _) (fun c8 => absurd c8 (by omega)) (fun c8 => ?_)
  show zq_G _ _ _ _ _ 11 ([(0, .ref 0), (1, .int (nI a)), (2, .int (nI b))], [], XH tx (nI Z) (nI P, nI C, nI R, nI L, hs, ss, cs, gs, vs) dr rd (nI D, sm, nI N, nI K, ce, de, ke, se) i0 i1 kp dd tr m)
  refine zq_b [zq_al 0, zq_get 11 2, zq_il 2] [zq_alchk 0, zq_getchk 11 2, zq_ilchk 2] 16 rfl (by decide +kernel) ?_
  show zq_G _ _ _ _ _ 16 ([(0, .ref 0), (1, .int (nI a)), (2, .int (nI b))], [.int (nI b), .ref 2], XH tx (nI Z) (nI P, nI C, nI R, nI L, hs, ss, cs, gs, vs) dr rd (nI D, sm, nI N, nI K, ce, de, ke, se) i0 i1 kp dd tr m)
  refine zq_callV (av := [.int (nI b)]) (rest := []) (by decide +kernel) k11_105 (x_hasPersonN (p := b) hP (by omega)) rfl rfl rfl rfl ?_
  show zq_G _ _ _ _ _ 19 ([(0, .ref 0), (1, .int (nI a)), (2, .int (nI b))], [.int (zb (b < P))], XH tx (nI Z) (nI P, nI C, nI R, nI L, hs, ss, cs, gs, vs) dr rd (nI D, sm, nI N, nI K, ce, de, ke, se) i0 i1 kp dd tr m)
  refine zq_ifz .eq 27 (¬ (b < P)) (by decide +kernel) (zb_eq _) (fun c19 => absurd c19 (by omega)) (fun c19 => ?_)
  show zq_G _ _ _ _ _ 22 ([(0, .ref 0), (1, .int (nI a)), (2, .int (nI b))], [], XH tx (nI Z) (nI P, nI C, nI R, nI L, hs, ss, cs, gs, vs) dr rd (nI D, sm, nI N, nI K, ce, de, ke, se) i0 i1 kp dd tr m)
  refine zq_b [zq_il 1, zq_il 2] [zq_ilchk 1, zq_ilchk 2] 24 rfl (by decide +kernel) ?_
  show zq_G _ _ _ _ _ 24 ([(0, .ref 0), (1, .int (nI a)), (2, .int (nI b))], [.int (nI b), .int (nI a)], XH tx (nI Z) (nI P, nI C, nI R, nI L, hs, ss, cs, gs, vs) dr rd (nI D, sm, nI N, nI K, ce, de, ke, se) i0 i1 kp dd tr m)
  refine zq_if .ne 29 (¬ a = b) (by decide +kernel) (zq_cne (a := a) (b := b) (by omega) (by omega)) (fun c24 => ?_) (fun c24 => absurd (by omega) c24)
  show zq_G _ _ _ _ _ 29 ([(0, .ref 0), (1, .int (nI a)), (2, .int (nI b))], [], XH tx (nI Z) (nI P, nI C, nI R, nI L, hs, ss, cs, gs, vs) dr rd (nI D, sm, nI N, nI K, ce, de, ke, se) i0 i1 kp dd tr m)
  refine zq_b [zq_al 0, zq_get 11 5, zq_get 5 5, zq_il 2, zq_iald b (nI (cn b))] [zq_alchk 0, zq_getchk 11 5, zq_getchk 5 5, zq_ilchk 2, zq_is .iaload 1] 38 rfl (by decide +kernel) ?_
  refine ⟨rfl, (by omega), (by omega), (hce b hbP).1, ?_⟩
  show zq_G _ _ _ _ _ 38 ([(0, .ref 0), (1, .int (nI a)), (2, .int (nI b))], [.int (nI (cn b))], XH tx (nI Z) (nI P, nI C, nI R, nI L, hs, ss, cs, gs, vs) dr rd (nI D, sm, nI N, nI K, ce, de, ke, se) i0 i1 kp dd tr m)
  refine zq_callS (av := [.int (nI (cn b))]) (rest := []) (by decide +kernel) k11_150 (c_isInSquare (a := (cn b)) (by omega)) rfl rfl ?_
  show zq_G _ _ _ _ _ 41 ([(0, .ref 0), (1, .int (nI a)), (2, .int (nI b))], [.int (zb ((cn b) < 25))], XH tx (nI Z) (nI P, nI C, nI R, nI L, hs, ss, cs, gs, vs) dr rd (nI D, sm, nI N, nI K, ce, de, ke, se) i0 i1 kp dd tr m)
  refine zq_ifz .eq 58 (¬ ((cn b) < 25)) (by decide +kernel) (zb_eq _) (fun c41 => absurd c41 (by omega)) (fun c41 => ?_)
  show zq_G _ _ _ _ _ 44 ([(0, .ref 0), (1, .int (nI a)), (2, .int (nI b))], [], XH tx (nI Z) (nI P, nI C, nI R, nI L, hs, ss, cs, gs, vs) dr rd (nI D, sm, nI N, nI K, ce, de, ke, se) i0 i1 kp dd tr m)
  refine zq_b [zq_al 0, zq_get 11 5, zq_get 5 5, zq_il 1, zq_iald a (nI (cn a)), zq_k 26] [zq_alchk 0, zq_getchk 11 5, zq_getchk 5 5, zq_ilchk 1, zq_is .iaload 1, zq_kchk 26] 55 rfl (by decide +kernel) ?_
  refine ⟨rfl, (by omega), (by omega), (hce a ha).1, ?_⟩
  show zq_G _ _ _ _ _ 55 ([(0, .ref 0), (1, .int (nI a)), (2, .int (nI b))], [.int 26, .int (nI (cn a))], XH tx (nI Z) (nI P, nI C, nI R, nI L, hs, ss, cs, gs, vs) dr rd (nI D, sm, nI N, nI K, ce, de, ke, se) i0 i1 kp dd tr m)
  refine zq_if .ne 60 (¬ (cn a) = 26) (by decide +kernel) (zq_cne (a := cn a) (b := 26) (by omega) (by omega)) (fun c55 => ?_) (fun c55 => absurd (by omega) c55)
  show zq_G _ _ _ _ _ 60 ([(0, .ref 0), (1, .int (nI a)), (2, .int (nI b))], [], XH tx (nI Z) (nI P, nI C, nI R, nI L, hs, ss, cs, gs, vs) dr rd (nI D, sm, nI N, nI K, ce, de, ke, se) i0 i1 kp dd tr m)
  refine zq_b [zq_k 0, zq_is1 3, zq_k 0, zq_is1 4] [zq_kchk 0, zq_is1chk 3, zq_kchk 0, zq_is1chk 4] 65 rfl (by decide +kernel) ?_
  show zq_G _ _ _ _ _ 65 ([(0, .ref 0), (1, .int (nI a)), (2, .int (nI b)), (3, .int 0), (4, .int 0)], [], XH tx (nI Z) (nI P, nI C, nI R, nI L, hs, ss, cs, gs, vs) dr rd (nI D, sm, nI N, nI K, ce, de, ke, se) i0 i1 kp dd tr m)
  refine zq_loop (fun i => ([(0, .ref 0), (1, .int (nI a)), (2, .int (nI b)), (3, .int (orB (fun c => !bareB P hs sm (zcm (nI a) c cn) b) i)), (4, .int (nI i))], [], XH tx (nI Z) (nI P, nI C, nI R, nI L, hs, ss, cs, gs, vs) dr rd (nI D, sm, nI N, nI K, ce, de, ke, se) i0 i1 kp dd tr m)) (fun i => True) (25) (0) (by omega) (trivial) (fun i hl65 hi65 hI65 ih65 => ?_) (fun hI65 => ?_)
  · show zq_G _ _ _ _ _ 65 ([(0, .ref 0), (1, .int (nI a)), (2, .int (nI b)), (3, .int (orB (fun c => !bareB P hs sm (zcm (nI a) c cn) b) i)), (4, .int (nI i))], [], XH tx (nI Z) (nI P, nI C, nI R, nI L, hs, ss, cs, gs, vs) dr rd (nI D, sm, nI N, nI K, ce, de, ke, se) i0 i1 kp dd tr m)
    refine zq_b [zq_il 4, zq_k 25] [zq_ilchk 4, zq_kchk 25] 69 rfl (by decide +kernel) ?_
    show zq_G _ _ _ _ _ 69 ([(0, .ref 0), (1, .int (nI a)), (2, .int (nI b)), (3, .int (orB (fun c => !bareB P hs sm (zcm (nI a) c cn) b) i)), (4, .int (nI i))], [.int 25, .int (nI i)], XH tx (nI Z) (nI P, nI C, nI R, nI L, hs, ss, cs, gs, vs) dr rd (nI D, sm, nI N, nI K, ce, de, ke, se) i0 i1 kp dd tr m)
    refine zq_if .ge 99 (25 ≤ i) (by decide +kernel) (zq_cge (a := i) (b := 25) (by omega) (by omega)) (fun c69 => absurd c69 (by omega)) (fun c69 => ?_)
    show zq_G _ _ _ _ _ 72 ([(0, .ref 0), (1, .int (nI a)), (2, .int (nI b)), (3, .int (orB (fun c => !bareB P hs sm (zcm (nI a) c cn) b) i)), (4, .int (nI i))], [], XH tx (nI Z) (nI P, nI C, nI R, nI L, hs, ss, cs, gs, vs) dr rd (nI D, sm, nI N, nI K, ce, de, ke, se) i0 i1 kp dd tr m)
    refine zq_b [zq_al 0, zq_get 11 5, zq_il 2, zq_il 1, zq_il 4] [zq_alchk 0, zq_getchk 11 5, zq_ilchk 2, zq_ilchk 1, zq_ilchk 4] 80 rfl (by decide +kernel) ?_
    show zq_G _ _ _ _ _ 80 ([(0, .ref 0), (1, .int (nI a)), (2, .int (nI b)), (3, .int (orB (fun c => !bareB P hs sm (zcm (nI a) c cn) b) i)), (4, .int (nI i))], [.int (nI i), .int (nI a), .int (nI b), .ref 15], XH tx (nI Z) (nI P, nI C, nI R, nI L, hs, ss, cs, gs, vs) dr rd (nI D, sm, nI N, nI K, ce, de, ke, se) i0 i1 kp dd tr m)
    refine zq_callV (av := [.int (nI b), .int (nI a), .int (nI i)]) (rest := []) (by decide +kernel) k11_190 (c_shows (p := b) (mv := (nI a)) (wc := i) (by omega) (by omega) hP hce) rfl rfl rfl rfl ?_
    show zq_G _ _ _ _ _ 83 ([(0, .ref 0), (1, .int (nI a)), (2, .int (nI b)), (3, .int (orB (fun c => !bareB P hs sm (zcm (nI a) c cn) b) i)), (4, .int (nI i))], [.int (zb (bareB P hs sm (zcm (nI a) i cn) b = true))], XH tx (nI Z) (nI P, nI C, nI R, nI L, hs, ss, cs, gs, vs) dr rd (nI D, sm, nI N, nI K, ce, de, ke, se) i0 i1 kp dd tr m)
    refine zq_ifz .ne 93 (bareB P hs sm (zcm (nI a) i cn) b = true) (by decide +kernel) (zb_ne _) (fun c83 => ?_) (fun c83 => ?_)
    · show zq_G _ _ _ _ _ 93 ([(0, .ref 0), (1, .int (nI a)), (2, .int (nI b)), (3, .int (orB (fun c => !bareB P hs sm (zcm (nI a) c cn) b) i)), (4, .int (nI i))], [], XH tx (nI Z) (nI P, nI C, nI R, nI L, hs, ss, cs, gs, vs) dr rd (nI D, sm, nI N, nI K, ce, de, ke, se) i0 i1 kp dd tr m)
      refine zq_b [zq_inc 4 1 (nI (i + 1)), zq_go] [zq_incchk 4 1, zq_gochk] 65 rfl (by decide +kernel) ?_
      refine ⟨nI_add i 1, ?_⟩
      show zq_G _ _ _ _ _ 65 ([(0, .ref 0), (1, .int (nI a)), (2, .int (nI b)), (3, .int (orB (fun c => !bareB P hs sm (zcm (nI a) c cn) b) i)), (4, .int (nI (i + 1)))], [], XH tx (nI Z) (nI P, nI C, nI R, nI L, hs, ss, cs, gs, vs) dr rd (nI D, sm, nI N, nI K, ce, de, ke, se) i0 i1 kp dd tr m)
      exact zq_eq (by rw [orB_f (f := (fun c => !bareB P hs sm (zcm (nI a) c cn) b)) (by simp [c83])]) (ih65 trivial)
    · show zq_G _ _ _ _ _ 86 ([(0, .ref 0), (1, .int (nI a)), (2, .int (nI b)), (3, .int (orB (fun c => !bareB P hs sm (zcm (nI a) c cn) b) i)), (4, .int (nI i))], [], XH tx (nI Z) (nI P, nI C, nI R, nI L, hs, ss, cs, gs, vs) dr rd (nI D, sm, nI N, nI K, ce, de, ke, se) i0 i1 kp dd tr m)
      refine zq_b [zq_il 3, zq_k 1, zq_il 4, zq_ishl (1 <<< (nI i &&& 31)), zq_ior ((orB (fun c => !bareB P hs sm (zcm (nI a) c cn) b) i) ||| (1 <<< (nI i &&& 31))), zq_is1 3, zq_inc 4 1 (nI (i + 1)), zq_go] [zq_ilchk 3, zq_kchk 1, zq_ilchk 4, zq_is .ishl 1, zq_is .ior 1, zq_is1chk 3, zq_incchk 4 1, zq_gochk] 65 rfl (by decide +kernel) ?_
      refine ⟨rfl, rfl, nI_add i 1, ?_⟩
      show zq_G _ _ _ _ _ 65 ([(0, .ref 0), (1, .int (nI a)), (2, .int (nI b)), (3, .int ((orB (fun c => !bareB P hs sm (zcm (nI a) c cn) b) i) ||| (1 <<< (nI i &&& 31)))), (4, .int (nI (i + 1)))], [], XH tx (nI Z) (nI P, nI C, nI R, nI L, hs, ss, cs, gs, vs) dr rd (nI D, sm, nI N, nI K, ce, de, ke, se) i0 i1 kp dd tr m)
      exact zq_eq (by rw [orB_t (f := (fun c => !bareB P hs sm (zcm (nI a) c cn) b)) (by simp [eq_false_of_ne_true c83])]) (ih65 trivial)
  · show zq_G _ _ _ _ _ 65 ([(0, .ref 0), (1, .int (nI a)), (2, .int (nI b)), (3, .int (orB (fun c => !bareB P hs sm (zcm (nI a) c cn) b) 25)), (4, .int 25)], [], XH tx (nI Z) (nI P, nI C, nI R, nI L, hs, ss, cs, gs, vs) dr rd (nI D, sm, nI N, nI K, ce, de, ke, se) i0 i1 kp dd tr m)
    refine zq_b [zq_il 4, zq_k 25] [zq_ilchk 4, zq_kchk 25] 69 rfl (by decide +kernel) ?_
    show zq_G _ _ _ _ _ 69 ([(0, .ref 0), (1, .int (nI a)), (2, .int (nI b)), (3, .int (orB (fun c => !bareB P hs sm (zcm (nI a) c cn) b) 25)), (4, .int 25)], [.int 25, .int 25], XH tx (nI Z) (nI P, nI C, nI R, nI L, hs, ss, cs, gs, vs) dr rd (nI D, sm, nI N, nI K, ce, de, ke, se) i0 i1 kp dd tr m)
    refine zq_if .ge 99 (25 ≤ 25) (by decide +kernel) (zq_cge (a := 25) (b := 25) (by omega) (by omega)) (fun c69 => ?_) (fun c69 => absurd (by omega) c69)
    show zq_G _ _ _ _ _ 99 ([(0, .ref 0), (1, .int (nI a)), (2, .int (nI b)), (3, .int (orB (fun c => !bareB P hs sm (zcm (nI a) c cn) b) 25)), (4, .int 25)], [], XH tx (nI Z) (nI P, nI C, nI R, nI L, hs, ss, cs, gs, vs) dr rd (nI D, sm, nI N, nI K, ce, de, ke, se) i0 i1 kp dd tr m)
    refine zq_b [zq_il 3] [zq_ilchk 3] 100 rfl (by decide +kernel) ?_
    show zq_G _ _ _ _ _ 100 ([(0, .ref 0), (1, .int (nI a)), (2, .int (nI b)), (3, .int (orB (fun c => !bareB P hs sm (zcm (nI a) c cn) b) 25)), (4, .int 25)], [.int (orB (fun c => !bareB P hs sm (zcm (nI a) c cn) b) 25)], XH tx (nI Z) (nI P, nI C, nI R, nI L, hs, ss, cs, gs, vs) dr rd (nI D, sm, nI N, nI K, ce, de, ke, se) i0 i1 kp dd tr m)
    exact zq_iret (by decide +kernel) rfl rfl rfl
set_option maxHeartbeats 4000000 in
set_option maxRecDepth 100000 in
theorem x_hides_bad {x : Int32} (hP : P ≤ 6) (hb : ¬ (0 ≤ x.toInt ∧ x.toInt < (P : Int))) : zq_P l mX11_hides 1 [.ref 0, .int x] (XH tx (nI Z) (nI P, nI C, nI R, nI L, hs, ss, cs, gs, vs) dr rd (nI D, sm, nI N, nI K, ce, de, ke, se) i0 i1 kp dd tr m) (some (.int (-1))) (XH tx (nI Z) (nI P, nI C, nI R, nI L, hs, ss, cs, gs, vs) dr rd (nI D, sm, nI N, nI K, ce, de, ke, se) i0 i1 kp dd tr m) := by
  refine zq_start (by decide +kernel) rfl (Nat.le_of_ble_eq_true rfl) ?_
  show zq_G _ _ _ _ _ 0 ([(0, .ref 0), (1, .int x)], [], XH tx (nI Z) (nI P, nI C, nI R, nI L, hs, ss, cs, gs, vs) dr rd (nI D, sm, nI N, nI K, ce, de, ke, se) i0 i1 kp dd tr m)
  refine zq_b [zq_al 0, zq_get 11 2, zq_il 1] [zq_alchk 0, zq_getchk 11 2, zq_ilchk 1] 5 rfl (by decide +kernel) ?_
  show zq_G _ _ _ _ _ 5 ([(0, .ref 0), (1, .int x)], [.int x, .ref 2], XH tx (nI Z) (nI P, nI C, nI R, nI L, hs, ss, cs, gs, vs) dr rd (nI D, sm, nI N, nI K, ce, de, ke, se) i0 i1 kp dd tr m)
  refine zq_callV (av := [.int x]) (rest := []) (by decide +kernel) k11_105 (x_hasPerson (p := x) hP) rfl rfl rfl rfl ?_
  show zq_G _ _ _ _ _ 8 ([(0, .ref 0), (1, .int x)], [.int (zb (0 ≤ x.toInt ∧ x.toInt < (P : Int)))], XH tx (nI Z) (nI P, nI C, nI R, nI L, hs, ss, cs, gs, vs) dr rd (nI D, sm, nI N, nI K, ce, de, ke, se) i0 i1 kp dd tr m)
  refine zq_ifz .ne 13 (0 ≤ x.toInt ∧ x.toInt < (P : Int)) (by decide +kernel) (zb_ne _) (fun c8 => ?_) (fun c8 => ?_)
  · show zq_G _ _ _ _ _ 13 ([(0, .ref 0), (1, .int x)], [], XH tx (nI Z) (nI P, nI C, nI R, nI L, hs, ss, cs, gs, vs) dr rd (nI D, sm, nI N, nI K, ce, de, ke, se) i0 i1 kp dd tr m)
    exact absurd hb (by omega)
  · show zq_G _ _ _ _ _ 11 ([(0, .ref 0), (1, .int x)], [], XH tx (nI Z) (nI P, nI C, nI R, nI L, hs, ss, cs, gs, vs) dr rd (nI D, sm, nI N, nI K, ce, de, ke, se) i0 i1 kp dd tr m)
    refine zq_b [zq_k (-1)] [zq_kchk (-1)] 12 rfl (by decide +kernel) ?_
    show zq_G _ _ _ _ _ 12 ([(0, .ref 0), (1, .int x)], [.int (-1)], XH tx (nI Z) (nI P, nI C, nI R, nI L, hs, ss, cs, gs, vs) dr rd (nI D, sm, nI N, nI K, ce, de, ke, se) i0 i1 kp dd tr m)
    exact zq_iret (by decide +kernel) rfl rfl rfl
set_option maxHeartbeats 4000000 in
set_option maxRecDepth 100000 in
theorem x_hides {a : Nat} (ha : a < P) (hP : P ≤ 6) (hce : ∀ j, j < P → ce j = nI (cn j) ∧ cn j ≤ 26) : zq_P l mX11_hides 5 [.ref 0, .int (nI a)] (XH tx (nI Z) (nI P, nI C, nI R, nI L, hs, ss, cs, gs, vs) dr rd (nI D, sm, nI N, nI K, ce, de, ke, se) i0 i1 kp dd tr m) (some (.int (orB (bareB P hs sm (zcm (nI a) 25 cn)) P &&& (orB (bareB P hs sm cn) P ^^^ -1)))) (XH tx (nI Z) (nI P, nI C, nI R, nI L, hs, ss, cs, gs, vs) dr rd (nI D, sm, nI N, nI K, ce, de, ke, se) i0 i1 kp dd tr m) := by
  refine zq_start (by decide +kernel) rfl (Nat.le_of_ble_eq_true rfl) ?_
  show zq_G _ _ _ _ _ 0 ([(0, .ref 0), (1, .int (nI a))], [], XH tx (nI Z) (nI P, nI C, nI R, nI L, hs, ss, cs, gs, vs) dr rd (nI D, sm, nI N, nI K, ce, de, ke, se) i0 i1 kp dd tr m)
  refine zq_b [zq_al 0, zq_get 11 2, zq_il 1] [zq_alchk 0, zq_getchk 11 2, zq_ilchk 1] 5 rfl (by decide +kernel) ?_
  show zq_G _ _ _ _ _ 5 ([(0, .ref 0), (1, .int (nI a))], [.int (nI a), .ref 2], XH tx (nI Z) (nI P, nI C, nI R, nI L, hs, ss, cs, gs, vs) dr rd (nI D, sm, nI N, nI K, ce, de, ke, se) i0 i1 kp dd tr m)
  refine zq_callV (av := [.int (nI a)]) (rest := []) (by decide +kernel) k11_105 (x_hasPersonN (p := a) hP (by omega)) rfl rfl rfl rfl ?_
  show zq_G _ _ _ _ _ 8 ([(0, .ref 0), (1, .int (nI a))], [.int (zb (a < P))], XH tx (nI Z) (nI P, nI C, nI R, nI L, hs, ss, cs, gs, vs) dr rd (nI D, sm, nI N, nI K, ce, de, ke, se) i0 i1 kp dd tr m)
  refine zq_ifz .ne 13 (a < P) (by decide +kernel) (zb_ne _) (fun c8 => ?_) (fun c8 => absurd (by omega) c8)
  show zq_G _ _ _ _ _ 13 ([(0, .ref 0), (1, .int (nI a))], [], XH tx (nI Z) (nI P, nI C, nI R, nI L, hs, ss, cs, gs, vs) dr rd (nI D, sm, nI N, nI K, ce, de, ke, se) i0 i1 kp dd tr m)
  refine zq_b [zq_al 0, zq_get 11 5, zq_il 1, zq_k 25] [zq_alchk 0, zq_getchk 11 5, zq_ilchk 1, zq_kchk 25] 20 rfl (by decide +kernel) ?_
  show zq_G _ _ _ _ _ 20 ([(0, .ref 0), (1, .int (nI a))], [.int 25, .int (nI a), .ref 15], XH tx (nI Z) (nI P, nI C, nI R, nI L, hs, ss, cs, gs, vs) dr rd (nI D, sm, nI N, nI K, ce, de, ke, se) i0 i1 kp dd tr m)
  refine zq_callV (av := [.int (nI a), .int 25]) (rest := []) (by decide +kernel) k11_194 (c_shownIf (mv := (nI a)) (wc := 25) (by omega) hP hce) rfl rfl rfl rfl ?_
  show zq_G _ _ _ _ _ 23 ([(0, .ref 0), (1, .int (nI a))], [.int (orB (bareB P hs sm (zcm (nI a) 25 cn)) P)], XH tx (nI Z) (nI P, nI C, nI R, nI L, hs, ss, cs, gs, vs) dr rd (nI D, sm, nI N, nI K, ce, de, ke, se) i0 i1 kp dd tr m)
  refine zq_b [zq_al 0, zq_get 11 5] [zq_alchk 0, zq_getchk 11 5] 27 rfl (by decide +kernel) ?_
  show zq_G _ _ _ _ _ 27 ([(0, .ref 0), (1, .int (nI a))], [.ref 15, .int (orB (bareB P hs sm (zcm (nI a) 25 cn)) P)], XH tx (nI Z) (nI P, nI C, nI R, nI L, hs, ss, cs, gs, vs) dr rd (nI D, sm, nI N, nI K, ce, de, ke, se) i0 i1 kp dd tr m)
  refine zq_callV (av := []) (rest := [.int (orB (bareB P hs sm (zcm (nI a) 25 cn)) P)]) (by decide +kernel) k11_197 (c_shown hP hce) rfl rfl rfl rfl ?_
  show zq_G _ _ _ _ _ 30 ([(0, .ref 0), (1, .int (nI a))], [.int (orB (bareB P hs sm cn) P), .int (orB (bareB P hs sm (zcm (nI a) 25 cn)) P)], XH tx (nI Z) (nI P, nI C, nI R, nI L, hs, ss, cs, gs, vs) dr rd (nI D, sm, nI N, nI K, ce, de, ke, se) i0 i1 kp dd tr m)
  refine zq_b [zq_k (-1), zq_ixor ((orB (bareB P hs sm cn) P) ^^^ (-1)), zq_iand ((orB (bareB P hs sm (zcm (nI a) 25 cn)) P) &&& ((orB (bareB P hs sm cn) P) ^^^ (-1)))] [zq_kchk (-1), zq_is .ixor 1, zq_is .iand 1] 33 rfl (by decide +kernel) ?_
  refine ⟨rfl, rfl, ?_⟩
  show zq_G _ _ _ _ _ 33 ([(0, .ref 0), (1, .int (nI a))], [.int ((orB (bareB P hs sm (zcm (nI a) 25 cn)) P) &&& ((orB (bareB P hs sm cn) P) ^^^ (-1)))], XH tx (nI Z) (nI P, nI C, nI R, nI L, hs, ss, cs, gs, vs) dr rd (nI D, sm, nI N, nI K, ce, de, ke, se) i0 i1 kp dd tr m)
  exact zq_iret (by decide +kernel) rfl rfl rfl
set_option maxHeartbeats 4000000 in
set_option maxRecDepth 100000 in
theorem x_stood_bad {x : Int32} {y : Int32} (hD : D ≤ 99) (hb : ¬ (0 ≤ x.toInt ∧ x.toInt < (D : Int) ∧ 1 ≤ y.toInt ∧ y.toInt ≤ 9)) : zq_P l mX11_stood 1 [.ref 0, .int x, .int y] (XH tx (nI Z) (nI P, nI C, nI R, nI L, hs, ss, cs, gs, vs) dr rd (nI D, sm, nI N, nI K, ce, de, ke, se) i0 i1 kp dd tr m) (some (.int (-1))) (XH tx (nI Z) (nI P, nI C, nI R, nI L, hs, ss, cs, gs, vs) dr rd (nI D, sm, nI N, nI K, ce, de, ke, se) i0 i1 kp dd tr m) := by
  refine zq_start (by decide +kernel) rfl (Nat.le_of_ble_eq_true rfl) ?_
  show zq_G _ _ _ _ _ 0 ([(0, .ref 0), (1, .int x), (2, .int y)], [], XH tx (nI Z) (nI P, nI C, nI R, nI L, hs, ss, cs, gs, vs) dr rd (nI D, sm, nI N, nI K, ce, de, ke, se) i0 i1 kp dd tr m)
  refine zq_b [zq_il 1] [zq_ilchk 1] 1 rfl (by decide +kernel) ?_
  show zq_G _ _ _ _ _ 1 ([(0, .ref 0), (1, .int x), (2, .int y)], [.int x], XH tx (nI Z) (nI P, nI C, nI R, nI L, hs, ss, cs, gs, vs) dr rd (nI D, sm, nI N, nI K, ce, de, ke, se) i0 i1 kp dd tr m)
  refine zq_ifz .lt 26 (x.toInt < (0 : Int)) (by decide +kernel) (zq_tn .lt x (n := 0) (by omega)) (fun c1 => ?_) (fun c1 => ?_)
  · show zq_G _ _ _ _ _ 26 ([(0, .ref 0), (1, .int x), (2, .int y)], [], XH tx (nI Z) (nI P, nI C, nI R, nI L, hs, ss, cs, gs, vs) dr rd (nI D, sm, nI N, nI K, ce, de, ke, se) i0 i1 kp dd tr m)
    refine zq_b [zq_k (-1)] [zq_kchk (-1)] 27 rfl (by decide +kernel) ?_
    show zq_G _ _ _ _ _ 27 ([(0, .ref 0), (1, .int x), (2, .int y)], [.int (-1)], XH tx (nI Z) (nI P, nI C, nI R, nI L, hs, ss, cs, gs, vs) dr rd (nI D, sm, nI N, nI K, ce, de, ke, se) i0 i1 kp dd tr m)
    exact zq_iret (by decide +kernel) rfl rfl rfl
  · show zq_G _ _ _ _ _ 4 ([(0, .ref 0), (1, .int x), (2, .int y)], [], XH tx (nI Z) (nI P, nI C, nI R, nI L, hs, ss, cs, gs, vs) dr rd (nI D, sm, nI N, nI K, ce, de, ke, se) i0 i1 kp dd tr m)
    refine zq_b [zq_il 1, zq_al 0, zq_get 11 5, zq_get 5 1] [zq_ilchk 1, zq_alchk 0, zq_getchk 11 5, zq_getchk 5 1] 12 rfl (by decide +kernel) ?_
    show zq_G _ _ _ _ _ 12 ([(0, .ref 0), (1, .int x), (2, .int y)], [.int (nI D), .int x], XH tx (nI Z) (nI P, nI C, nI R, nI L, hs, ss, cs, gs, vs) dr rd (nI D, sm, nI N, nI K, ce, de, ke, se) i0 i1 kp dd tr m)
    refine zq_if .ge 26 ((D : Int) ≤ x.toInt) (by decide +kernel) (zq_tn .ge x (n := D) (by omega)) (fun c12 => ?_) (fun c12 => ?_)
    · show zq_G _ _ _ _ _ 26 ([(0, .ref 0), (1, .int x), (2, .int y)], [], XH tx (nI Z) (nI P, nI C, nI R, nI L, hs, ss, cs, gs, vs) dr rd (nI D, sm, nI N, nI K, ce, de, ke, se) i0 i1 kp dd tr m)
      refine zq_b [zq_k (-1)] [zq_kchk (-1)] 27 rfl (by decide +kernel) ?_
      show zq_G _ _ _ _ _ 27 ([(0, .ref 0), (1, .int x), (2, .int y)], [.int (-1)], XH tx (nI Z) (nI P, nI C, nI R, nI L, hs, ss, cs, gs, vs) dr rd (nI D, sm, nI N, nI K, ce, de, ke, se) i0 i1 kp dd tr m)
      exact zq_iret (by decide +kernel) rfl rfl rfl
    · show zq_G _ _ _ _ _ 15 ([(0, .ref 0), (1, .int x), (2, .int y)], [], XH tx (nI Z) (nI P, nI C, nI R, nI L, hs, ss, cs, gs, vs) dr rd (nI D, sm, nI N, nI K, ce, de, ke, se) i0 i1 kp dd tr m)
      refine zq_b [zq_il 2, zq_k 1] [zq_ilchk 2, zq_kchk 1] 17 rfl (by decide +kernel) ?_
      show zq_G _ _ _ _ _ 17 ([(0, .ref 0), (1, .int x), (2, .int y)], [.int 1, .int y], XH tx (nI Z) (nI P, nI C, nI R, nI L, hs, ss, cs, gs, vs) dr rd (nI D, sm, nI N, nI K, ce, de, ke, se) i0 i1 kp dd tr m)
      refine zq_if .lt 26 (y.toInt < (1 : Int)) (by decide +kernel) (zq_tn .lt y (n := 1) (by omega)) (fun c17 => ?_) (fun c17 => ?_)
      · show zq_G _ _ _ _ _ 26 ([(0, .ref 0), (1, .int x), (2, .int y)], [], XH tx (nI Z) (nI P, nI C, nI R, nI L, hs, ss, cs, gs, vs) dr rd (nI D, sm, nI N, nI K, ce, de, ke, se) i0 i1 kp dd tr m)
        refine zq_b [zq_k (-1)] [zq_kchk (-1)] 27 rfl (by decide +kernel) ?_
        show zq_G _ _ _ _ _ 27 ([(0, .ref 0), (1, .int x), (2, .int y)], [.int (-1)], XH tx (nI Z) (nI P, nI C, nI R, nI L, hs, ss, cs, gs, vs) dr rd (nI D, sm, nI N, nI K, ce, de, ke, se) i0 i1 kp dd tr m)
        exact zq_iret (by decide +kernel) rfl rfl rfl
      · show zq_G _ _ _ _ _ 20 ([(0, .ref 0), (1, .int x), (2, .int y)], [], XH tx (nI Z) (nI P, nI C, nI R, nI L, hs, ss, cs, gs, vs) dr rd (nI D, sm, nI N, nI K, ce, de, ke, se) i0 i1 kp dd tr m)
        refine zq_b [zq_il 2, zq_k 9] [zq_ilchk 2, zq_kchk 9] 23 rfl (by decide +kernel) ?_
        show zq_G _ _ _ _ _ 23 ([(0, .ref 0), (1, .int x), (2, .int y)], [.int 9, .int y], XH tx (nI Z) (nI P, nI C, nI R, nI L, hs, ss, cs, gs, vs) dr rd (nI D, sm, nI N, nI K, ce, de, ke, se) i0 i1 kp dd tr m)
        refine zq_if .le 28 (y.toInt ≤ (9 : Int)) (by decide +kernel) (zq_tn .le y (n := 9) (by omega)) (fun c23 => ?_) (fun c23 => ?_)
        · show zq_G _ _ _ _ _ 28 ([(0, .ref 0), (1, .int x), (2, .int y)], [], XH tx (nI Z) (nI P, nI C, nI R, nI L, hs, ss, cs, gs, vs) dr rd (nI D, sm, nI N, nI K, ce, de, ke, se) i0 i1 kp dd tr m)
          exact absurd hb (by omega)
        · show zq_G _ _ _ _ _ 26 ([(0, .ref 0), (1, .int x), (2, .int y)], [], XH tx (nI Z) (nI P, nI C, nI R, nI L, hs, ss, cs, gs, vs) dr rd (nI D, sm, nI N, nI K, ce, de, ke, se) i0 i1 kp dd tr m)
          refine zq_b [zq_k (-1)] [zq_kchk (-1)] 27 rfl (by decide +kernel) ?_
          show zq_G _ _ _ _ _ 27 ([(0, .ref 0), (1, .int x), (2, .int y)], [.int (-1)], XH tx (nI Z) (nI P, nI C, nI R, nI L, hs, ss, cs, gs, vs) dr rd (nI D, sm, nI N, nI K, ce, de, ke, se) i0 i1 kp dd tr m)
          exact zq_iret (by decide +kernel) rfl rfl rfl
set_option maxHeartbeats 4000000 in
set_option maxRecDepth 100000 in
theorem x_stood {b : Nat} {q : Nat} (hb2 : b < D) (hq1 : 1 ≤ q) (hq2 : q ≤ 9) (hD : D ≤ 99) (hP : P ≤ 6) : zq_P l mX11_stood 1 [.ref 0, .int (nI b), .int (nI q)] (XH tx (nI Z) (nI P, nI C, nI R, nI L, hs, ss, cs, gs, vs) dr rd (nI D, sm, nI N, nI K, ce, de, ke, se) i0 i1 kp dd tr m) (some (.int (ke b &&& orB (fun p => decide (hs p = nI q)) P))) (XH tx (nI Z) (nI P, nI C, nI R, nI L, hs, ss, cs, gs, vs) dr rd (nI D, sm, nI N, nI K, ce, de, ke, se) i0 i1 kp dd tr m) := by
  refine zq_start (by decide +kernel) rfl (Nat.le_of_ble_eq_true rfl) ?_
  show zq_G _ _ _ _ _ 0 ([(0, .ref 0), (1, .int (nI b)), (2, .int (nI q))], [], XH tx (nI Z) (nI P, nI C, nI R, nI L, hs, ss, cs, gs, vs) dr rd (nI D, sm, nI N, nI K, ce, de, ke, se) i0 i1 kp dd tr m)
  refine zq_b [zq_il 1] [zq_ilchk 1] 1 rfl (by decide +kernel) ?_
  show zq_G _ _ _ _ _ 1 ([(0, .ref 0), (1, .int (nI b)), (2, .int (nI q))], [.int (nI b)], XH tx (nI Z) (nI P, nI C, nI R, nI L, hs, ss, cs, gs, vs) dr rd (nI D, sm, nI N, nI K, ce, de, ke, se) i0 i1 kp dd tr m)
  refine zq_ifz .lt 26 (b < 0) (by decide +kernel) (zq_clt (a := b) (b := 0) (by omega) (by omega)) (fun c1 => absurd c1 (by omega)) (fun c1 => ?_)
  show zq_G _ _ _ _ _ 4 ([(0, .ref 0), (1, .int (nI b)), (2, .int (nI q))], [], XH tx (nI Z) (nI P, nI C, nI R, nI L, hs, ss, cs, gs, vs) dr rd (nI D, sm, nI N, nI K, ce, de, ke, se) i0 i1 kp dd tr m)
  refine zq_b [zq_il 1, zq_al 0, zq_get 11 5, zq_get 5 1] [zq_ilchk 1, zq_alchk 0, zq_getchk 11 5, zq_getchk 5 1] 12 rfl (by decide +kernel) ?_
  show zq_G _ _ _ _ _ 12 ([(0, .ref 0), (1, .int (nI b)), (2, .int (nI q))], [.int (nI D), .int (nI b)], XH tx (nI Z) (nI P, nI C, nI R, nI L, hs, ss, cs, gs, vs) dr rd (nI D, sm, nI N, nI K, ce, de, ke, se) i0 i1 kp dd tr m)
  refine zq_if .ge 26 (D ≤ b) (by decide +kernel) (zq_cge (a := b) (b := D) (by omega) (by omega)) (fun c12 => absurd c12 (by omega)) (fun c12 => ?_)
  show zq_G _ _ _ _ _ 15 ([(0, .ref 0), (1, .int (nI b)), (2, .int (nI q))], [], XH tx (nI Z) (nI P, nI C, nI R, nI L, hs, ss, cs, gs, vs) dr rd (nI D, sm, nI N, nI K, ce, de, ke, se) i0 i1 kp dd tr m)
  refine zq_b [zq_il 2, zq_k 1] [zq_ilchk 2, zq_kchk 1] 17 rfl (by decide +kernel) ?_
  show zq_G _ _ _ _ _ 17 ([(0, .ref 0), (1, .int (nI b)), (2, .int (nI q))], [.int 1, .int (nI q)], XH tx (nI Z) (nI P, nI C, nI R, nI L, hs, ss, cs, gs, vs) dr rd (nI D, sm, nI N, nI K, ce, de, ke, se) i0 i1 kp dd tr m)
  refine zq_if .lt 26 (q < 1) (by decide +kernel) (zq_clt (a := q) (b := 1) (by omega) (by omega)) (fun c17 => absurd c17 (by omega)) (fun c17 => ?_)
  show zq_G _ _ _ _ _ 20 ([(0, .ref 0), (1, .int (nI b)), (2, .int (nI q))], [], XH tx (nI Z) (nI P, nI C, nI R, nI L, hs, ss, cs, gs, vs) dr rd (nI D, sm, nI N, nI K, ce, de, ke, se) i0 i1 kp dd tr m)
  refine zq_b [zq_il 2, zq_k 9] [zq_ilchk 2, zq_kchk 9] 23 rfl (by decide +kernel) ?_
  show zq_G _ _ _ _ _ 23 ([(0, .ref 0), (1, .int (nI b)), (2, .int (nI q))], [.int 9, .int (nI q)], XH tx (nI Z) (nI P, nI C, nI R, nI L, hs, ss, cs, gs, vs) dr rd (nI D, sm, nI N, nI K, ce, de, ke, se) i0 i1 kp dd tr m)
  refine zq_if .le 28 (q ≤ 9) (by decide +kernel) (zq_cle (a := q) (b := 9) (by omega) (by omega)) (fun c23 => ?_) (fun c23 => absurd (by omega) c23)
  show zq_G _ _ _ _ _ 28 ([(0, .ref 0), (1, .int (nI b)), (2, .int (nI q))], [], XH tx (nI Z) (nI P, nI C, nI R, nI L, hs, ss, cs, gs, vs) dr rd (nI D, sm, nI N, nI K, ce, de, ke, se) i0 i1 kp dd tr m)
  refine zq_b [zq_al 0, zq_get 11 5, zq_il 1] [zq_alchk 0, zq_getchk 11 5, zq_ilchk 1] 33 rfl (by decide +kernel) ?_
  show zq_G _ _ _ _ _ 33 ([(0, .ref 0), (1, .int (nI b)), (2, .int (nI q))], [.int (nI b), .ref 15], XH tx (nI Z) (nI P, nI C, nI R, nI L, hs, ss, cs, gs, vs) dr rd (nI D, sm, nI N, nI K, ce, de, ke, se) i0 i1 kp dd tr m)
  refine zq_callV (av := [.int (nI b)]) (rest := []) (by decide +kernel) k11_181 (x_keptOnN (b := b) (by omega) hD) rfl rfl rfl rfl ?_
  show zq_G _ _ _ _ _ 36 ([(0, .ref 0), (1, .int (nI b)), (2, .int (nI q))], [.int (ke b)], XH tx (nI Z) (nI P, nI C, nI R, nI L, hs, ss, cs, gs, vs) dr rd (nI D, sm, nI N, nI K, ce, de, ke, se) i0 i1 kp dd tr m)
  refine zq_b [zq_al 0, zq_get 11 2, zq_il 2] [zq_alchk 0, zq_getchk 11 2, zq_ilchk 2] 41 rfl (by decide +kernel) ?_
  show zq_G _ _ _ _ _ 41 ([(0, .ref 0), (1, .int (nI b)), (2, .int (nI q))], [.int (nI q), .ref 2, .int (ke b)], XH tx (nI Z) (nI P, nI C, nI R, nI L, hs, ss, cs, gs, vs) dr rd (nI D, sm, nI N, nI K, ce, de, ke, se) i0 i1 kp dd tr m)
  refine zq_callV (av := [.int (nI q)]) (rest := [.int (ke b)]) (by decide +kernel) k11_217 (c_ofHeight (x := (nI q)) hP) rfl rfl rfl rfl ?_
  show zq_G _ _ _ _ _ 44 ([(0, .ref 0), (1, .int (nI b)), (2, .int (nI q))], [.int (orB (fun p => decide (hs p = (nI q))) P), .int (ke b)], XH tx (nI Z) (nI P, nI C, nI R, nI L, hs, ss, cs, gs, vs) dr rd (nI D, sm, nI N, nI K, ce, de, ke, se) i0 i1 kp dd tr m)
  refine zq_b [zq_iand ((ke b) &&& (orB (fun p => decide (hs p = (nI q))) P))] [zq_is .iand 1] 45 rfl (by decide +kernel) ?_
  refine ⟨rfl, ?_⟩
  show zq_G _ _ _ _ _ 45 ([(0, .ref 0), (1, .int (nI b)), (2, .int (nI q))], [.int ((ke b) &&& (orB (fun p => decide (hs p = (nI q))) P))], XH tx (nI Z) (nI P, nI C, nI R, nI L, hs, ss, cs, gs, vs) dr rd (nI D, sm, nI N, nI K, ce, de, ke, se) i0 i1 kp dd tr m)
  exact zq_iret (by decide +kernel) rfl rfl rfl
set_option maxHeartbeats 4000000 in
set_option maxRecDepth 100000 in
theorem x_days_bad {x : Int32} {y : Int32} (hP : P ≤ 6) (hb : ¬ (0 ≤ x.toInt ∧ x.toInt < (P : Int) ∧ 0 ≤ y.toInt ∧ y.toInt ≤ 2)) : zq_P l mX11_days 1 [.ref 0, .int x, .int y] (XH tx (nI Z) (nI P, nI C, nI R, nI L, hs, ss, cs, gs, vs) dr rd (nI D, sm, nI N, nI K, ce, de, ke, se) i0 i1 kp dd tr m) (some (.int (-1))) (XH tx (nI Z) (nI P, nI C, nI R, nI L, hs, ss, cs, gs, vs) dr rd (nI D, sm, nI N, nI K, ce, de, ke, se) i0 i1 kp dd tr m) := by
  refine zq_start (by decide +kernel) rfl (Nat.le_of_ble_eq_true rfl) ?_
  show zq_G _ _ _ _ _ 0 ([(0, .ref 0), (1, .int x), (2, .int y)], [], XH tx (nI Z) (nI P, nI C, nI R, nI L, hs, ss, cs, gs, vs) dr rd (nI D, sm, nI N, nI K, ce, de, ke, se) i0 i1 kp dd tr m)
  refine zq_b [zq_al 0, zq_get 11 2, zq_il 1] [zq_alchk 0, zq_getchk 11 2, zq_ilchk 1] 5 rfl (by decide +kernel) ?_
  show zq_G _ _ _ _ _ 5 ([(0, .ref 0), (1, .int x), (2, .int y)], [.int x, .ref 2], XH tx (nI Z) (nI P, nI C, nI R, nI L, hs, ss, cs, gs, vs) dr rd (nI D, sm, nI N, nI K, ce, de, ke, se) i0 i1 kp dd tr m)
  refine zq_callV (av := [.int x]) (rest := []) (by decide +kernel) k11_105 (x_hasPerson (p := x) hP) rfl rfl rfl rfl ?_
  show zq_G _ _ _ _ _ 8 ([(0, .ref 0), (1, .int x), (2, .int y)], [.int (zb (0 ≤ x.toInt ∧ x.toInt < (P : Int)))], XH tx (nI Z) (nI P, nI C, nI R, nI L, hs, ss, cs, gs, vs) dr rd (nI D, sm, nI N, nI K, ce, de, ke, se) i0 i1 kp dd tr m)
  refine zq_ifz .eq 19 (¬ (0 ≤ x.toInt ∧ x.toInt < (P : Int))) (by decide +kernel) (zb_eq _) (fun c8 => ?_) (fun c8 => ?_)
  · show zq_G _ _ _ _ _ 19 ([(0, .ref 0), (1, .int x), (2, .int y)], [], XH tx (nI Z) (nI P, nI C, nI R, nI L, hs, ss, cs, gs, vs) dr rd (nI D, sm, nI N, nI K, ce, de, ke, se) i0 i1 kp dd tr m)
    refine zq_b [zq_k (-1)] [zq_kchk (-1)] 20 rfl (by decide +kernel) ?_
    show zq_G _ _ _ _ _ 20 ([(0, .ref 0), (1, .int x), (2, .int y)], [.int (-1)], XH tx (nI Z) (nI P, nI C, nI R, nI L, hs, ss, cs, gs, vs) dr rd (nI D, sm, nI N, nI K, ce, de, ke, se) i0 i1 kp dd tr m)
    exact zq_iret (by decide +kernel) rfl rfl rfl
  · show zq_G _ _ _ _ _ 11 ([(0, .ref 0), (1, .int x), (2, .int y)], [], XH tx (nI Z) (nI P, nI C, nI R, nI L, hs, ss, cs, gs, vs) dr rd (nI D, sm, nI N, nI K, ce, de, ke, se) i0 i1 kp dd tr m)
    refine zq_b [zq_il 2, zq_k 2] [zq_ilchk 2, zq_kchk 2] 13 rfl (by decide +kernel) ?_
    show zq_G _ _ _ _ _ 13 ([(0, .ref 0), (1, .int x), (2, .int y)], [.int 2, .int y], XH tx (nI Z) (nI P, nI C, nI R, nI L, hs, ss, cs, gs, vs) dr rd (nI D, sm, nI N, nI K, ce, de, ke, se) i0 i1 kp dd tr m)
    refine zq_callS (av := [.int y, .int 2]) (rest := []) (by decide +kernel) k11_87 (x_isBeyond (x := y) (q := 2) (by omega)) rfl rfl ?_
    show zq_G _ _ _ _ _ 16 ([(0, .ref 0), (1, .int x), (2, .int y)], [.int (zb (y.toInt < 0 ∨ (2 : Int) < y.toInt))], XH tx (nI Z) (nI P, nI C, nI R, nI L, hs, ss, cs, gs, vs) dr rd (nI D, sm, nI N, nI K, ce, de, ke, se) i0 i1 kp dd tr m)
    refine zq_ifz .eq 21 (¬ (y.toInt < 0 ∨ (2 : Int) < y.toInt)) (by decide +kernel) (zb_eq _) (fun c16 => ?_) (fun c16 => ?_)
    · show zq_G _ _ _ _ _ 21 ([(0, .ref 0), (1, .int x), (2, .int y)], [], XH tx (nI Z) (nI P, nI C, nI R, nI L, hs, ss, cs, gs, vs) dr rd (nI D, sm, nI N, nI K, ce, de, ke, se) i0 i1 kp dd tr m)
      exact absurd hb (by omega)
    · show zq_G _ _ _ _ _ 19 ([(0, .ref 0), (1, .int x), (2, .int y)], [], XH tx (nI Z) (nI P, nI C, nI R, nI L, hs, ss, cs, gs, vs) dr rd (nI D, sm, nI N, nI K, ce, de, ke, se) i0 i1 kp dd tr m)
      refine zq_b [zq_k (-1)] [zq_kchk (-1)] 20 rfl (by decide +kernel) ?_
      show zq_G _ _ _ _ _ 20 ([(0, .ref 0), (1, .int x), (2, .int y)], [.int (-1)], XH tx (nI Z) (nI P, nI C, nI R, nI L, hs, ss, cs, gs, vs) dr rd (nI D, sm, nI N, nI K, ce, de, ke, se) i0 i1 kp dd tr m)
      exact zq_iret (by decide +kernel) rfl rfl rfl
set_option maxHeartbeats 4000000 in
set_option maxRecDepth 100000 in
theorem x_days_0 {a : Nat} (ha : a < P) (hP : P ≤ 6) (hD : D ≤ 99) : zq_P l mX11_days 2 [.ref 0, .int (nI a), .int 0] (XH tx (nI Z) (nI P, nI C, nI R, nI L, hs, ss, cs, gs, vs) dr rd (nI D, sm, nI N, nI K, ce, de, ke, se) i0 i1 kp dd tr m) (some (.int (nI (zct (fun d => decide (ke d &&& ((1 : Int32) <<< (nI a &&& 31)) = (1 : Int32) <<< (nI a &&& 31))) D)))) (XH tx (nI Z) (nI P, nI C, nI R, nI L, hs, ss, cs, gs, vs) dr rd (nI D, sm, nI N, nI K, ce, de, ke, se) i0 i1 kp dd tr m) := by
  refine zq_start (by decide +kernel) rfl (Nat.le_of_ble_eq_true rfl) ?_
  show zq_G _ _ _ _ _ 0 ([(0, .ref 0), (1, .int (nI a)), (2, .int 0)], [], XH tx (nI Z) (nI P, nI C, nI R, nI L, hs, ss, cs, gs, vs) dr rd (nI D, sm, nI N, nI K, ce, de, ke, se) i0 i1 kp dd tr m)
  refine zq_b [zq_al 0, zq_get 11 2, zq_il 1] [zq_alchk 0, zq_getchk 11 2, zq_ilchk 1] 5 rfl (by decide +kernel) ?_
  show zq_G _ _ _ _ _ 5 ([(0, .ref 0), (1, .int (nI a)), (2, .int 0)], [.int (nI a), .ref 2], XH tx (nI Z) (nI P, nI C, nI R, nI L, hs, ss, cs, gs, vs) dr rd (nI D, sm, nI N, nI K, ce, de, ke, se) i0 i1 kp dd tr m)
  refine zq_callV (av := [.int (nI a)]) (rest := []) (by decide +kernel) k11_105 (x_hasPersonN (p := a) hP (by omega)) rfl rfl rfl rfl ?_
  show zq_G _ _ _ _ _ 8 ([(0, .ref 0), (1, .int (nI a)), (2, .int 0)], [.int (zb (a < P))], XH tx (nI Z) (nI P, nI C, nI R, nI L, hs, ss, cs, gs, vs) dr rd (nI D, sm, nI N, nI K, ce, de, ke, se) i0 i1 kp dd tr m)
  refine zq_ifz .eq 19 (¬ (a < P)) (by decide +kernel) (zb_eq _) (fun c8 => absurd c8 (by omega)) (fun c8 => ?_)
  show zq_G _ _ _ _ _ 11 ([(0, .ref 0), (1, .int (nI a)), (2, .int 0)], [], XH tx (nI Z) (nI P, nI C, nI R, nI L, hs, ss, cs, gs, vs) dr rd (nI D, sm, nI N, nI K, ce, de, ke, se) i0 i1 kp dd tr m)
  refine zq_b [zq_il 2, zq_k 2] [zq_ilchk 2, zq_kchk 2] 13 rfl (by decide +kernel) ?_
  show zq_G _ _ _ _ _ 13 ([(0, .ref 0), (1, .int (nI a)), (2, .int 0)], [.int 2, .int 0], XH tx (nI Z) (nI P, nI C, nI R, nI L, hs, ss, cs, gs, vs) dr rd (nI D, sm, nI N, nI K, ce, de, ke, se) i0 i1 kp dd tr m)
  refine zq_callS (av := [.int 0, .int 2]) (rest := []) (by decide +kernel) k11_87 (x_isBeyondN (p := 0) (q := 2) (by omega) (by omega)) rfl rfl ?_
  show zq_G _ _ _ _ _ 16 ([(0, .ref 0), (1, .int (nI a)), (2, .int 0)], [.int (zb (2 < 0))], XH tx (nI Z) (nI P, nI C, nI R, nI L, hs, ss, cs, gs, vs) dr rd (nI D, sm, nI N, nI K, ce, de, ke, se) i0 i1 kp dd tr m)
  refine zq_ifz .eq 21 (¬ (2 < 0)) (by decide +kernel) (zb_eq _) (fun c16 => ?_) (fun c16 => absurd (by omega) c16)
  show zq_G _ _ _ _ _ 21 ([(0, .ref 0), (1, .int (nI a)), (2, .int 0)], [], XH tx (nI Z) (nI P, nI C, nI R, nI L, hs, ss, cs, gs, vs) dr rd (nI D, sm, nI N, nI K, ce, de, ke, se) i0 i1 kp dd tr m)
  refine zq_b [zq_il 2] [zq_ilchk 2] 22 rfl (by decide +kernel) ?_
  show zq_G _ _ _ _ _ 22 ([(0, .ref 0), (1, .int (nI a)), (2, .int 0)], [.int 0], XH tx (nI Z) (nI P, nI C, nI R, nI L, hs, ss, cs, gs, vs) dr rd (nI D, sm, nI N, nI K, ce, de, ke, se) i0 i1 kp dd tr m)
  refine zq_swc [(0, 48), (1, 59)] 68 (by decide +kernel) ⟨fun _ => ?_, fun c => absurd c (by decide), trivial⟩ (fun c => absurd (by decide) c.1)
  show zq_G _ _ _ _ _ 48 ([(0, .ref 0), (1, .int (nI a)), (2, .int 0)], [], XH tx (nI Z) (nI P, nI C, nI R, nI L, hs, ss, cs, gs, vs) dr rd (nI D, sm, nI N, nI K, ce, de, ke, se) i0 i1 kp dd tr m)
  refine zq_b [zq_al 0, zq_get 11 5, zq_k 1, zq_il 1, zq_ishl (1 <<< (nI a &&& 31))] [zq_alchk 0, zq_getchk 11 5, zq_kchk 1, zq_ilchk 1, zq_is .ishl 1] 55 rfl (by decide +kernel) ?_
  refine ⟨rfl, ?_⟩
  show zq_G _ _ _ _ _ 55 ([(0, .ref 0), (1, .int (nI a)), (2, .int 0)], [.int (1 <<< (nI a &&& 31)), .ref 15], XH tx (nI Z) (nI P, nI C, nI R, nI L, hs, ss, cs, gs, vs) dr rd (nI D, sm, nI N, nI K, ce, de, ke, se) i0 i1 kp dd tr m)
  refine zq_callV (av := [.int (1 <<< (nI a &&& 31))]) (rest := []) (by decide +kernel) k11_220 (c_daysKept (x := (1 <<< (nI a &&& 31))) hD) rfl rfl rfl rfl ?_
  show zq_G _ _ _ _ _ 58 ([(0, .ref 0), (1, .int (nI a)), (2, .int 0)], [.int (nI (zct (fun d => decide (ke d &&& (1 <<< (nI a &&& 31)) = (1 <<< (nI a &&& 31)))) D))], XH tx (nI Z) (nI P, nI C, nI R, nI L, hs, ss, cs, gs, vs) dr rd (nI D, sm, nI N, nI K, ce, de, ke, se) i0 i1 kp dd tr m)
  exact zq_iret (by decide +kernel) rfl rfl rfl
set_option maxHeartbeats 4000000 in
set_option maxRecDepth 100000 in
theorem x_days_1 {a : Nat} (ha : a < P) (hP : P ≤ 6) (hD : D ≤ 99) : zq_P l mX11_days 2 [.ref 0, .int (nI a), .int 1] (XH tx (nI Z) (nI P, nI C, nI R, nI L, hs, ss, cs, gs, vs) dr rd (nI D, sm, nI N, nI K, ce, de, ke, se) i0 i1 kp dd tr m) (some (.int (zfs (fun d => decide (zbit (ke d) (nI a) = 1)) nI D))) (XH tx (nI Z) (nI P, nI C, nI R, nI L, hs, ss, cs, gs, vs) dr rd (nI D, sm, nI N, nI K, ce, de, ke, se) i0 i1 kp dd tr m) := by
  refine zq_start (by decide +kernel) rfl (Nat.le_of_ble_eq_true rfl) ?_
  show zq_G _ _ _ _ _ 0 ([(0, .ref 0), (1, .int (nI a)), (2, .int 1)], [], XH tx (nI Z) (nI P, nI C, nI R, nI L, hs, ss, cs, gs, vs) dr rd (nI D, sm, nI N, nI K, ce, de, ke, se) i0 i1 kp dd tr m)
  refine zq_b [zq_al 0, zq_get 11 2, zq_il 1] [zq_alchk 0, zq_getchk 11 2, zq_ilchk 1] 5 rfl (by decide +kernel) ?_
  show zq_G _ _ _ _ _ 5 ([(0, .ref 0), (1, .int (nI a)), (2, .int 1)], [.int (nI a), .ref 2], XH tx (nI Z) (nI P, nI C, nI R, nI L, hs, ss, cs, gs, vs) dr rd (nI D, sm, nI N, nI K, ce, de, ke, se) i0 i1 kp dd tr m)
  refine zq_callV (av := [.int (nI a)]) (rest := []) (by decide +kernel) k11_105 (x_hasPersonN (p := a) hP (by omega)) rfl rfl rfl rfl ?_
  show zq_G _ _ _ _ _ 8 ([(0, .ref 0), (1, .int (nI a)), (2, .int 1)], [.int (zb (a < P))], XH tx (nI Z) (nI P, nI C, nI R, nI L, hs, ss, cs, gs, vs) dr rd (nI D, sm, nI N, nI K, ce, de, ke, se) i0 i1 kp dd tr m)
  refine zq_ifz .eq 19 (¬ (a < P)) (by decide +kernel) (zb_eq _) (fun c8 => absurd c8 (by omega)) (fun c8 => ?_)
  show zq_G _ _ _ _ _ 11 ([(0, .ref 0), (1, .int (nI a)), (2, .int 1)], [], XH tx (nI Z) (nI P, nI C, nI R, nI L, hs, ss, cs, gs, vs) dr rd (nI D, sm, nI N, nI K, ce, de, ke, se) i0 i1 kp dd tr m)
  refine zq_b [zq_il 2, zq_k 2] [zq_ilchk 2, zq_kchk 2] 13 rfl (by decide +kernel) ?_
  show zq_G _ _ _ _ _ 13 ([(0, .ref 0), (1, .int (nI a)), (2, .int 1)], [.int 2, .int 1], XH tx (nI Z) (nI P, nI C, nI R, nI L, hs, ss, cs, gs, vs) dr rd (nI D, sm, nI N, nI K, ce, de, ke, se) i0 i1 kp dd tr m)
  refine zq_callS (av := [.int 1, .int 2]) (rest := []) (by decide +kernel) k11_87 (x_isBeyondN (p := 1) (q := 2) (by omega) (by omega)) rfl rfl ?_
  show zq_G _ _ _ _ _ 16 ([(0, .ref 0), (1, .int (nI a)), (2, .int 1)], [.int (zb (2 < 1))], XH tx (nI Z) (nI P, nI C, nI R, nI L, hs, ss, cs, gs, vs) dr rd (nI D, sm, nI N, nI K, ce, de, ke, se) i0 i1 kp dd tr m)
  refine zq_ifz .eq 21 (¬ (2 < 1)) (by decide +kernel) (zb_eq _) (fun c16 => ?_) (fun c16 => absurd (by omega) c16)
  show zq_G _ _ _ _ _ 21 ([(0, .ref 0), (1, .int (nI a)), (2, .int 1)], [], XH tx (nI Z) (nI P, nI C, nI R, nI L, hs, ss, cs, gs, vs) dr rd (nI D, sm, nI N, nI K, ce, de, ke, se) i0 i1 kp dd tr m)
  refine zq_b [zq_il 2] [zq_ilchk 2] 22 rfl (by decide +kernel) ?_
  show zq_G _ _ _ _ _ 22 ([(0, .ref 0), (1, .int (nI a)), (2, .int 1)], [.int 1], XH tx (nI Z) (nI P, nI C, nI R, nI L, hs, ss, cs, gs, vs) dr rd (nI D, sm, nI N, nI K, ce, de, ke, se) i0 i1 kp dd tr m)
  refine zq_swc [(0, 48), (1, 59)] 68 (by decide +kernel) ⟨fun c => absurd c (by decide), fun _ => ?_, trivial⟩ (fun c => absurd (by decide) c.2.1)
  show zq_G _ _ _ _ _ 59 ([(0, .ref 0), (1, .int (nI a)), (2, .int 1)], [], XH tx (nI Z) (nI P, nI C, nI R, nI L, hs, ss, cs, gs, vs) dr rd (nI D, sm, nI N, nI K, ce, de, ke, se) i0 i1 kp dd tr m)
  refine zq_b [zq_al 0, zq_get 11 5, zq_il 1] [zq_alchk 0, zq_getchk 11 5, zq_ilchk 1] 64 rfl (by decide +kernel) ?_
  show zq_G _ _ _ _ _ 64 ([(0, .ref 0), (1, .int (nI a)), (2, .int 1)], [.int (nI a), .ref 15], XH tx (nI Z) (nI P, nI C, nI R, nI L, hs, ss, cs, gs, vs) dr rd (nI D, sm, nI N, nI K, ce, de, ke, se) i0 i1 kp dd tr m)
  refine zq_callV (av := [.int (nI a)]) (rest := []) (by decide +kernel) k11_223 (c_firstDayKept (p := (nI a)) hD) rfl rfl rfl rfl ?_
  show zq_G _ _ _ _ _ 67 ([(0, .ref 0), (1, .int (nI a)), (2, .int 1)], [.int (zfs (fun d => decide (zbit (ke d) (nI a) = 1)) nI D)], XH tx (nI Z) (nI P, nI C, nI R, nI L, hs, ss, cs, gs, vs) dr rd (nI D, sm, nI N, nI K, ce, de, ke, se) i0 i1 kp dd tr m)
  exact zq_iret (by decide +kernel) rfl rfl rfl
set_option maxHeartbeats 4000000 in
set_option maxRecDepth 100000 in
theorem x_days_2 {a : Nat} (ha : a < P) (hP : P ≤ 6) (hD : D ≤ 99) : zq_P l mX11_days 2 [.ref 0, .int (nI a), .int 2] (XH tx (nI Z) (nI P, nI C, nI R, nI L, hs, ss, cs, gs, vs) dr rd (nI D, sm, nI N, nI K, ce, de, ke, se) i0 i1 kp dd tr m) (some (.int (zls (fun d => decide (zbit (ke d) (nI a) = 1)) nI D))) (XH tx (nI Z) (nI P, nI C, nI R, nI L, hs, ss, cs, gs, vs) dr rd (nI D, sm, nI N, nI K, ce, de, ke, se) i0 i1 kp dd tr m) := by
  refine zq_start (by decide +kernel) rfl (Nat.le_of_ble_eq_true rfl) ?_
  show zq_G _ _ _ _ _ 0 ([(0, .ref 0), (1, .int (nI a)), (2, .int 2)], [], XH tx (nI Z) (nI P, nI C, nI R, nI L, hs, ss, cs, gs, vs) dr rd (nI D, sm, nI N, nI K, ce, de, ke, se) i0 i1 kp dd tr m)
  refine zq_b [zq_al 0, zq_get 11 2, zq_il 1] [zq_alchk 0, zq_getchk 11 2, zq_ilchk 1] 5 rfl (by decide +kernel) ?_
  show zq_G _ _ _ _ _ 5 ([(0, .ref 0), (1, .int (nI a)), (2, .int 2)], [.int (nI a), .ref 2], XH tx (nI Z) (nI P, nI C, nI R, nI L, hs, ss, cs, gs, vs) dr rd (nI D, sm, nI N, nI K, ce, de, ke, se) i0 i1 kp dd tr m)
  refine zq_callV (av := [.int (nI a)]) (rest := []) (by decide +kernel) k11_105 (x_hasPersonN (p := a) hP (by omega)) rfl rfl rfl rfl ?_
  show zq_G _ _ _ _ _ 8 ([(0, .ref 0), (1, .int (nI a)), (2, .int 2)], [.int (zb (a < P))], XH tx (nI Z) (nI P, nI C, nI R, nI L, hs, ss, cs, gs, vs) dr rd (nI D, sm, nI N, nI K, ce, de, ke, se) i0 i1 kp dd tr m)
  refine zq_ifz .eq 19 (¬ (a < P)) (by decide +kernel) (zb_eq _) (fun c8 => absurd c8 (by omega)) (fun c8 => ?_)
  show zq_G _ _ _ _ _ 11 ([(0, .ref 0), (1, .int (nI a)), (2, .int 2)], [], XH tx (nI Z) (nI P, nI C, nI R, nI L, hs, ss, cs, gs, vs) dr rd (nI D, sm, nI N, nI K, ce, de, ke, se) i0 i1 kp dd tr m)
  refine zq_b [zq_il 2, zq_k 2] [zq_ilchk 2, zq_kchk 2] 13 rfl (by decide +kernel) ?_
  show zq_G _ _ _ _ _ 13 ([(0, .ref 0), (1, .int (nI a)), (2, .int 2)], [.int 2, .int 2], XH tx (nI Z) (nI P, nI C, nI R, nI L, hs, ss, cs, gs, vs) dr rd (nI D, sm, nI N, nI K, ce, de, ke, se) i0 i1 kp dd tr m)
  refine zq_callS (av := [.int 2, .int 2]) (rest := []) (by decide +kernel) k11_87 (x_isBeyondN (p := 2) (q := 2) (by omega) (by omega)) rfl rfl ?_
  show zq_G _ _ _ _ _ 16 ([(0, .ref 0), (1, .int (nI a)), (2, .int 2)], [.int (zb (2 < 2))], XH tx (nI Z) (nI P, nI C, nI R, nI L, hs, ss, cs, gs, vs) dr rd (nI D, sm, nI N, nI K, ce, de, ke, se) i0 i1 kp dd tr m)
  refine zq_ifz .eq 21 (¬ (2 < 2)) (by decide +kernel) (zb_eq _) (fun c16 => ?_) (fun c16 => absurd (by omega) c16)
  show zq_G _ _ _ _ _ 21 ([(0, .ref 0), (1, .int (nI a)), (2, .int 2)], [], XH tx (nI Z) (nI P, nI C, nI R, nI L, hs, ss, cs, gs, vs) dr rd (nI D, sm, nI N, nI K, ce, de, ke, se) i0 i1 kp dd tr m)
  refine zq_b [zq_il 2] [zq_ilchk 2] 22 rfl (by decide +kernel) ?_
  show zq_G _ _ _ _ _ 22 ([(0, .ref 0), (1, .int (nI a)), (2, .int 2)], [.int 2], XH tx (nI Z) (nI P, nI C, nI R, nI L, hs, ss, cs, gs, vs) dr rd (nI D, sm, nI N, nI K, ce, de, ke, se) i0 i1 kp dd tr m)
  refine zq_swc [(0, 48), (1, 59)] 68 (by decide +kernel) ⟨fun c => absurd c (by decide), fun c => absurd c (by decide), trivial⟩ (fun _ => ?_)
  show zq_G _ _ _ _ _ 68 ([(0, .ref 0), (1, .int (nI a)), (2, .int 2)], [], XH tx (nI Z) (nI P, nI C, nI R, nI L, hs, ss, cs, gs, vs) dr rd (nI D, sm, nI N, nI K, ce, de, ke, se) i0 i1 kp dd tr m)
  refine zq_b [zq_al 0, zq_get 11 5, zq_il 1] [zq_alchk 0, zq_getchk 11 5, zq_ilchk 1] 73 rfl (by decide +kernel) ?_
  show zq_G _ _ _ _ _ 73 ([(0, .ref 0), (1, .int (nI a)), (2, .int 2)], [.int (nI a), .ref 15], XH tx (nI Z) (nI P, nI C, nI R, nI L, hs, ss, cs, gs, vs) dr rd (nI D, sm, nI N, nI K, ce, de, ke, se) i0 i1 kp dd tr m)
  refine zq_callV (av := [.int (nI a)]) (rest := []) (by decide +kernel) k11_226 (c_lastDayKept (p := (nI a)) hD) rfl rfl rfl rfl ?_
  show zq_G _ _ _ _ _ 76 ([(0, .ref 0), (1, .int (nI a)), (2, .int 2)], [.int (zls (fun d => decide (zbit (ke d) (nI a) = 1)) nI D)], XH tx (nI Z) (nI P, nI C, nI R, nI L, hs, ss, cs, gs, vs) dr rd (nI D, sm, nI N, nI K, ce, de, ke, se) i0 i1 kp dd tr m)
  exact zq_iret (by decide +kernel) rfl rfl rfl
set_option maxHeartbeats 4000000 in
set_option maxRecDepth 100000 in
theorem x_together_bad {x : Int32} (hP : P ≤ 6) (hb : ¬ (0 ≤ x.toInt ∧ x.toInt < (zp2 P : Int))) : zq_P l mX11_together 1 [.ref 0, .int x] (XH tx (nI Z) (nI P, nI C, nI R, nI L, hs, ss, cs, gs, vs) dr rd (nI D, sm, nI N, nI K, ce, de, ke, se) i0 i1 kp dd tr m) (some (.int (-1))) (XH tx (nI Z) (nI P, nI C, nI R, nI L, hs, ss, cs, gs, vs) dr rd (nI D, sm, nI N, nI K, ce, de, ke, se) i0 i1 kp dd tr m) := by
  refine zq_start (by decide +kernel) rfl (Nat.le_of_ble_eq_true rfl) ?_
  show zq_G _ _ _ _ _ 0 ([(0, .ref 0), (1, .int x)], [], XH tx (nI Z) (nI P, nI C, nI R, nI L, hs, ss, cs, gs, vs) dr rd (nI D, sm, nI N, nI K, ce, de, ke, se) i0 i1 kp dd tr m)
  refine zq_b [zq_al 0, zq_get 11 2, zq_il 1] [zq_alchk 0, zq_getchk 11 2, zq_ilchk 1] 5 rfl (by decide +kernel) ?_
  show zq_G _ _ _ _ _ 5 ([(0, .ref 0), (1, .int x)], [.int x, .ref 2], XH tx (nI Z) (nI P, nI C, nI R, nI L, hs, ss, cs, gs, vs) dr rd (nI D, sm, nI N, nI K, ce, de, ke, se) i0 i1 kp dd tr m)
  refine zq_callV (av := [.int x]) (rest := []) (by decide +kernel) k11_184 (x_areBits (b := x) hP) rfl rfl rfl rfl ?_
  show zq_G _ _ _ _ _ 8 ([(0, .ref 0), (1, .int x)], [.int (zb (0 ≤ x.toInt ∧ x.toInt < (zp2 P : Int)))], XH tx (nI Z) (nI P, nI C, nI R, nI L, hs, ss, cs, gs, vs) dr rd (nI D, sm, nI N, nI K, ce, de, ke, se) i0 i1 kp dd tr m)
  refine zq_ifz .ne 13 (0 ≤ x.toInt ∧ x.toInt < (zp2 P : Int)) (by decide +kernel) (zb_ne _) (fun c8 => ?_) (fun c8 => ?_)
  · show zq_G _ _ _ _ _ 13 ([(0, .ref 0), (1, .int x)], [], XH tx (nI Z) (nI P, nI C, nI R, nI L, hs, ss, cs, gs, vs) dr rd (nI D, sm, nI N, nI K, ce, de, ke, se) i0 i1 kp dd tr m)
    exact absurd c8 hb
  · show zq_G _ _ _ _ _ 11 ([(0, .ref 0), (1, .int x)], [], XH tx (nI Z) (nI P, nI C, nI R, nI L, hs, ss, cs, gs, vs) dr rd (nI D, sm, nI N, nI K, ce, de, ke, se) i0 i1 kp dd tr m)
    refine zq_b [zq_k (-1)] [zq_kchk (-1)] 12 rfl (by decide +kernel) ?_
    show zq_G _ _ _ _ _ 12 ([(0, .ref 0), (1, .int x)], [.int (-1)], XH tx (nI Z) (nI P, nI C, nI R, nI L, hs, ss, cs, gs, vs) dr rd (nI D, sm, nI N, nI K, ce, de, ke, se) i0 i1 kp dd tr m)
    exact zq_iret (by decide +kernel) rfl rfl rfl
set_option maxHeartbeats 4000000 in
set_option maxRecDepth 100000 in
theorem x_together {x : Int32} (hP : P ≤ 6) (hD : D ≤ 99) (hx : 0 ≤ x.toInt ∧ x.toInt < (zp2 P : Int)) : zq_P l mX11_together 1 [.ref 0, .int x] (XH tx (nI Z) (nI P, nI C, nI R, nI L, hs, ss, cs, gs, vs) dr rd (nI D, sm, nI N, nI K, ce, de, ke, se) i0 i1 kp dd tr m) (some (.int (nI (zct (fun d => decide (ke d &&& x = x)) D)))) (XH tx (nI Z) (nI P, nI C, nI R, nI L, hs, ss, cs, gs, vs) dr rd (nI D, sm, nI N, nI K, ce, de, ke, se) i0 i1 kp dd tr m) := by
  refine zq_start (by decide +kernel) rfl (Nat.le_of_ble_eq_true rfl) ?_
  show zq_G _ _ _ _ _ 0 ([(0, .ref 0), (1, .int x)], [], XH tx (nI Z) (nI P, nI C, nI R, nI L, hs, ss, cs, gs, vs) dr rd (nI D, sm, nI N, nI K, ce, de, ke, se) i0 i1 kp dd tr m)
  refine zq_b [zq_al 0, zq_get 11 2, zq_il 1] [zq_alchk 0, zq_getchk 11 2, zq_ilchk 1] 5 rfl (by decide +kernel) ?_
  show zq_G _ _ _ _ _ 5 ([(0, .ref 0), (1, .int x)], [.int x, .ref 2], XH tx (nI Z) (nI P, nI C, nI R, nI L, hs, ss, cs, gs, vs) dr rd (nI D, sm, nI N, nI K, ce, de, ke, se) i0 i1 kp dd tr m)
  refine zq_callV (av := [.int x]) (rest := []) (by decide +kernel) k11_184 (x_areBits (b := x) hP) rfl rfl rfl rfl ?_
  show zq_G _ _ _ _ _ 8 ([(0, .ref 0), (1, .int x)], [.int (zb (0 ≤ x.toInt ∧ x.toInt < (zp2 P : Int)))], XH tx (nI Z) (nI P, nI C, nI R, nI L, hs, ss, cs, gs, vs) dr rd (nI D, sm, nI N, nI K, ce, de, ke, se) i0 i1 kp dd tr m)
  refine zq_ifz .ne 13 (0 ≤ x.toInt ∧ x.toInt < (zp2 P : Int)) (by decide +kernel) (zb_ne _) (fun c8 => ?_) (fun c8 => absurd hx c8)
  show zq_G _ _ _ _ _ 13 ([(0, .ref 0), (1, .int x)], [], XH tx (nI Z) (nI P, nI C, nI R, nI L, hs, ss, cs, gs, vs) dr rd (nI D, sm, nI N, nI K, ce, de, ke, se) i0 i1 kp dd tr m)
  refine zq_b [zq_al 0, zq_get 11 5, zq_il 1] [zq_alchk 0, zq_getchk 11 5, zq_ilchk 1] 18 rfl (by decide +kernel) ?_
  show zq_G _ _ _ _ _ 18 ([(0, .ref 0), (1, .int x)], [.int x, .ref 15], XH tx (nI Z) (nI P, nI C, nI R, nI L, hs, ss, cs, gs, vs) dr rd (nI D, sm, nI N, nI K, ce, de, ke, se) i0 i1 kp dd tr m)
  refine zq_callV (av := [.int x]) (rest := []) (by decide +kernel) k11_220 (c_daysKept (x := x) hD) rfl rfl rfl rfl ?_
  show zq_G _ _ _ _ _ 21 ([(0, .ref 0), (1, .int x)], [.int (nI (zct (fun d => decide (ke d &&& x = x)) D))], XH tx (nI Z) (nI P, nI C, nI R, nI L, hs, ss, cs, gs, vs) dr rd (nI D, sm, nI N, nI K, ce, de, ke, se) i0 i1 kp dd tr m)
  exact zq_iret (by decide +kernel) rfl rfl rfl
set_option maxHeartbeats 4000000 in
set_option maxRecDepth 100000 in
theorem x_mark_bad {x : Int32} {y : Int32} (hN : N ≤ 12) (hb : ¬ (0 ≤ x.toInt ∧ x.toInt ≤ 5 ∧ 0 ≤ y.toInt ∧ y.toInt < (N : Int))) : zq_P l mX11_mark 1 [.ref 0, .int x, .int y] (XH tx (nI Z) (nI P, nI C, nI R, nI L, hs, ss, cs, gs, vs) dr rd (nI D, sm, nI N, nI K, ce, de, ke, se) i0 i1 kp dd tr m) (some (.int (-1000000))) (XH tx (nI Z) (nI P, nI C, nI R, nI L, hs, ss, cs, gs, vs) dr rd (nI D, sm, nI N, nI K, ce, de, ke, se) i0 i1 kp dd tr m) := by
  refine zq_start (by decide +kernel) rfl (Nat.le_of_ble_eq_true rfl) ?_
  show zq_G _ _ _ _ _ 0 ([(0, .ref 0), (1, .int x), (2, .int y)], [], XH tx (nI Z) (nI P, nI C, nI R, nI L, hs, ss, cs, gs, vs) dr rd (nI D, sm, nI N, nI K, ce, de, ke, se) i0 i1 kp dd tr m)
  refine zq_b [zq_il 1, zq_k 5] [zq_ilchk 1, zq_kchk 5] 2 rfl (by decide +kernel) ?_
  show zq_G _ _ _ _ _ 2 ([(0, .ref 0), (1, .int x), (2, .int y)], [.int 5, .int x], XH tx (nI Z) (nI P, nI C, nI R, nI L, hs, ss, cs, gs, vs) dr rd (nI D, sm, nI N, nI K, ce, de, ke, se) i0 i1 kp dd tr m)
  refine zq_callS (av := [.int x, .int 5]) (rest := []) (by decide +kernel) k11_87 (x_isBeyond (x := x) (q := 5) (by omega)) rfl rfl ?_
  show zq_G _ _ _ _ _ 5 ([(0, .ref 0), (1, .int x), (2, .int y)], [.int (zb (x.toInt < 0 ∨ (5 : Int) < x.toInt))], XH tx (nI Z) (nI P, nI C, nI R, nI L, hs, ss, cs, gs, vs) dr rd (nI D, sm, nI N, nI K, ce, de, ke, se) i0 i1 kp dd tr m)
  refine zq_ifz .ne 19 (x.toInt < 0 ∨ (5 : Int) < x.toInt) (by decide +kernel) (zb_ne _) (fun c5 => ?_) (fun c5 => ?_)
  · show zq_G _ _ _ _ _ 19 ([(0, .ref 0), (1, .int x), (2, .int y)], [], XH tx (nI Z) (nI P, nI C, nI R, nI L, hs, ss, cs, gs, vs) dr rd (nI D, sm, nI N, nI K, ce, de, ke, se) i0 i1 kp dd tr m)
    refine zq_b [zq_k (-1000000)] [zq_kchk (-1000000)] 21 rfl (by decide +kernel) ?_
    show zq_G _ _ _ _ _ 21 ([(0, .ref 0), (1, .int x), (2, .int y)], [.int (-1000000)], XH tx (nI Z) (nI P, nI C, nI R, nI L, hs, ss, cs, gs, vs) dr rd (nI D, sm, nI N, nI K, ce, de, ke, se) i0 i1 kp dd tr m)
    exact zq_iret (by decide +kernel) rfl rfl rfl
  · show zq_G _ _ _ _ _ 8 ([(0, .ref 0), (1, .int x), (2, .int y)], [], XH tx (nI Z) (nI P, nI C, nI R, nI L, hs, ss, cs, gs, vs) dr rd (nI D, sm, nI N, nI K, ce, de, ke, se) i0 i1 kp dd tr m)
    refine zq_b [zq_al 0, zq_get 11 5, zq_il 2] [zq_alchk 0, zq_getchk 11 5, zq_ilchk 2] 13 rfl (by decide +kernel) ?_
    show zq_G _ _ _ _ _ 13 ([(0, .ref 0), (1, .int x), (2, .int y)], [.int y, .ref 15], XH tx (nI Z) (nI P, nI C, nI R, nI L, hs, ss, cs, gs, vs) dr rd (nI D, sm, nI N, nI K, ce, de, ke, se) i0 i1 kp dd tr m)
    refine zq_callV (av := [.int y]) (rest := []) (by decide +kernel) k11_168 (x_hasDeed (i := y) hN) rfl rfl rfl rfl ?_
    show zq_G _ _ _ _ _ 16 ([(0, .ref 0), (1, .int x), (2, .int y)], [.int (zb (0 ≤ y.toInt ∧ y.toInt < (N : Int)))], XH tx (nI Z) (nI P, nI C, nI R, nI L, hs, ss, cs, gs, vs) dr rd (nI D, sm, nI N, nI K, ce, de, ke, se) i0 i1 kp dd tr m)
    refine zq_ifz .ne 22 (0 ≤ y.toInt ∧ y.toInt < (N : Int)) (by decide +kernel) (zb_ne _) (fun c16 => ?_) (fun c16 => ?_)
    · show zq_G _ _ _ _ _ 22 ([(0, .ref 0), (1, .int x), (2, .int y)], [], XH tx (nI Z) (nI P, nI C, nI R, nI L, hs, ss, cs, gs, vs) dr rd (nI D, sm, nI N, nI K, ce, de, ke, se) i0 i1 kp dd tr m)
      exact absurd hb (by omega)
    · show zq_G _ _ _ _ _ 19 ([(0, .ref 0), (1, .int x), (2, .int y)], [], XH tx (nI Z) (nI P, nI C, nI R, nI L, hs, ss, cs, gs, vs) dr rd (nI D, sm, nI N, nI K, ce, de, ke, se) i0 i1 kp dd tr m)
      refine zq_b [zq_k (-1000000)] [zq_kchk (-1000000)] 21 rfl (by decide +kernel) ?_
      show zq_G _ _ _ _ _ 21 ([(0, .ref 0), (1, .int x), (2, .int y)], [.int (-1000000)], XH tx (nI Z) (nI P, nI C, nI R, nI L, hs, ss, cs, gs, vs) dr rd (nI D, sm, nI N, nI K, ce, de, ke, se) i0 i1 kp dd tr m)
      exact zq_iret (by decide +kernel) rfl rfl rfl
set_option maxHeartbeats 4000000 in
set_option maxRecDepth 100000 in
theorem x_mark_0 {Q : Nat} (hQ2 : Q < N) (hN : N ≤ 12) : zq_P l mX11_mark 5 [.ref 0, .int 0, .int (nI Q)] (XH tx (nI Z) (nI P, nI C, nI R, nI L, hs, ss, cs, gs, vs) dr rd (nI D, sm, nI N, nI K, ce, de, ke, se) i0 i1 kp dd tr m) (some (.int (de (Q * 5 + 2)))) (XH tx (nI Z) (nI P, nI C, nI R, nI L, hs, ss, cs, gs, vs) dr rd (nI D, sm, nI N, nI K, ce, de, ke, se) i0 i1 kp (nI Q) (tr + 1) m) := by
  refine zq_start (by decide +kernel) rfl (Nat.le_of_ble_eq_true rfl) ?_
  show zq_G _ _ _ _ _ 0 ([(0, .ref 0), (1, .int 0), (2, .int (nI Q))], [], XH tx (nI Z) (nI P, nI C, nI R, nI L, hs, ss, cs, gs, vs) dr rd (nI D, sm, nI N, nI K, ce, de, ke, se) i0 i1 kp dd tr m)
  refine zq_b [zq_il 1, zq_k 5] [zq_ilchk 1, zq_kchk 5] 2 rfl (by decide +kernel) ?_
  show zq_G _ _ _ _ _ 2 ([(0, .ref 0), (1, .int 0), (2, .int (nI Q))], [.int 5, .int 0], XH tx (nI Z) (nI P, nI C, nI R, nI L, hs, ss, cs, gs, vs) dr rd (nI D, sm, nI N, nI K, ce, de, ke, se) i0 i1 kp dd tr m)
  refine zq_callS (av := [.int 0, .int 5]) (rest := []) (by decide +kernel) k11_87 (x_isBeyondN (p := 0) (q := 5) (by omega) (by omega)) rfl rfl ?_
  show zq_G _ _ _ _ _ 5 ([(0, .ref 0), (1, .int 0), (2, .int (nI Q))], [.int (zb (5 < 0))], XH tx (nI Z) (nI P, nI C, nI R, nI L, hs, ss, cs, gs, vs) dr rd (nI D, sm, nI N, nI K, ce, de, ke, se) i0 i1 kp dd tr m)
  refine zq_ifz .ne 19 (5 < 0) (by decide +kernel) (zb_ne _) (fun c5 => absurd c5 (by omega)) (fun c5 => ?_)
  show zq_G _ _ _ _ _ 8 ([(0, .ref 0), (1, .int 0), (2, .int (nI Q))], [], XH tx (nI Z) (nI P, nI C, nI R, nI L, hs, ss, cs, gs, vs) dr rd (nI D, sm, nI N, nI K, ce, de, ke, se) i0 i1 kp dd tr m)
  refine zq_b [zq_al 0, zq_get 11 5, zq_il 2] [zq_alchk 0, zq_getchk 11 5, zq_ilchk 2] 13 rfl (by decide +kernel) ?_
  show zq_G _ _ _ _ _ 13 ([(0, .ref 0), (1, .int 0), (2, .int (nI Q))], [.int (nI Q), .ref 15], XH tx (nI Z) (nI P, nI C, nI R, nI L, hs, ss, cs, gs, vs) dr rd (nI D, sm, nI N, nI K, ce, de, ke, se) i0 i1 kp dd tr m)
  refine zq_callV (av := [.int (nI Q)]) (rest := []) (by decide +kernel) k11_168 (x_hasDeedN (i := Q) hN (by omega)) rfl rfl rfl rfl ?_
  show zq_G _ _ _ _ _ 16 ([(0, .ref 0), (1, .int 0), (2, .int (nI Q))], [.int (zb (Q < N))], XH tx (nI Z) (nI P, nI C, nI R, nI L, hs, ss, cs, gs, vs) dr rd (nI D, sm, nI N, nI K, ce, de, ke, se) i0 i1 kp dd tr m)
  refine zq_ifz .ne 22 (Q < N) (by decide +kernel) (zb_ne _) (fun c16 => ?_) (fun c16 => absurd (by omega) c16)
  show zq_G _ _ _ _ _ 22 ([(0, .ref 0), (1, .int 0), (2, .int (nI Q))], [], XH tx (nI Z) (nI P, nI C, nI R, nI L, hs, ss, cs, gs, vs) dr rd (nI D, sm, nI N, nI K, ce, de, ke, se) i0 i1 kp dd tr m)
  refine zq_b [zq_al 0, zq_get 11 9, zq_il 2, zq_puti 0 2, zq_al 0, zq_get 11 10, zq_il 1, zq_aald 0, zq_al 0, zq_get 11 9] [zq_alchk 0, zq_getchk 11 9, zq_ilchk 2, zq_putchk 0 2 .int, zq_alchk 0, zq_getchk 11 10, zq_ilchk 1, zq_is .aaload 1, zq_alchk 0, zq_getchk 11 9] 40 rfl (by decide +kernel) ?_
  refine ⟨rfl, (by decide), (by decide), ?_⟩
  show zq_G _ _ _ _ _ 40 ([(0, .ref 0), (1, .int 0), (2, .int (nI Q))], [.ref 33, .ref 35], XH tx (nI Z) (nI P, nI C, nI R, nI L, hs, ss, cs, gs, vs) dr rd (nI D, sm, nI N, nI K, ce, de, ke, se) i0 i1 kp (nI Q) tr m)
  refine zq_callD (av := [.ref 33]) (rest := []) (by decide +kernel) kd11_233 kd_Plain (c_plain_35 (Q := Q) (by omega)) rfl rfl rfl rfl ?_
  show zq_G _ _ _ _ _ 43 ([(0, .ref 0), (1, .int 0), (2, .int (nI Q))], [.int (de (Q * 5 + 2))], XH tx (nI Z) (nI P, nI C, nI R, nI L, hs, ss, cs, gs, vs) dr rd (nI D, sm, nI N, nI K, ce, de, ke, se) i0 i1 kp (nI Q) (tr + 1) m)
  exact zq_iret (by decide +kernel) rfl rfl rfl
set_option maxHeartbeats 4000000 in
set_option maxRecDepth 100000 in
theorem x_mark_1 {Q : Nat} {wq : Nat} (hQ2 : Q < N) (hN : N ≤ 12) (hw0 : de (Q * 5 + 0) = nI wq) (hw6 : wq < 6) : zq_P l mX11_mark 5 [.ref 0, .int 1, .int (nI Q)] (XH tx (nI Z) (nI P, nI C, nI R, nI L, hs, ss, cs, gs, vs) dr rd (nI D, sm, nI N, nI K, ce, de, ke, se) i0 i1 kp dd tr m) (some (.int (de (Q * 5 + 2) + hs wq))) (XH tx (nI Z) (nI P, nI C, nI R, nI L, hs, ss, cs, gs, vs) dr rd (nI D, sm, nI N, nI K, ce, de, ke, se) i0 i1 kp (nI Q) ((tr + 10) + 1) m) := by
  refine zq_start (by decide +kernel) rfl (Nat.le_of_ble_eq_true rfl) ?_
  show zq_G _ _ _ _ _ 0 ([(0, .ref 0), (1, .int 1), (2, .int (nI Q))], [], XH tx (nI Z) (nI P, nI C, nI R, nI L, hs, ss, cs, gs, vs) dr rd (nI D, sm, nI N, nI K, ce, de, ke, se) i0 i1 kp dd tr m)
  refine zq_b [zq_il 1, zq_k 5] [zq_ilchk 1, zq_kchk 5] 2 rfl (by decide +kernel) ?_
  show zq_G _ _ _ _ _ 2 ([(0, .ref 0), (1, .int 1), (2, .int (nI Q))], [.int 5, .int 1], XH tx (nI Z) (nI P, nI C, nI R, nI L, hs, ss, cs, gs, vs) dr rd (nI D, sm, nI N, nI K, ce, de, ke, se) i0 i1 kp dd tr m)
  refine zq_callS (av := [.int 1, .int 5]) (rest := []) (by decide +kernel) k11_87 (x_isBeyondN (p := 1) (q := 5) (by omega) (by omega)) rfl rfl ?_
  show zq_G _ _ _ _ _ 5 ([(0, .ref 0), (1, .int 1), (2, .int (nI Q))], [.int (zb (5 < 1))], XH tx (nI Z) (nI P, nI C, nI R, nI L, hs, ss, cs, gs, vs) dr rd (nI D, sm, nI N, nI K, ce, de, ke, se) i0 i1 kp dd tr m)
  refine zq_ifz .ne 19 (5 < 1) (by decide +kernel) (zb_ne _) (fun c5 => absurd c5 (by omega)) (fun c5 => ?_)
  show zq_G _ _ _ _ _ 8 ([(0, .ref 0), (1, .int 1), (2, .int (nI Q))], [], XH tx (nI Z) (nI P, nI C, nI R, nI L, hs, ss, cs, gs, vs) dr rd (nI D, sm, nI N, nI K, ce, de, ke, se) i0 i1 kp dd tr m)
  refine zq_b [zq_al 0, zq_get 11 5, zq_il 2] [zq_alchk 0, zq_getchk 11 5, zq_ilchk 2] 13 rfl (by decide +kernel) ?_
  show zq_G _ _ _ _ _ 13 ([(0, .ref 0), (1, .int 1), (2, .int (nI Q))], [.int (nI Q), .ref 15], XH tx (nI Z) (nI P, nI C, nI R, nI L, hs, ss, cs, gs, vs) dr rd (nI D, sm, nI N, nI K, ce, de, ke, se) i0 i1 kp dd tr m)
  refine zq_callV (av := [.int (nI Q)]) (rest := []) (by decide +kernel) k11_168 (x_hasDeedN (i := Q) hN (by omega)) rfl rfl rfl rfl ?_
  show zq_G _ _ _ _ _ 16 ([(0, .ref 0), (1, .int 1), (2, .int (nI Q))], [.int (zb (Q < N))], XH tx (nI Z) (nI P, nI C, nI R, nI L, hs, ss, cs, gs, vs) dr rd (nI D, sm, nI N, nI K, ce, de, ke, se) i0 i1 kp dd tr m)
  refine zq_ifz .ne 22 (Q < N) (by decide +kernel) (zb_ne _) (fun c16 => ?_) (fun c16 => absurd (by omega) c16)
  show zq_G _ _ _ _ _ 22 ([(0, .ref 0), (1, .int 1), (2, .int (nI Q))], [], XH tx (nI Z) (nI P, nI C, nI R, nI L, hs, ss, cs, gs, vs) dr rd (nI D, sm, nI N, nI K, ce, de, ke, se) i0 i1 kp dd tr m)
  refine zq_b [zq_al 0, zq_get 11 9, zq_il 2, zq_puti 0 2, zq_al 0, zq_get 11 10, zq_il 1, zq_aald 1, zq_al 0, zq_get 11 9] [zq_alchk 0, zq_getchk 11 9, zq_ilchk 2, zq_putchk 0 2 .int, zq_alchk 0, zq_getchk 11 10, zq_ilchk 1, zq_is .aaload 1, zq_alchk 0, zq_getchk 11 9] 40 rfl (by decide +kernel) ?_
  refine ⟨rfl, (by decide), (by decide), ?_⟩
  show zq_G _ _ _ _ _ 40 ([(0, .ref 0), (1, .int 1), (2, .int (nI Q))], [.ref 33, .ref 36], XH tx (nI Z) (nI P, nI C, nI R, nI L, hs, ss, cs, gs, vs) dr rd (nI D, sm, nI N, nI K, ce, de, ke, se) i0 i1 kp (nI Q) tr m)
  refine zq_callD (av := [.ref 33]) (rest := []) (by decide +kernel) kd11_233 kd_Posed (c_posed_36 (Q := Q) (wq := wq) (by omega) hw0 hw6) rfl rfl rfl rfl ?_
  show zq_G _ _ _ _ _ 43 ([(0, .ref 0), (1, .int 1), (2, .int (nI Q))], [.int (de (Q * 5 + 2) + hs wq)], XH tx (nI Z) (nI P, nI C, nI R, nI L, hs, ss, cs, gs, vs) dr rd (nI D, sm, nI N, nI K, ce, de, ke, se) i0 i1 kp (nI Q) ((tr + 10) + 1) m)
  exact zq_iret (by decide +kernel) rfl rfl rfl
set_option maxHeartbeats 4000000 in
set_option maxRecDepth 100000 in
theorem x_mark_2 {Q : Nat} (hQ2 : Q < N) (hN : N ≤ 12) : zq_P l mX11_mark 5 [.ref 0, .int 2, .int (nI Q)] (XH tx (nI Z) (nI P, nI C, nI R, nI L, hs, ss, cs, gs, vs) dr rd (nI D, sm, nI N, nI K, ce, de, ke, se) i0 i1 kp dd tr m) (some (.int (de (Q * 5 + 2) - de (Q * 5 + 3) / 5))) (XH tx (nI Z) (nI P, nI C, nI R, nI L, hs, ss, cs, gs, vs) dr rd (nI D, sm, nI N, nI K, ce, de, ke, se) i0 i1 kp (nI Q) ((tr + 100) + 1) m) := by
  refine zq_start (by decide +kernel) rfl (Nat.le_of_ble_eq_true rfl) ?_
  show zq_G _ _ _ _ _ 0 ([(0, .ref 0), (1, .int 2), (2, .int (nI Q))], [], XH tx (nI Z) (nI P, nI C, nI R, nI L, hs, ss, cs, gs, vs) dr rd (nI D, sm, nI N, nI K, ce, de, ke, se) i0 i1 kp dd tr m)
  refine zq_b [zq_il 1, zq_k 5] [zq_ilchk 1, zq_kchk 5] 2 rfl (by decide +kernel) ?_
  show zq_G _ _ _ _ _ 2 ([(0, .ref 0), (1, .int 2), (2, .int (nI Q))], [.int 5, .int 2], XH tx (nI Z) (nI P, nI C, nI R, nI L, hs, ss, cs, gs, vs) dr rd (nI D, sm, nI N, nI K, ce, de, ke, se) i0 i1 kp dd tr m)
  refine zq_callS (av := [.int 2, .int 5]) (rest := []) (by decide +kernel) k11_87 (x_isBeyondN (p := 2) (q := 5) (by omega) (by omega)) rfl rfl ?_
  show zq_G _ _ _ _ _ 5 ([(0, .ref 0), (1, .int 2), (2, .int (nI Q))], [.int (zb (5 < 2))], XH tx (nI Z) (nI P, nI C, nI R, nI L, hs, ss, cs, gs, vs) dr rd (nI D, sm, nI N, nI K, ce, de, ke, se) i0 i1 kp dd tr m)
  refine zq_ifz .ne 19 (5 < 2) (by decide +kernel) (zb_ne _) (fun c5 => absurd c5 (by omega)) (fun c5 => ?_)
  show zq_G _ _ _ _ _ 8 ([(0, .ref 0), (1, .int 2), (2, .int (nI Q))], [], XH tx (nI Z) (nI P, nI C, nI R, nI L, hs, ss, cs, gs, vs) dr rd (nI D, sm, nI N, nI K, ce, de, ke, se) i0 i1 kp dd tr m)
  refine zq_b [zq_al 0, zq_get 11 5, zq_il 2] [zq_alchk 0, zq_getchk 11 5, zq_ilchk 2] 13 rfl (by decide +kernel) ?_
  show zq_G _ _ _ _ _ 13 ([(0, .ref 0), (1, .int 2), (2, .int (nI Q))], [.int (nI Q), .ref 15], XH tx (nI Z) (nI P, nI C, nI R, nI L, hs, ss, cs, gs, vs) dr rd (nI D, sm, nI N, nI K, ce, de, ke, se) i0 i1 kp dd tr m)
  refine zq_callV (av := [.int (nI Q)]) (rest := []) (by decide +kernel) k11_168 (x_hasDeedN (i := Q) hN (by omega)) rfl rfl rfl rfl ?_
  show zq_G _ _ _ _ _ 16 ([(0, .ref 0), (1, .int 2), (2, .int (nI Q))], [.int (zb (Q < N))], XH tx (nI Z) (nI P, nI C, nI R, nI L, hs, ss, cs, gs, vs) dr rd (nI D, sm, nI N, nI K, ce, de, ke, se) i0 i1 kp dd tr m)
  refine zq_ifz .ne 22 (Q < N) (by decide +kernel) (zb_ne _) (fun c16 => ?_) (fun c16 => absurd (by omega) c16)
  show zq_G _ _ _ _ _ 22 ([(0, .ref 0), (1, .int 2), (2, .int (nI Q))], [], XH tx (nI Z) (nI P, nI C, nI R, nI L, hs, ss, cs, gs, vs) dr rd (nI D, sm, nI N, nI K, ce, de, ke, se) i0 i1 kp dd tr m)
  refine zq_b [zq_al 0, zq_get 11 9, zq_il 2, zq_puti 0 2, zq_al 0, zq_get 11 10, zq_il 1, zq_aald 2, zq_al 0, zq_get 11 9] [zq_alchk 0, zq_getchk 11 9, zq_ilchk 2, zq_putchk 0 2 .int, zq_alchk 0, zq_getchk 11 10, zq_ilchk 1, zq_is .aaload 1, zq_alchk 0, zq_getchk 11 9] 40 rfl (by decide +kernel) ?_
  refine ⟨rfl, (by decide), (by decide), ?_⟩
  show zq_G _ _ _ _ _ 40 ([(0, .ref 0), (1, .int 2), (2, .int (nI Q))], [.ref 33, .ref 37], XH tx (nI Z) (nI P, nI C, nI R, nI L, hs, ss, cs, gs, vs) dr rd (nI D, sm, nI N, nI K, ce, de, ke, se) i0 i1 kp (nI Q) tr m)
  refine zq_callD (av := [.ref 33]) (rest := []) (by decide +kernel) kd11_233 kd_Hidden (c_hidden_37 (Q := Q) (by omega)) rfl rfl rfl rfl ?_
  show zq_G _ _ _ _ _ 43 ([(0, .ref 0), (1, .int 2), (2, .int (nI Q))], [.int (de (Q * 5 + 2) - de (Q * 5 + 3) / 5)], XH tx (nI Z) (nI P, nI C, nI R, nI L, hs, ss, cs, gs, vs) dr rd (nI D, sm, nI N, nI K, ce, de, ke, se) i0 i1 kp (nI Q) ((tr + 100) + 1) m)
  exact zq_iret (by decide +kernel) rfl rfl rfl
set_option maxHeartbeats 4000000 in
set_option maxRecDepth 100000 in
theorem x_mark_3 {Q : Nat} {wq : Nat} (hQ2 : Q < N) (hN : N ≤ 12) (hw0 : de (Q * 5 + 0) = nI wq) (hw6 : wq < 6) : zq_P l mX11_mark 5 [.ref 0, .int 3, .int (nI Q)] (XH tx (nI Z) (nI P, nI C, nI R, nI L, hs, ss, cs, gs, vs) dr rd (nI D, sm, nI N, nI K, ce, de, ke, se) i0 i1 kp dd tr m) (some (.int ((de (Q * 5 + 2) + hs wq) * 2))) (XH tx (nI Z) (nI P, nI C, nI R, nI L, hs, ss, cs, gs, vs) dr rd (nI D, sm, nI N, nI K, ce, de, ke, se) i0 i1 kp (nI Q) (((tr + 1000) + 10) + 1) m) := by
  refine zq_start (by decide +kernel) rfl (Nat.le_of_ble_eq_true rfl) ?_
  show zq_G _ _ _ _ _ 0 ([(0, .ref 0), (1, .int 3), (2, .int (nI Q))], [], XH tx (nI Z) (nI P, nI C, nI R, nI L, hs, ss, cs, gs, vs) dr rd (nI D, sm, nI N, nI K, ce, de, ke, se) i0 i1 kp dd tr m)
  refine zq_b [zq_il 1, zq_k 5] [zq_ilchk 1, zq_kchk 5] 2 rfl (by decide +kernel) ?_
  show zq_G _ _ _ _ _ 2 ([(0, .ref 0), (1, .int 3), (2, .int (nI Q))], [.int 5, .int 3], XH tx (nI Z) (nI P, nI C, nI R, nI L, hs, ss, cs, gs, vs) dr rd (nI D, sm, nI N, nI K, ce, de, ke, se) i0 i1 kp dd tr m)
  refine zq_callS (av := [.int 3, .int 5]) (rest := []) (by decide +kernel) k11_87 (x_isBeyondN (p := 3) (q := 5) (by omega) (by omega)) rfl rfl ?_
  show zq_G _ _ _ _ _ 5 ([(0, .ref 0), (1, .int 3), (2, .int (nI Q))], [.int (zb (5 < 3))], XH tx (nI Z) (nI P, nI C, nI R, nI L, hs, ss, cs, gs, vs) dr rd (nI D, sm, nI N, nI K, ce, de, ke, se) i0 i1 kp dd tr m)
  refine zq_ifz .ne 19 (5 < 3) (by decide +kernel) (zb_ne _) (fun c5 => absurd c5 (by omega)) (fun c5 => ?_)
  show zq_G _ _ _ _ _ 8 ([(0, .ref 0), (1, .int 3), (2, .int (nI Q))], [], XH tx (nI Z) (nI P, nI C, nI R, nI L, hs, ss, cs, gs, vs) dr rd (nI D, sm, nI N, nI K, ce, de, ke, se) i0 i1 kp dd tr m)
  refine zq_b [zq_al 0, zq_get 11 5, zq_il 2] [zq_alchk 0, zq_getchk 11 5, zq_ilchk 2] 13 rfl (by decide +kernel) ?_
  show zq_G _ _ _ _ _ 13 ([(0, .ref 0), (1, .int 3), (2, .int (nI Q))], [.int (nI Q), .ref 15], XH tx (nI Z) (nI P, nI C, nI R, nI L, hs, ss, cs, gs, vs) dr rd (nI D, sm, nI N, nI K, ce, de, ke, se) i0 i1 kp dd tr m)
  refine zq_callV (av := [.int (nI Q)]) (rest := []) (by decide +kernel) k11_168 (x_hasDeedN (i := Q) hN (by omega)) rfl rfl rfl rfl ?_
  show zq_G _ _ _ _ _ 16 ([(0, .ref 0), (1, .int 3), (2, .int (nI Q))], [.int (zb (Q < N))], XH tx (nI Z) (nI P, nI C, nI R, nI L, hs, ss, cs, gs, vs) dr rd (nI D, sm, nI N, nI K, ce, de, ke, se) i0 i1 kp dd tr m)
  refine zq_ifz .ne 22 (Q < N) (by decide +kernel) (zb_ne _) (fun c16 => ?_) (fun c16 => absurd (by omega) c16)
  show zq_G _ _ _ _ _ 22 ([(0, .ref 0), (1, .int 3), (2, .int (nI Q))], [], XH tx (nI Z) (nI P, nI C, nI R, nI L, hs, ss, cs, gs, vs) dr rd (nI D, sm, nI N, nI K, ce, de, ke, se) i0 i1 kp dd tr m)
  refine zq_b [zq_al 0, zq_get 11 9, zq_il 2, zq_puti 0 2, zq_al 0, zq_get 11 10, zq_il 1, zq_aald 3, zq_al 0, zq_get 11 9] [zq_alchk 0, zq_getchk 11 9, zq_ilchk 2, zq_putchk 0 2 .int, zq_alchk 0, zq_getchk 11 10, zq_ilchk 1, zq_is .aaload 1, zq_alchk 0, zq_getchk 11 9] 40 rfl (by decide +kernel) ?_
  refine ⟨rfl, (by decide), (by decide), ?_⟩
  show zq_G _ _ _ _ _ 40 ([(0, .ref 0), (1, .int 3), (2, .int (nI Q))], [.ref 33, .ref 38], XH tx (nI Z) (nI P, nI C, nI R, nI L, hs, ss, cs, gs, vs) dr rd (nI D, sm, nI N, nI K, ce, de, ke, se) i0 i1 kp (nI Q) tr m)
  refine zq_callD (av := [.ref 33]) (rest := []) (by decide +kernel) kd11_233 kd_Lawful (c_lawful_38 (Q := Q) (wq := wq) (by omega) hw0 hw6) rfl rfl rfl rfl ?_
  show zq_G _ _ _ _ _ 43 ([(0, .ref 0), (1, .int 3), (2, .int (nI Q))], [.int ((de (Q * 5 + 2) + hs wq) * 2)], XH tx (nI Z) (nI P, nI C, nI R, nI L, hs, ss, cs, gs, vs) dr rd (nI D, sm, nI N, nI K, ce, de, ke, se) i0 i1 kp (nI Q) (((tr + 1000) + 10) + 1) m)
  exact zq_iret (by decide +kernel) rfl rfl rfl
set_option maxHeartbeats 4000000 in
set_option maxRecDepth 100000 in
theorem x_mark_4 {Q : Nat} (hQ2 : Q < N) (hN : N ≤ 12) : zq_P l mX11_mark 5 [.ref 0, .int 4, .int (nI Q)] (XH tx (nI Z) (nI P, nI C, nI R, nI L, hs, ss, cs, gs, vs) dr rd (nI D, sm, nI N, nI K, ce, de, ke, se) i0 i1 kp dd tr m) (some (.int ((de (Q * 5 + 2) - de (Q * 5 + 3) / 5) + nI C))) (XH tx (nI Z) (nI P, nI C, nI R, nI L, hs, ss, cs, gs, vs) dr rd (nI D, sm, nI N, nI K, ce, de, ke, se) i0 i1 kp (nI Q) (((tr + 10000) + 100) + 1) m) := by
  refine zq_start (by decide +kernel) rfl (Nat.le_of_ble_eq_true rfl) ?_
  show zq_G _ _ _ _ _ 0 ([(0, .ref 0), (1, .int 4), (2, .int (nI Q))], [], XH tx (nI Z) (nI P, nI C, nI R, nI L, hs, ss, cs, gs, vs) dr rd (nI D, sm, nI N, nI K, ce, de, ke, se) i0 i1 kp dd tr m)
  refine zq_b [zq_il 1, zq_k 5] [zq_ilchk 1, zq_kchk 5] 2 rfl (by decide +kernel) ?_
  show zq_G _ _ _ _ _ 2 ([(0, .ref 0), (1, .int 4), (2, .int (nI Q))], [.int 5, .int 4], XH tx (nI Z) (nI P, nI C, nI R, nI L, hs, ss, cs, gs, vs) dr rd (nI D, sm, nI N, nI K, ce, de, ke, se) i0 i1 kp dd tr m)
  refine zq_callS (av := [.int 4, .int 5]) (rest := []) (by decide +kernel) k11_87 (x_isBeyondN (p := 4) (q := 5) (by omega) (by omega)) rfl rfl ?_
  show zq_G _ _ _ _ _ 5 ([(0, .ref 0), (1, .int 4), (2, .int (nI Q))], [.int (zb (5 < 4))], XH tx (nI Z) (nI P, nI C, nI R, nI L, hs, ss, cs, gs, vs) dr rd (nI D, sm, nI N, nI K, ce, de, ke, se) i0 i1 kp dd tr m)
  refine zq_ifz .ne 19 (5 < 4) (by decide +kernel) (zb_ne _) (fun c5 => absurd c5 (by omega)) (fun c5 => ?_)
  show zq_G _ _ _ _ _ 8 ([(0, .ref 0), (1, .int 4), (2, .int (nI Q))], [], XH tx (nI Z) (nI P, nI C, nI R, nI L, hs, ss, cs, gs, vs) dr rd (nI D, sm, nI N, nI K, ce, de, ke, se) i0 i1 kp dd tr m)
  refine zq_b [zq_al 0, zq_get 11 5, zq_il 2] [zq_alchk 0, zq_getchk 11 5, zq_ilchk 2] 13 rfl (by decide +kernel) ?_
  show zq_G _ _ _ _ _ 13 ([(0, .ref 0), (1, .int 4), (2, .int (nI Q))], [.int (nI Q), .ref 15], XH tx (nI Z) (nI P, nI C, nI R, nI L, hs, ss, cs, gs, vs) dr rd (nI D, sm, nI N, nI K, ce, de, ke, se) i0 i1 kp dd tr m)
  refine zq_callV (av := [.int (nI Q)]) (rest := []) (by decide +kernel) k11_168 (x_hasDeedN (i := Q) hN (by omega)) rfl rfl rfl rfl ?_
  show zq_G _ _ _ _ _ 16 ([(0, .ref 0), (1, .int 4), (2, .int (nI Q))], [.int (zb (Q < N))], XH tx (nI Z) (nI P, nI C, nI R, nI L, hs, ss, cs, gs, vs) dr rd (nI D, sm, nI N, nI K, ce, de, ke, se) i0 i1 kp dd tr m)
  refine zq_ifz .ne 22 (Q < N) (by decide +kernel) (zb_ne _) (fun c16 => ?_) (fun c16 => absurd (by omega) c16)
  show zq_G _ _ _ _ _ 22 ([(0, .ref 0), (1, .int 4), (2, .int (nI Q))], [], XH tx (nI Z) (nI P, nI C, nI R, nI L, hs, ss, cs, gs, vs) dr rd (nI D, sm, nI N, nI K, ce, de, ke, se) i0 i1 kp dd tr m)
  refine zq_b [zq_al 0, zq_get 11 9, zq_il 2, zq_puti 0 2, zq_al 0, zq_get 11 10, zq_il 1, zq_aald 4, zq_al 0, zq_get 11 9] [zq_alchk 0, zq_getchk 11 9, zq_ilchk 2, zq_putchk 0 2 .int, zq_alchk 0, zq_getchk 11 10, zq_ilchk 1, zq_is .aaload 1, zq_alchk 0, zq_getchk 11 9] 40 rfl (by decide +kernel) ?_
  refine ⟨rfl, (by decide), (by decide), ?_⟩
  show zq_G _ _ _ _ _ 40 ([(0, .ref 0), (1, .int 4), (2, .int (nI Q))], [.ref 33, .ref 39], XH tx (nI Z) (nI P, nI C, nI R, nI L, hs, ss, cs, gs, vs) dr rd (nI D, sm, nI N, nI K, ce, de, ke, se) i0 i1 kp (nI Q) tr m)
  refine zq_callD (av := [.ref 33]) (rest := []) (by decide +kernel) kd11_233 kd_Clouded (c_clouded_39 (Q := Q) (by omega)) rfl rfl rfl rfl ?_
  show zq_G _ _ _ _ _ 43 ([(0, .ref 0), (1, .int 4), (2, .int (nI Q))], [.int ((de (Q * 5 + 2) - de (Q * 5 + 3) / 5) + nI C)], XH tx (nI Z) (nI P, nI C, nI R, nI L, hs, ss, cs, gs, vs) dr rd (nI D, sm, nI N, nI K, ce, de, ke, se) i0 i1 kp (nI Q) (((tr + 10000) + 100) + 1) m)
  exact zq_iret (by decide +kernel) rfl rfl rfl
set_option maxHeartbeats 4000000 in
set_option maxRecDepth 100000 in
theorem x_mark_5 {Q : Nat} (hQ2 : Q < N) (hN : N ≤ 12) : zq_P l mX11_mark 5 [.ref 0, .int 5, .int (nI Q)] (XH tx (nI Z) (nI P, nI C, nI R, nI L, hs, ss, cs, gs, vs) dr rd (nI D, sm, nI N, nI K, ce, de, ke, se) i0 i1 kp dd tr m) (some (.int (de (Q * 5 + 2) + nI (zct (fun i => decide (de (i * 5 + 1) = de (Q * 5 + 1))) N)))) (XH tx (nI Z) (nI P, nI C, nI R, nI L, hs, ss, cs, gs, vs) dr rd (nI D, sm, nI N, nI K, ce, de, ke, se) i0 i1 kp (nI Q) ((tr + 100000) + 1) m) := by
  refine zq_start (by decide +kernel) rfl (Nat.le_of_ble_eq_true rfl) ?_
  show zq_G _ _ _ _ _ 0 ([(0, .ref 0), (1, .int 5), (2, .int (nI Q))], [], XH tx (nI Z) (nI P, nI C, nI R, nI L, hs, ss, cs, gs, vs) dr rd (nI D, sm, nI N, nI K, ce, de, ke, se) i0 i1 kp dd tr m)
  refine zq_b [zq_il 1, zq_k 5] [zq_ilchk 1, zq_kchk 5] 2 rfl (by decide +kernel) ?_
  show zq_G _ _ _ _ _ 2 ([(0, .ref 0), (1, .int 5), (2, .int (nI Q))], [.int 5, .int 5], XH tx (nI Z) (nI P, nI C, nI R, nI L, hs, ss, cs, gs, vs) dr rd (nI D, sm, nI N, nI K, ce, de, ke, se) i0 i1 kp dd tr m)
  refine zq_callS (av := [.int 5, .int 5]) (rest := []) (by decide +kernel) k11_87 (x_isBeyondN (p := 5) (q := 5) (by omega) (by omega)) rfl rfl ?_
  show zq_G _ _ _ _ _ 5 ([(0, .ref 0), (1, .int 5), (2, .int (nI Q))], [.int (zb (5 < 5))], XH tx (nI Z) (nI P, nI C, nI R, nI L, hs, ss, cs, gs, vs) dr rd (nI D, sm, nI N, nI K, ce, de, ke, se) i0 i1 kp dd tr m)
  refine zq_ifz .ne 19 (5 < 5) (by decide +kernel) (zb_ne _) (fun c5 => absurd c5 (by omega)) (fun c5 => ?_)
  show zq_G _ _ _ _ _ 8 ([(0, .ref 0), (1, .int 5), (2, .int (nI Q))], [], XH tx (nI Z) (nI P, nI C, nI R, nI L, hs, ss, cs, gs, vs) dr rd (nI D, sm, nI N, nI K, ce, de, ke, se) i0 i1 kp dd tr m)
  refine zq_b [zq_al 0, zq_get 11 5, zq_il 2] [zq_alchk 0, zq_getchk 11 5, zq_ilchk 2] 13 rfl (by decide +kernel) ?_
  show zq_G _ _ _ _ _ 13 ([(0, .ref 0), (1, .int 5), (2, .int (nI Q))], [.int (nI Q), .ref 15], XH tx (nI Z) (nI P, nI C, nI R, nI L, hs, ss, cs, gs, vs) dr rd (nI D, sm, nI N, nI K, ce, de, ke, se) i0 i1 kp dd tr m)
  refine zq_callV (av := [.int (nI Q)]) (rest := []) (by decide +kernel) k11_168 (x_hasDeedN (i := Q) hN (by omega)) rfl rfl rfl rfl ?_
  show zq_G _ _ _ _ _ 16 ([(0, .ref 0), (1, .int 5), (2, .int (nI Q))], [.int (zb (Q < N))], XH tx (nI Z) (nI P, nI C, nI R, nI L, hs, ss, cs, gs, vs) dr rd (nI D, sm, nI N, nI K, ce, de, ke, se) i0 i1 kp dd tr m)
  refine zq_ifz .ne 22 (Q < N) (by decide +kernel) (zb_ne _) (fun c16 => ?_) (fun c16 => absurd (by omega) c16)
  show zq_G _ _ _ _ _ 22 ([(0, .ref 0), (1, .int 5), (2, .int (nI Q))], [], XH tx (nI Z) (nI P, nI C, nI R, nI L, hs, ss, cs, gs, vs) dr rd (nI D, sm, nI N, nI K, ce, de, ke, se) i0 i1 kp dd tr m)
  refine zq_b [zq_al 0, zq_get 11 9, zq_il 2, zq_puti 0 2, zq_al 0, zq_get 11 10, zq_il 1, zq_aald 5, zq_al 0, zq_get 11 9] [zq_alchk 0, zq_getchk 11 9, zq_ilchk 2, zq_putchk 0 2 .int, zq_alchk 0, zq_getchk 11 10, zq_ilchk 1, zq_is .aaload 1, zq_alchk 0, zq_getchk 11 9] 40 rfl (by decide +kernel) ?_
  refine ⟨rfl, (by decide), (by decide), ?_⟩
  show zq_G _ _ _ _ _ 40 ([(0, .ref 0), (1, .int 5), (2, .int (nI Q))], [.ref 33, .ref 40], XH tx (nI Z) (nI P, nI C, nI R, nI L, hs, ss, cs, gs, vs) dr rd (nI D, sm, nI N, nI K, ce, de, ke, se) i0 i1 kp (nI Q) tr m)
  refine zq_callD (av := [.ref 33]) (rest := []) (by decide +kernel) kd11_233 kd_Twice (c_twice_40 (Q := Q) (by omega) hN) rfl rfl rfl rfl ?_
  show zq_G _ _ _ _ _ 43 ([(0, .ref 0), (1, .int 5), (2, .int (nI Q))], [.int (de (Q * 5 + 2) + nI (zct (fun i => decide (de (i * 5 + 1) = de (Q * 5 + 1))) N))], XH tx (nI Z) (nI P, nI C, nI R, nI L, hs, ss, cs, gs, vs) dr rd (nI D, sm, nI N, nI K, ce, de, ke, se) i0 i1 kp (nI Q) ((tr + 100000) + 1) m)
  exact zq_iret (by decide +kernel) rfl rfl rfl
set_option maxHeartbeats 4000000 in
set_option maxRecDepth 100000 in
theorem x_keep_bad {x : Int32} (hb : x.toInt < 0 ∨ 1 < x.toInt) : zq_P l mX11_keep 1 [.ref 0, .int x] (XH tx (nI Z) (nI P, nI C, nI R, nI L, hs, ss, cs, gs, vs) dr rd (nI D, sm, nI N, nI K, ce, de, ke, se) i0 i1 kp dd tr m) (some (.int (-1))) (XH tx (nI Z) (nI P, nI C, nI R, nI L, hs, ss, cs, gs, vs) dr rd (nI D, sm, nI N, nI K, ce, de, ke, se) i0 i1 kp dd tr m) := by
  refine zq_start (by decide +kernel) rfl (Nat.le_of_ble_eq_true rfl) ?_
  show zq_G _ _ _ _ _ 0 ([(0, .ref 0), (1, .int x)], [], XH tx (nI Z) (nI P, nI C, nI R, nI L, hs, ss, cs, gs, vs) dr rd (nI D, sm, nI N, nI K, ce, de, ke, se) i0 i1 kp dd tr m)
  refine zq_b [zq_il 1, zq_k 1] [zq_ilchk 1, zq_kchk 1] 2 rfl (by decide +kernel) ?_
  show zq_G _ _ _ _ _ 2 ([(0, .ref 0), (1, .int x)], [.int 1, .int x], XH tx (nI Z) (nI P, nI C, nI R, nI L, hs, ss, cs, gs, vs) dr rd (nI D, sm, nI N, nI K, ce, de, ke, se) i0 i1 kp dd tr m)
  refine zq_callS (av := [.int x, .int 1]) (rest := []) (by decide +kernel) k11_87 (x_isBeyond (x := x) (q := 1) (by omega)) rfl rfl ?_
  show zq_G _ _ _ _ _ 5 ([(0, .ref 0), (1, .int x)], [.int (zb (x.toInt < 0 ∨ (1 : Int) < x.toInt))], XH tx (nI Z) (nI P, nI C, nI R, nI L, hs, ss, cs, gs, vs) dr rd (nI D, sm, nI N, nI K, ce, de, ke, se) i0 i1 kp dd tr m)
  refine zq_ifz .eq 10 (¬ (x.toInt < 0 ∨ (1 : Int) < x.toInt)) (by decide +kernel) (zb_eq _) (fun c5 => ?_) (fun c5 => ?_)
  · show zq_G _ _ _ _ _ 10 ([(0, .ref 0), (1, .int x)], [], XH tx (nI Z) (nI P, nI C, nI R, nI L, hs, ss, cs, gs, vs) dr rd (nI D, sm, nI N, nI K, ce, de, ke, se) i0 i1 kp dd tr m)
    exact absurd hb (by omega)
  · show zq_G _ _ _ _ _ 8 ([(0, .ref 0), (1, .int x)], [], XH tx (nI Z) (nI P, nI C, nI R, nI L, hs, ss, cs, gs, vs) dr rd (nI D, sm, nI N, nI K, ce, de, ke, se) i0 i1 kp dd tr m)
    refine zq_b [zq_k (-1)] [zq_kchk (-1)] 9 rfl (by decide +kernel) ?_
    show zq_G _ _ _ _ _ 9 ([(0, .ref 0), (1, .int x)], [.int (-1)], XH tx (nI Z) (nI P, nI C, nI R, nI L, hs, ss, cs, gs, vs) dr rd (nI D, sm, nI N, nI K, ce, de, ke, se) i0 i1 kp dd tr m)
    exact zq_iret (by decide +kernel) rfl rfl rfl
set_option maxHeartbeats 4000000 in
set_option maxRecDepth 100000 in
theorem x_back_bad {x : Int32} (hb : x.toInt < 0 ∨ 1 < x.toInt) : zq_P l mX11_back 1 [.ref 0, .int x] (XH tx (nI Z) (nI P, nI C, nI R, nI L, hs, ss, cs, gs, vs) dr rd (nI D, sm, nI N, nI K, ce, de, ke, se) i0 i1 kp dd tr m) (some (.int (-1))) (XH tx (nI Z) (nI P, nI C, nI R, nI L, hs, ss, cs, gs, vs) dr rd (nI D, sm, nI N, nI K, ce, de, ke, se) i0 i1 kp dd tr m) := by
  refine zq_start (by decide +kernel) rfl (Nat.le_of_ble_eq_true rfl) ?_
  show zq_G _ _ _ _ _ 0 ([(0, .ref 0), (1, .int x)], [], XH tx (nI Z) (nI P, nI C, nI R, nI L, hs, ss, cs, gs, vs) dr rd (nI D, sm, nI N, nI K, ce, de, ke, se) i0 i1 kp dd tr m)
  refine zq_b [zq_il 1, zq_k 1] [zq_ilchk 1, zq_kchk 1] 2 rfl (by decide +kernel) ?_
  show zq_G _ _ _ _ _ 2 ([(0, .ref 0), (1, .int x)], [.int 1, .int x], XH tx (nI Z) (nI P, nI C, nI R, nI L, hs, ss, cs, gs, vs) dr rd (nI D, sm, nI N, nI K, ce, de, ke, se) i0 i1 kp dd tr m)
  refine zq_callS (av := [.int x, .int 1]) (rest := []) (by decide +kernel) k11_87 (x_isBeyond (x := x) (q := 1) (by omega)) rfl rfl ?_
  show zq_G _ _ _ _ _ 5 ([(0, .ref 0), (1, .int x)], [.int (zb (x.toInt < 0 ∨ (1 : Int) < x.toInt))], XH tx (nI Z) (nI P, nI C, nI R, nI L, hs, ss, cs, gs, vs) dr rd (nI D, sm, nI N, nI K, ce, de, ke, se) i0 i1 kp dd tr m)
  refine zq_ifz .eq 10 (¬ (x.toInt < 0 ∨ (1 : Int) < x.toInt)) (by decide +kernel) (zb_eq _) (fun c5 => ?_) (fun c5 => ?_)
  · show zq_G _ _ _ _ _ 10 ([(0, .ref 0), (1, .int x)], [], XH tx (nI Z) (nI P, nI C, nI R, nI L, hs, ss, cs, gs, vs) dr rd (nI D, sm, nI N, nI K, ce, de, ke, se) i0 i1 kp dd tr m)
    exact absurd hb (by omega)
  · show zq_G _ _ _ _ _ 8 ([(0, .ref 0), (1, .int x)], [], XH tx (nI Z) (nI P, nI C, nI R, nI L, hs, ss, cs, gs, vs) dr rd (nI D, sm, nI N, nI K, ce, de, ke, se) i0 i1 kp dd tr m)
    refine zq_b [zq_k (-1)] [zq_kchk (-1)] 9 rfl (by decide +kernel) ?_
    show zq_G _ _ _ _ _ 9 ([(0, .ref 0), (1, .int x)], [.int (-1)], XH tx (nI Z) (nI P, nI C, nI R, nI L, hs, ss, cs, gs, vs) dr rd (nI D, sm, nI N, nI K, ce, de, ke, se) i0 i1 kp dd tr m)
    exact zq_iret (by decide +kernel) rfl rfl rfl
set_option maxHeartbeats 4000000 in
set_option maxRecDepth 100000 in
theorem x_keep_0   : zq_P l mX11_keep 2 [.ref 0, .int 0] (XH tx (nI Z) (nI P, nI C, nI R, nI L, hs, ss, cs, gs, vs) dr rd (nI D, sm, nI N, nI K, ce, de, ke, se) i0 i1 kp dd tr m) (some (.int (nI D))) (XH tx (nI Z) (nI P, nI C, nI R, nI L, hs, ss, cs, gs, vs) dr rd (nI D, sm, nI N, nI K, ce, de, ke, se) (nI D, sm, nI N, nI K, va_cpy ce i0.2.2.2.2.1 0 0 6, va_cpy de i0.2.2.2.2.2.1 0 0 60, va_cpy ke i0.2.2.2.2.2.2.1 0 0 99, va_cpy se i0.2.2.2.2.2.2.2 0 0 30) i1 (upd kp 0 1) dd tr m) := by
  refine zq_start (by decide +kernel) rfl (Nat.le_of_ble_eq_true rfl) ?_
  show zq_G _ _ _ _ _ 0 ([(0, .ref 0), (1, .int 0)], [], XH tx (nI Z) (nI P, nI C, nI R, nI L, hs, ss, cs, gs, vs) dr rd (nI D, sm, nI N, nI K, ce, de, ke, se) i0 i1 kp dd tr m)
  refine zq_b [zq_il 1, zq_k 1] [zq_ilchk 1, zq_kchk 1] 2 rfl (by decide +kernel) ?_
  show zq_G _ _ _ _ _ 2 ([(0, .ref 0), (1, .int 0)], [.int 1, .int 0], XH tx (nI Z) (nI P, nI C, nI R, nI L, hs, ss, cs, gs, vs) dr rd (nI D, sm, nI N, nI K, ce, de, ke, se) i0 i1 kp dd tr m)
  refine zq_callS (av := [.int 0, .int 1]) (rest := []) (by decide +kernel) k11_87 (x_isBeyondN (p := 0) (q := 1) (by omega) (by omega)) rfl rfl ?_
  show zq_G _ _ _ _ _ 5 ([(0, .ref 0), (1, .int 0)], [.int (zb (1 < 0))], XH tx (nI Z) (nI P, nI C, nI R, nI L, hs, ss, cs, gs, vs) dr rd (nI D, sm, nI N, nI K, ce, de, ke, se) i0 i1 kp dd tr m)
  refine zq_ifz .eq 10 (¬ (1 < 0)) (by decide +kernel) (zb_eq _) (fun c5 => ?_) (fun c5 => absurd (by omega) c5)
  show zq_G _ _ _ _ _ 10 ([(0, .ref 0), (1, .int 0)], [], XH tx (nI Z) (nI P, nI C, nI R, nI L, hs, ss, cs, gs, vs) dr rd (nI D, sm, nI N, nI K, ce, de, ke, se) i0 i1 kp dd tr m)
  refine zq_b [zq_al 0, zq_get 11 6, zq_il 1, zq_aald 0, zq_al 0, zq_get 11 5] [zq_alchk 0, zq_getchk 11 6, zq_ilchk 1, zq_is .aaload 1, zq_alchk 0, zq_getchk 11 5] 20 rfl (by decide +kernel) ?_
  refine ⟨rfl, (by decide), (by decide), ?_⟩
  show zq_G _ _ _ _ _ 20 ([(0, .ref 0), (1, .int 0)], [.ref 15, .ref 21], XH tx (nI Z) (nI P, nI C, nI R, nI L, hs, ss, cs, gs, vs) dr rd (nI D, sm, nI N, nI K, ce, de, ke, se) i0 i1 kp dd tr m)
  refine zq_callV (av := [.ref 15]) (rest := []) (by decide +kernel) k11_237 (c_nbecome_21_15) rfl rfl rfl rfl ?_
  show zq_G _ _ _ _ _ 23 ([(0, .ref 0), (1, .int 0)], [], XH tx (nI Z) (nI P, nI C, nI R, nI L, hs, ss, cs, gs, vs) dr rd (nI D, sm, nI N, nI K, ce, de, ke, se) (nI D, sm, nI N, nI K, va_cpy ce i0.2.2.2.2.1 0 0 6, va_cpy de i0.2.2.2.2.2.1 0 0 60, va_cpy ke i0.2.2.2.2.2.2.1 0 0 99, va_cpy se i0.2.2.2.2.2.2.2 0 0 30) i1 kp dd tr m)
  refine zq_b [zq_al 0, zq_get 11 7, zq_il 1, zq_k 1, zq_zast 0, zq_al 0, zq_get 11 5, zq_get 5 1] [zq_alchk 0, zq_getchk 11 7, zq_ilchk 1, zq_kchk 1, zq_is .bastore 1, zq_alchk 0, zq_getchk 11 5, zq_getchk 5 1] 37 rfl (by decide +kernel) ?_
  refine ⟨rfl, (by omega), (by omega), (Or.inr rfl), ?_⟩
  show zq_G _ _ _ _ _ 37 ([(0, .ref 0), (1, .int 0)], [.int (nI D)], XH tx (nI Z) (nI P, nI C, nI R, nI L, hs, ss, cs, gs, vs) dr rd (nI D, sm, nI N, nI K, ce, de, ke, se) (nI D, sm, nI N, nI K, va_cpy ce i0.2.2.2.2.1 0 0 6, va_cpy de i0.2.2.2.2.2.1 0 0 60, va_cpy ke i0.2.2.2.2.2.2.1 0 0 99, va_cpy se i0.2.2.2.2.2.2.2 0 0 30) i1 (upd kp 0 1) dd tr m)
  exact zq_iret (by decide +kernel) rfl rfl rfl
set_option maxHeartbeats 4000000 in
set_option maxRecDepth 100000 in
theorem x_back_0_st  (hb : kp 0 = 0) : zq_P l mX11_back 1 [.ref 0, .int 0] (XH tx (nI Z) (nI P, nI C, nI R, nI L, hs, ss, cs, gs, vs) dr rd (nI D, sm, nI N, nI K, ce, de, ke, se) i0 i1 kp dd tr m) (some (.int (-2))) (XH tx (nI Z) (nI P, nI C, nI R, nI L, hs, ss, cs, gs, vs) dr rd (nI D, sm, nI N, nI K, ce, de, ke, se) i0 i1 kp dd tr m) := by
  refine zq_start (by decide +kernel) rfl (Nat.le_of_ble_eq_true rfl) ?_
  show zq_G _ _ _ _ _ 0 ([(0, .ref 0), (1, .int 0)], [], XH tx (nI Z) (nI P, nI C, nI R, nI L, hs, ss, cs, gs, vs) dr rd (nI D, sm, nI N, nI K, ce, de, ke, se) i0 i1 kp dd tr m)
  refine zq_b [zq_il 1, zq_k 1] [zq_ilchk 1, zq_kchk 1] 2 rfl (by decide +kernel) ?_
  show zq_G _ _ _ _ _ 2 ([(0, .ref 0), (1, .int 0)], [.int 1, .int 0], XH tx (nI Z) (nI P, nI C, nI R, nI L, hs, ss, cs, gs, vs) dr rd (nI D, sm, nI N, nI K, ce, de, ke, se) i0 i1 kp dd tr m)
  refine zq_callS (av := [.int 0, .int 1]) (rest := []) (by decide +kernel) k11_87 (x_isBeyondN (p := 0) (q := 1) (by omega) (by omega)) rfl rfl ?_
  show zq_G _ _ _ _ _ 5 ([(0, .ref 0), (1, .int 0)], [.int (zb (1 < 0))], XH tx (nI Z) (nI P, nI C, nI R, nI L, hs, ss, cs, gs, vs) dr rd (nI D, sm, nI N, nI K, ce, de, ke, se) i0 i1 kp dd tr m)
  refine zq_ifz .eq 10 (¬ (1 < 0)) (by decide +kernel) (zb_eq _) (fun c5 => ?_) (fun c5 => absurd (by omega) c5)
  show zq_G _ _ _ _ _ 10 ([(0, .ref 0), (1, .int 0)], [], XH tx (nI Z) (nI P, nI C, nI R, nI L, hs, ss, cs, gs, vs) dr rd (nI D, sm, nI N, nI K, ce, de, ke, se) i0 i1 kp dd tr m)
  refine zq_b [zq_al 0, zq_get 11 7, zq_il 1, zq_zald 0 (kp 0)] [zq_alchk 0, zq_getchk 11 7, zq_ilchk 1, zq_is .baload 1] 16 rfl (by decide +kernel) ?_
  refine ⟨rfl, (by omega), (by omega), rfl, ?_⟩
  show zq_G _ _ _ _ _ 16 ([(0, .ref 0), (1, .int 0)], [.int (kp 0)], XH tx (nI Z) (nI P, nI C, nI R, nI L, hs, ss, cs, gs, vs) dr rd (nI D, sm, nI N, nI K, ce, de, ke, se) i0 i1 kp dd tr m)
  refine zq_ifz .ne 22 (¬ (kp 0) = 0) (by decide +kernel) (Iff.rfl) (fun c16 => absurd c16 (fun q => q hb)) (fun c16 => ?_)
  show zq_G _ _ _ _ _ 19 ([(0, .ref 0), (1, .int 0)], [], XH tx (nI Z) (nI P, nI C, nI R, nI L, hs, ss, cs, gs, vs) dr rd (nI D, sm, nI N, nI K, ce, de, ke, se) i0 i1 kp dd tr m)
  refine zq_b [zq_k (-2)] [zq_kchk (-2)] 21 rfl (by decide +kernel) ?_
  show zq_G _ _ _ _ _ 21 ([(0, .ref 0), (1, .int 0)], [.int (-2)], XH tx (nI Z) (nI P, nI C, nI R, nI L, hs, ss, cs, gs, vs) dr rd (nI D, sm, nI N, nI K, ce, de, ke, se) i0 i1 kp dd tr m)
  exact zq_iret (by decide +kernel) rfl rfl rfl
set_option maxHeartbeats 4000000 in
set_option maxRecDepth 100000 in
theorem x_back_0  (hb : ¬ kp 0 = 0) : zq_P l mX11_back 2 [.ref 0, .int 0] (XH tx (nI Z) (nI P, nI C, nI R, nI L, hs, ss, cs, gs, vs) dr rd (nI D, sm, nI N, nI K, ce, de, ke, se) i0 i1 kp dd tr m) (some (.int i0.1)) (XH tx (nI Z) (nI P, nI C, nI R, nI L, hs, ss, cs, gs, vs) dr rd (i0.1, i0.2.1, i0.2.2.1, i0.2.2.2.1, va_cpy i0.2.2.2.2.1 ce 0 0 6, va_cpy i0.2.2.2.2.2.1 de 0 0 60, va_cpy i0.2.2.2.2.2.2.1 ke 0 0 99, va_cpy i0.2.2.2.2.2.2.2 se 0 0 30) i0 i1 kp dd tr m) := by
  refine zq_start (by decide +kernel) rfl (Nat.le_of_ble_eq_true rfl) ?_
  show zq_G _ _ _ _ _ 0 ([(0, .ref 0), (1, .int 0)], [], XH tx (nI Z) (nI P, nI C, nI R, nI L, hs, ss, cs, gs, vs) dr rd (nI D, sm, nI N, nI K, ce, de, ke, se) i0 i1 kp dd tr m)
  refine zq_b [zq_il 1, zq_k 1] [zq_ilchk 1, zq_kchk 1] 2 rfl (by decide +kernel) ?_
  show zq_G _ _ _ _ _ 2 ([(0, .ref 0), (1, .int 0)], [.int 1, .int 0], XH tx (nI Z) (nI P, nI C, nI R, nI L, hs, ss, cs, gs, vs) dr rd (nI D, sm, nI N, nI K, ce, de, ke, se) i0 i1 kp dd tr m)
  refine zq_callS (av := [.int 0, .int 1]) (rest := []) (by decide +kernel) k11_87 (x_isBeyondN (p := 0) (q := 1) (by omega) (by omega)) rfl rfl ?_
  show zq_G _ _ _ _ _ 5 ([(0, .ref 0), (1, .int 0)], [.int (zb (1 < 0))], XH tx (nI Z) (nI P, nI C, nI R, nI L, hs, ss, cs, gs, vs) dr rd (nI D, sm, nI N, nI K, ce, de, ke, se) i0 i1 kp dd tr m)
  refine zq_ifz .eq 10 (¬ (1 < 0)) (by decide +kernel) (zb_eq _) (fun c5 => ?_) (fun c5 => absurd (by omega) c5)
  show zq_G _ _ _ _ _ 10 ([(0, .ref 0), (1, .int 0)], [], XH tx (nI Z) (nI P, nI C, nI R, nI L, hs, ss, cs, gs, vs) dr rd (nI D, sm, nI N, nI K, ce, de, ke, se) i0 i1 kp dd tr m)
  refine zq_b [zq_al 0, zq_get 11 7, zq_il 1, zq_zald 0 (kp 0)] [zq_alchk 0, zq_getchk 11 7, zq_ilchk 1, zq_is .baload 1] 16 rfl (by decide +kernel) ?_
  refine ⟨rfl, (by omega), (by omega), rfl, ?_⟩
  show zq_G _ _ _ _ _ 16 ([(0, .ref 0), (1, .int 0)], [.int (kp 0)], XH tx (nI Z) (nI P, nI C, nI R, nI L, hs, ss, cs, gs, vs) dr rd (nI D, sm, nI N, nI K, ce, de, ke, se) i0 i1 kp dd tr m)
  refine zq_ifz .ne 22 (¬ (kp 0) = 0) (by decide +kernel) (Iff.rfl) (fun c16 => ?_) (fun c16 => absurd hb c16)
  show zq_G _ _ _ _ _ 22 ([(0, .ref 0), (1, .int 0)], [], XH tx (nI Z) (nI P, nI C, nI R, nI L, hs, ss, cs, gs, vs) dr rd (nI D, sm, nI N, nI K, ce, de, ke, se) i0 i1 kp dd tr m)
  refine zq_b [zq_al 0, zq_get 11 5, zq_al 0, zq_get 11 6, zq_il 1, zq_aald 0] [zq_alchk 0, zq_getchk 11 5, zq_alchk 0, zq_getchk 11 6, zq_ilchk 1, zq_is .aaload 1] 32 rfl (by decide +kernel) ?_
  refine ⟨rfl, (by decide), (by decide), ?_⟩
  show zq_G _ _ _ _ _ 32 ([(0, .ref 0), (1, .int 0)], [.ref 21, .ref 15], XH tx (nI Z) (nI P, nI C, nI R, nI L, hs, ss, cs, gs, vs) dr rd (nI D, sm, nI N, nI K, ce, de, ke, se) i0 i1 kp dd tr m)
  refine zq_callV (av := [.ref 21]) (rest := []) (by decide +kernel) k11_237 (c_nbecome_15_21) rfl rfl rfl rfl ?_
  show zq_G _ _ _ _ _ 35 ([(0, .ref 0), (1, .int 0)], [], XH tx (nI Z) (nI P, nI C, nI R, nI L, hs, ss, cs, gs, vs) dr rd (i0.1, i0.2.1, i0.2.2.1, i0.2.2.2.1, va_cpy i0.2.2.2.2.1 ce 0 0 6, va_cpy i0.2.2.2.2.2.1 de 0 0 60, va_cpy i0.2.2.2.2.2.2.1 ke 0 0 99, va_cpy i0.2.2.2.2.2.2.2 se 0 0 30) i0 i1 kp dd tr m)
  refine zq_b [zq_al 0, zq_get 11 5, zq_get 5 1] [zq_alchk 0, zq_getchk 11 5, zq_getchk 5 1] 42 rfl (by decide +kernel) ?_
  show zq_G _ _ _ _ _ 42 ([(0, .ref 0), (1, .int 0)], [.int i0.1], XH tx (nI Z) (nI P, nI C, nI R, nI L, hs, ss, cs, gs, vs) dr rd (i0.1, i0.2.1, i0.2.2.1, i0.2.2.2.1, va_cpy i0.2.2.2.2.1 ce 0 0 6, va_cpy i0.2.2.2.2.2.1 de 0 0 60, va_cpy i0.2.2.2.2.2.2.1 ke 0 0 99, va_cpy i0.2.2.2.2.2.2.2 se 0 0 30) i0 i1 kp dd tr m)
  exact zq_iret (by decide +kernel) rfl rfl rfl
set_option maxHeartbeats 4000000 in
set_option maxRecDepth 100000 in
theorem x_keep_1   : zq_P l mX11_keep 2 [.ref 0, .int 1] (XH tx (nI Z) (nI P, nI C, nI R, nI L, hs, ss, cs, gs, vs) dr rd (nI D, sm, nI N, nI K, ce, de, ke, se) i0 i1 kp dd tr m) (some (.int (nI D))) (XH tx (nI Z) (nI P, nI C, nI R, nI L, hs, ss, cs, gs, vs) dr rd (nI D, sm, nI N, nI K, ce, de, ke, se) i0 (nI D, sm, nI N, nI K, va_cpy ce i1.2.2.2.2.1 0 0 6, va_cpy de i1.2.2.2.2.2.1 0 0 60, va_cpy ke i1.2.2.2.2.2.2.1 0 0 99, va_cpy se i1.2.2.2.2.2.2.2 0 0 30) (upd kp 1 1) dd tr m) := by
  refine zq_start (by decide +kernel) rfl (Nat.le_of_ble_eq_true rfl) ?_
  show zq_G _ _ _ _ _ 0 ([(0, .ref 0), (1, .int 1)], [], XH tx (nI Z) (nI P, nI C, nI R, nI L, hs, ss, cs, gs, vs) dr rd (nI D, sm, nI N, nI K, ce, de, ke, se) i0 i1 kp dd tr m)
  refine zq_b [zq_il 1, zq_k 1] [zq_ilchk 1, zq_kchk 1] 2 rfl (by decide +kernel) ?_
  show zq_G _ _ _ _ _ 2 ([(0, .ref 0), (1, .int 1)], [.int 1, .int 1], XH tx (nI Z) (nI P, nI C, nI R, nI L, hs, ss, cs, gs, vs) dr rd (nI D, sm, nI N, nI K, ce, de, ke, se) i0 i1 kp dd tr m)
  refine zq_callS (av := [.int 1, .int 1]) (rest := []) (by decide +kernel) k11_87 (x_isBeyondN (p := 1) (q := 1) (by omega) (by omega)) rfl rfl ?_
  show zq_G _ _ _ _ _ 5 ([(0, .ref 0), (1, .int 1)], [.int (zb (1 < 1))], XH tx (nI Z) (nI P, nI C, nI R, nI L, hs, ss, cs, gs, vs) dr rd (nI D, sm, nI N, nI K, ce, de, ke, se) i0 i1 kp dd tr m)
  refine zq_ifz .eq 10 (¬ (1 < 1)) (by decide +kernel) (zb_eq _) (fun c5 => ?_) (fun c5 => absurd (by omega) c5)
  show zq_G _ _ _ _ _ 10 ([(0, .ref 0), (1, .int 1)], [], XH tx (nI Z) (nI P, nI C, nI R, nI L, hs, ss, cs, gs, vs) dr rd (nI D, sm, nI N, nI K, ce, de, ke, se) i0 i1 kp dd tr m)
  refine zq_b [zq_al 0, zq_get 11 6, zq_il 1, zq_aald 1, zq_al 0, zq_get 11 5] [zq_alchk 0, zq_getchk 11 6, zq_ilchk 1, zq_is .aaload 1, zq_alchk 0, zq_getchk 11 5] 20 rfl (by decide +kernel) ?_
  refine ⟨rfl, (by decide), (by decide), ?_⟩
  show zq_G _ _ _ _ _ 20 ([(0, .ref 0), (1, .int 1)], [.ref 15, .ref 26], XH tx (nI Z) (nI P, nI C, nI R, nI L, hs, ss, cs, gs, vs) dr rd (nI D, sm, nI N, nI K, ce, de, ke, se) i0 i1 kp dd tr m)
  refine zq_callV (av := [.ref 15]) (rest := []) (by decide +kernel) k11_237 (c_nbecome_26_15) rfl rfl rfl rfl ?_
  show zq_G _ _ _ _ _ 23 ([(0, .ref 0), (1, .int 1)], [], XH tx (nI Z) (nI P, nI C, nI R, nI L, hs, ss, cs, gs, vs) dr rd (nI D, sm, nI N, nI K, ce, de, ke, se) i0 (nI D, sm, nI N, nI K, va_cpy ce i1.2.2.2.2.1 0 0 6, va_cpy de i1.2.2.2.2.2.1 0 0 60, va_cpy ke i1.2.2.2.2.2.2.1 0 0 99, va_cpy se i1.2.2.2.2.2.2.2 0 0 30) kp dd tr m)
  refine zq_b [zq_al 0, zq_get 11 7, zq_il 1, zq_k 1, zq_zast 1, zq_al 0, zq_get 11 5, zq_get 5 1] [zq_alchk 0, zq_getchk 11 7, zq_ilchk 1, zq_kchk 1, zq_is .bastore 1, zq_alchk 0, zq_getchk 11 5, zq_getchk 5 1] 37 rfl (by decide +kernel) ?_
  refine ⟨rfl, (by omega), (by omega), (Or.inr rfl), ?_⟩
  show zq_G _ _ _ _ _ 37 ([(0, .ref 0), (1, .int 1)], [.int (nI D)], XH tx (nI Z) (nI P, nI C, nI R, nI L, hs, ss, cs, gs, vs) dr rd (nI D, sm, nI N, nI K, ce, de, ke, se) i0 (nI D, sm, nI N, nI K, va_cpy ce i1.2.2.2.2.1 0 0 6, va_cpy de i1.2.2.2.2.2.1 0 0 60, va_cpy ke i1.2.2.2.2.2.2.1 0 0 99, va_cpy se i1.2.2.2.2.2.2.2 0 0 30) (upd kp 1 1) dd tr m)
  exact zq_iret (by decide +kernel) rfl rfl rfl
set_option maxHeartbeats 4000000 in
set_option maxRecDepth 100000 in
theorem x_back_1_st  (hb : kp 1 = 0) : zq_P l mX11_back 1 [.ref 0, .int 1] (XH tx (nI Z) (nI P, nI C, nI R, nI L, hs, ss, cs, gs, vs) dr rd (nI D, sm, nI N, nI K, ce, de, ke, se) i0 i1 kp dd tr m) (some (.int (-2))) (XH tx (nI Z) (nI P, nI C, nI R, nI L, hs, ss, cs, gs, vs) dr rd (nI D, sm, nI N, nI K, ce, de, ke, se) i0 i1 kp dd tr m) := by
  refine zq_start (by decide +kernel) rfl (Nat.le_of_ble_eq_true rfl) ?_
  show zq_G _ _ _ _ _ 0 ([(0, .ref 0), (1, .int 1)], [], XH tx (nI Z) (nI P, nI C, nI R, nI L, hs, ss, cs, gs, vs) dr rd (nI D, sm, nI N, nI K, ce, de, ke, se) i0 i1 kp dd tr m)
  refine zq_b [zq_il 1, zq_k 1] [zq_ilchk 1, zq_kchk 1] 2 rfl (by decide +kernel) ?_
  show zq_G _ _ _ _ _ 2 ([(0, .ref 0), (1, .int 1)], [.int 1, .int 1], XH tx (nI Z) (nI P, nI C, nI R, nI L, hs, ss, cs, gs, vs) dr rd (nI D, sm, nI N, nI K, ce, de, ke, se) i0 i1 kp dd tr m)
  refine zq_callS (av := [.int 1, .int 1]) (rest := []) (by decide +kernel) k11_87 (x_isBeyondN (p := 1) (q := 1) (by omega) (by omega)) rfl rfl ?_
  show zq_G _ _ _ _ _ 5 ([(0, .ref 0), (1, .int 1)], [.int (zb (1 < 1))], XH tx (nI Z) (nI P, nI C, nI R, nI L, hs, ss, cs, gs, vs) dr rd (nI D, sm, nI N, nI K, ce, de, ke, se) i0 i1 kp dd tr m)
  refine zq_ifz .eq 10 (¬ (1 < 1)) (by decide +kernel) (zb_eq _) (fun c5 => ?_) (fun c5 => absurd (by omega) c5)
  show zq_G _ _ _ _ _ 10 ([(0, .ref 0), (1, .int 1)], [], XH tx (nI Z) (nI P, nI C, nI R, nI L, hs, ss, cs, gs, vs) dr rd (nI D, sm, nI N, nI K, ce, de, ke, se) i0 i1 kp dd tr m)
  refine zq_b [zq_al 0, zq_get 11 7, zq_il 1, zq_zald 1 (kp 1)] [zq_alchk 0, zq_getchk 11 7, zq_ilchk 1, zq_is .baload 1] 16 rfl (by decide +kernel) ?_
  refine ⟨rfl, (by omega), (by omega), rfl, ?_⟩
  show zq_G _ _ _ _ _ 16 ([(0, .ref 0), (1, .int 1)], [.int (kp 1)], XH tx (nI Z) (nI P, nI C, nI R, nI L, hs, ss, cs, gs, vs) dr rd (nI D, sm, nI N, nI K, ce, de, ke, se) i0 i1 kp dd tr m)
  refine zq_ifz .ne 22 (¬ (kp 1) = 0) (by decide +kernel) (Iff.rfl) (fun c16 => absurd c16 (fun q => q hb)) (fun c16 => ?_)
  show zq_G _ _ _ _ _ 19 ([(0, .ref 0), (1, .int 1)], [], XH tx (nI Z) (nI P, nI C, nI R, nI L, hs, ss, cs, gs, vs) dr rd (nI D, sm, nI N, nI K, ce, de, ke, se) i0 i1 kp dd tr m)
  refine zq_b [zq_k (-2)] [zq_kchk (-2)] 21 rfl (by decide +kernel) ?_
  show zq_G _ _ _ _ _ 21 ([(0, .ref 0), (1, .int 1)], [.int (-2)], XH tx (nI Z) (nI P, nI C, nI R, nI L, hs, ss, cs, gs, vs) dr rd (nI D, sm, nI N, nI K, ce, de, ke, se) i0 i1 kp dd tr m)
  exact zq_iret (by decide +kernel) rfl rfl rfl
set_option maxHeartbeats 4000000 in
set_option maxRecDepth 100000 in
theorem x_back_1  (hb : ¬ kp 1 = 0) : zq_P l mX11_back 2 [.ref 0, .int 1] (XH tx (nI Z) (nI P, nI C, nI R, nI L, hs, ss, cs, gs, vs) dr rd (nI D, sm, nI N, nI K, ce, de, ke, se) i0 i1 kp dd tr m) (some (.int i1.1)) (XH tx (nI Z) (nI P, nI C, nI R, nI L, hs, ss, cs, gs, vs) dr rd (i1.1, i1.2.1, i1.2.2.1, i1.2.2.2.1, va_cpy i1.2.2.2.2.1 ce 0 0 6, va_cpy i1.2.2.2.2.2.1 de 0 0 60, va_cpy i1.2.2.2.2.2.2.1 ke 0 0 99, va_cpy i1.2.2.2.2.2.2.2 se 0 0 30) i0 i1 kp dd tr m) := by
  refine zq_start (by decide +kernel) rfl (Nat.le_of_ble_eq_true rfl) ?_
  show zq_G _ _ _ _ _ 0 ([(0, .ref 0), (1, .int 1)], [], XH tx (nI Z) (nI P, nI C, nI R, nI L, hs, ss, cs, gs, vs) dr rd (nI D, sm, nI N, nI K, ce, de, ke, se) i0 i1 kp dd tr m)
  refine zq_b [zq_il 1, zq_k 1] [zq_ilchk 1, zq_kchk 1] 2 rfl (by decide +kernel) ?_
  show zq_G _ _ _ _ _ 2 ([(0, .ref 0), (1, .int 1)], [.int 1, .int 1], XH tx (nI Z) (nI P, nI C, nI R, nI L, hs, ss, cs, gs, vs) dr rd (nI D, sm, nI N, nI K, ce, de, ke, se) i0 i1 kp dd tr m)
  refine zq_callS (av := [.int 1, .int 1]) (rest := []) (by decide +kernel) k11_87 (x_isBeyondN (p := 1) (q := 1) (by omega) (by omega)) rfl rfl ?_
  show zq_G _ _ _ _ _ 5 ([(0, .ref 0), (1, .int 1)], [.int (zb (1 < 1))], XH tx (nI Z) (nI P, nI C, nI R, nI L, hs, ss, cs, gs, vs) dr rd (nI D, sm, nI N, nI K, ce, de, ke, se) i0 i1 kp dd tr m)
  refine zq_ifz .eq 10 (¬ (1 < 1)) (by decide +kernel) (zb_eq _) (fun c5 => ?_) (fun c5 => absurd (by omega) c5)
  show zq_G _ _ _ _ _ 10 ([(0, .ref 0), (1, .int 1)], [], XH tx (nI Z) (nI P, nI C, nI R, nI L, hs, ss, cs, gs, vs) dr rd (nI D, sm, nI N, nI K, ce, de, ke, se) i0 i1 kp dd tr m)
  refine zq_b [zq_al 0, zq_get 11 7, zq_il 1, zq_zald 1 (kp 1)] [zq_alchk 0, zq_getchk 11 7, zq_ilchk 1, zq_is .baload 1] 16 rfl (by decide +kernel) ?_
  refine ⟨rfl, (by omega), (by omega), rfl, ?_⟩
  show zq_G _ _ _ _ _ 16 ([(0, .ref 0), (1, .int 1)], [.int (kp 1)], XH tx (nI Z) (nI P, nI C, nI R, nI L, hs, ss, cs, gs, vs) dr rd (nI D, sm, nI N, nI K, ce, de, ke, se) i0 i1 kp dd tr m)
  refine zq_ifz .ne 22 (¬ (kp 1) = 0) (by decide +kernel) (Iff.rfl) (fun c16 => ?_) (fun c16 => absurd hb c16)
  show zq_G _ _ _ _ _ 22 ([(0, .ref 0), (1, .int 1)], [], XH tx (nI Z) (nI P, nI C, nI R, nI L, hs, ss, cs, gs, vs) dr rd (nI D, sm, nI N, nI K, ce, de, ke, se) i0 i1 kp dd tr m)
  refine zq_b [zq_al 0, zq_get 11 5, zq_al 0, zq_get 11 6, zq_il 1, zq_aald 1] [zq_alchk 0, zq_getchk 11 5, zq_alchk 0, zq_getchk 11 6, zq_ilchk 1, zq_is .aaload 1] 32 rfl (by decide +kernel) ?_
  refine ⟨rfl, (by decide), (by decide), ?_⟩
  show zq_G _ _ _ _ _ 32 ([(0, .ref 0), (1, .int 1)], [.ref 26, .ref 15], XH tx (nI Z) (nI P, nI C, nI R, nI L, hs, ss, cs, gs, vs) dr rd (nI D, sm, nI N, nI K, ce, de, ke, se) i0 i1 kp dd tr m)
  refine zq_callV (av := [.ref 26]) (rest := []) (by decide +kernel) k11_237 (c_nbecome_15_26) rfl rfl rfl rfl ?_
  show zq_G _ _ _ _ _ 35 ([(0, .ref 0), (1, .int 1)], [], XH tx (nI Z) (nI P, nI C, nI R, nI L, hs, ss, cs, gs, vs) dr rd (i1.1, i1.2.1, i1.2.2.1, i1.2.2.2.1, va_cpy i1.2.2.2.2.1 ce 0 0 6, va_cpy i1.2.2.2.2.2.1 de 0 0 60, va_cpy i1.2.2.2.2.2.2.1 ke 0 0 99, va_cpy i1.2.2.2.2.2.2.2 se 0 0 30) i0 i1 kp dd tr m)
  refine zq_b [zq_al 0, zq_get 11 5, zq_get 5 1] [zq_alchk 0, zq_getchk 11 5, zq_getchk 5 1] 42 rfl (by decide +kernel) ?_
  show zq_G _ _ _ _ _ 42 ([(0, .ref 0), (1, .int 1)], [.int i1.1], XH tx (nI Z) (nI P, nI C, nI R, nI L, hs, ss, cs, gs, vs) dr rd (i1.1, i1.2.1, i1.2.2.1, i1.2.2.2.1, va_cpy i1.2.2.2.2.1 ce 0 0 6, va_cpy i1.2.2.2.2.2.1 de 0 0 60, va_cpy i1.2.2.2.2.2.2.1 ke 0 0 99, va_cpy i1.2.2.2.2.2.2.2 se 0 0 30) i0 i1 kp dd tr m)
  exact zq_iret (by decide +kernel) rfl rfl rfl
set_option maxHeartbeats 4000000 in
set_option maxRecDepth 100000 in
theorem x_count_bad {x : Int32} (hb : x.toInt < 0 ∨ 5 < x.toInt) : zq_P l mX11_count 0 [.ref 0, .int x] (XH tx (nI Z) (nI P, nI C, nI R, nI L, hs, ss, cs, gs, vs) dr rd (nI D, sm, nI N, nI K, ce, de, ke, se) i0 i1 kp dd tr m) (some (.int (-1))) (XH tx (nI Z) (nI P, nI C, nI R, nI L, hs, ss, cs, gs, vs) dr rd (nI D, sm, nI N, nI K, ce, de, ke, se) i0 i1 kp dd tr m) := by
  refine zq_start (by decide +kernel) rfl (Nat.le_of_ble_eq_true rfl) ?_
  show zq_G _ _ _ _ _ 0 ([(0, .ref 0), (1, .int x)], [], XH tx (nI Z) (nI P, nI C, nI R, nI L, hs, ss, cs, gs, vs) dr rd (nI D, sm, nI N, nI K, ce, de, ke, se) i0 i1 kp dd tr m)
  refine zq_b [zq_il 1] [zq_ilchk 1] 1 rfl (by decide +kernel) ?_
  show zq_G _ _ _ _ _ 1 ([(0, .ref 0), (1, .int x)], [.int x], XH tx (nI Z) (nI P, nI C, nI R, nI L, hs, ss, cs, gs, vs) dr rd (nI D, sm, nI N, nI K, ce, de, ke, se) i0 i1 kp dd tr m)
  refine zq_swc [(0, 40), (1, 48), (2, 56), (3, 64), (4, 72), (5, 80)] 85 (by decide +kernel) ⟨fun c => absurd c (by omega), fun c => absurd c (by omega), fun c => absurd c (by omega), fun c => absurd c (by omega), fun c => absurd c (by omega), fun c => absurd c (by omega), trivial⟩ (fun _ => ?_)
  show zq_G _ _ _ _ _ 85 ([(0, .ref 0), (1, .int x)], [], XH tx (nI Z) (nI P, nI C, nI R, nI L, hs, ss, cs, gs, vs) dr rd (nI D, sm, nI N, nI K, ce, de, ke, se) i0 i1 kp dd tr m)
  refine zq_b [zq_k (-1)] [zq_kchk (-1)] 86 rfl (by decide +kernel) ?_
  show zq_G _ _ _ _ _ 86 ([(0, .ref 0), (1, .int x)], [.int (-1)], XH tx (nI Z) (nI P, nI C, nI R, nI L, hs, ss, cs, gs, vs) dr rd (nI D, sm, nI N, nI K, ce, de, ke, se) i0 i1 kp dd tr m)
  exact zq_iret (by decide +kernel) rfl rfl rfl
set_option maxHeartbeats 4000000 in
set_option maxRecDepth 100000 in
theorem x_count_0   : zq_P l mX11_count 0 [.ref 0, .int 0] (XH tx (nI Z) (nI P, nI C, nI R, nI L, hs, ss, cs, gs, vs) dr rd (nI D, sm, nI N, nI K, ce, de, ke, se) i0 i1 kp dd tr m) (some (.int (nI P))) (XH tx (nI Z) (nI P, nI C, nI R, nI L, hs, ss, cs, gs, vs) dr rd (nI D, sm, nI N, nI K, ce, de, ke, se) i0 i1 kp dd tr m) := by
  refine zq_start (by decide +kernel) rfl (Nat.le_of_ble_eq_true rfl) ?_
  show zq_G _ _ _ _ _ 0 ([(0, .ref 0), (1, .int 0)], [], XH tx (nI Z) (nI P, nI C, nI R, nI L, hs, ss, cs, gs, vs) dr rd (nI D, sm, nI N, nI K, ce, de, ke, se) i0 i1 kp dd tr m)
  refine zq_b [zq_il 1] [zq_ilchk 1] 1 rfl (by decide +kernel) ?_
  show zq_G _ _ _ _ _ 1 ([(0, .ref 0), (1, .int 0)], [.int 0], XH tx (nI Z) (nI P, nI C, nI R, nI L, hs, ss, cs, gs, vs) dr rd (nI D, sm, nI N, nI K, ce, de, ke, se) i0 i1 kp dd tr m)
  refine zq_swc [(0, 40), (1, 48), (2, 56), (3, 64), (4, 72), (5, 80)] 85 (by decide +kernel) ⟨fun _ => ?_, fun c => absurd c (by decide), fun c => absurd c (by decide), fun c => absurd c (by decide), fun c => absurd c (by decide), fun c => absurd c (by decide), trivial⟩ (fun c => absurd (by decide) c.1)
  show zq_G _ _ _ _ _ 40 ([(0, .ref 0), (1, .int 0)], [], XH tx (nI Z) (nI P, nI C, nI R, nI L, hs, ss, cs, gs, vs) dr rd (nI D, sm, nI N, nI K, ce, de, ke, se) i0 i1 kp dd tr m)
  refine zq_b [zq_al 0, zq_get 11 2, zq_get 9 0] [zq_alchk 0, zq_getchk 11 2, zq_getchk 9 0] 47 rfl (by decide +kernel) ?_
  show zq_G _ _ _ _ _ 47 ([(0, .ref 0), (1, .int 0)], [.int (nI P)], XH tx (nI Z) (nI P, nI C, nI R, nI L, hs, ss, cs, gs, vs) dr rd (nI D, sm, nI N, nI K, ce, de, ke, se) i0 i1 kp dd tr m)
  exact zq_iret (by decide +kernel) rfl rfl rfl
set_option maxHeartbeats 4000000 in
set_option maxRecDepth 100000 in
theorem x_count_1   : zq_P l mX11_count 0 [.ref 0, .int 1] (XH tx (nI Z) (nI P, nI C, nI R, nI L, hs, ss, cs, gs, vs) dr rd (nI D, sm, nI N, nI K, ce, de, ke, se) i0 i1 kp dd tr m) (some (.int (nI C))) (XH tx (nI Z) (nI P, nI C, nI R, nI L, hs, ss, cs, gs, vs) dr rd (nI D, sm, nI N, nI K, ce, de, ke, se) i0 i1 kp dd tr m) := by
  refine zq_start (by decide +kernel) rfl (Nat.le_of_ble_eq_true rfl) ?_
  show zq_G _ _ _ _ _ 0 ([(0, .ref 0), (1, .int 1)], [], XH tx (nI Z) (nI P, nI C, nI R, nI L, hs, ss, cs, gs, vs) dr rd (nI D, sm, nI N, nI K, ce, de, ke, se) i0 i1 kp dd tr m)
  refine zq_b [zq_il 1] [zq_ilchk 1] 1 rfl (by decide +kernel) ?_
  show zq_G _ _ _ _ _ 1 ([(0, .ref 0), (1, .int 1)], [.int 1], XH tx (nI Z) (nI P, nI C, nI R, nI L, hs, ss, cs, gs, vs) dr rd (nI D, sm, nI N, nI K, ce, de, ke, se) i0 i1 kp dd tr m)
  refine zq_swc [(0, 40), (1, 48), (2, 56), (3, 64), (4, 72), (5, 80)] 85 (by decide +kernel) ⟨fun c => absurd c (by decide), fun _ => ?_, fun c => absurd c (by decide), fun c => absurd c (by decide), fun c => absurd c (by decide), fun c => absurd c (by decide), trivial⟩ (fun c => absurd (by decide) c.2.1)
  show zq_G _ _ _ _ _ 48 ([(0, .ref 0), (1, .int 1)], [], XH tx (nI Z) (nI P, nI C, nI R, nI L, hs, ss, cs, gs, vs) dr rd (nI D, sm, nI N, nI K, ce, de, ke, se) i0 i1 kp dd tr m)
  refine zq_b [zq_al 0, zq_get 11 2, zq_get 9 1] [zq_alchk 0, zq_getchk 11 2, zq_getchk 9 1] 55 rfl (by decide +kernel) ?_
  show zq_G _ _ _ _ _ 55 ([(0, .ref 0), (1, .int 1)], [.int (nI C)], XH tx (nI Z) (nI P, nI C, nI R, nI L, hs, ss, cs, gs, vs) dr rd (nI D, sm, nI N, nI K, ce, de, ke, se) i0 i1 kp dd tr m)
  exact zq_iret (by decide +kernel) rfl rfl rfl
set_option maxHeartbeats 4000000 in
set_option maxRecDepth 100000 in
theorem x_count_2   : zq_P l mX11_count 0 [.ref 0, .int 2] (XH tx (nI Z) (nI P, nI C, nI R, nI L, hs, ss, cs, gs, vs) dr rd (nI D, sm, nI N, nI K, ce, de, ke, se) i0 i1 kp dd tr m) (some (.int (nI R))) (XH tx (nI Z) (nI P, nI C, nI R, nI L, hs, ss, cs, gs, vs) dr rd (nI D, sm, nI N, nI K, ce, de, ke, se) i0 i1 kp dd tr m) := by
  refine zq_start (by decide +kernel) rfl (Nat.le_of_ble_eq_true rfl) ?_
  show zq_G _ _ _ _ _ 0 ([(0, .ref 0), (1, .int 2)], [], XH tx (nI Z) (nI P, nI C, nI R, nI L, hs, ss, cs, gs, vs) dr rd (nI D, sm, nI N, nI K, ce, de, ke, se) i0 i1 kp dd tr m)
  refine zq_b [zq_il 1] [zq_ilchk 1] 1 rfl (by decide +kernel) ?_
  show zq_G _ _ _ _ _ 1 ([(0, .ref 0), (1, .int 2)], [.int 2], XH tx (nI Z) (nI P, nI C, nI R, nI L, hs, ss, cs, gs, vs) dr rd (nI D, sm, nI N, nI K, ce, de, ke, se) i0 i1 kp dd tr m)
  refine zq_swc [(0, 40), (1, 48), (2, 56), (3, 64), (4, 72), (5, 80)] 85 (by decide +kernel) ⟨fun c => absurd c (by decide), fun c => absurd c (by decide), fun _ => ?_, fun c => absurd c (by decide), fun c => absurd c (by decide), fun c => absurd c (by decide), trivial⟩ (fun c => absurd (by decide) c.2.2.1)
  show zq_G _ _ _ _ _ 56 ([(0, .ref 0), (1, .int 2)], [], XH tx (nI Z) (nI P, nI C, nI R, nI L, hs, ss, cs, gs, vs) dr rd (nI D, sm, nI N, nI K, ce, de, ke, se) i0 i1 kp dd tr m)
  refine zq_b [zq_al 0, zq_get 11 2, zq_get 9 2] [zq_alchk 0, zq_getchk 11 2, zq_getchk 9 2] 63 rfl (by decide +kernel) ?_
  show zq_G _ _ _ _ _ 63 ([(0, .ref 0), (1, .int 2)], [.int (nI R)], XH tx (nI Z) (nI P, nI C, nI R, nI L, hs, ss, cs, gs, vs) dr rd (nI D, sm, nI N, nI K, ce, de, ke, se) i0 i1 kp dd tr m)
  exact zq_iret (by decide +kernel) rfl rfl rfl
set_option maxHeartbeats 4000000 in
set_option maxRecDepth 100000 in
theorem x_count_3   : zq_P l mX11_count 0 [.ref 0, .int 3] (XH tx (nI Z) (nI P, nI C, nI R, nI L, hs, ss, cs, gs, vs) dr rd (nI D, sm, nI N, nI K, ce, de, ke, se) i0 i1 kp dd tr m) (some (.int (nI N))) (XH tx (nI Z) (nI P, nI C, nI R, nI L, hs, ss, cs, gs, vs) dr rd (nI D, sm, nI N, nI K, ce, de, ke, se) i0 i1 kp dd tr m) := by
  refine zq_start (by decide +kernel) rfl (Nat.le_of_ble_eq_true rfl) ?_
  show zq_G _ _ _ _ _ 0 ([(0, .ref 0), (1, .int 3)], [], XH tx (nI Z) (nI P, nI C, nI R, nI L, hs, ss, cs, gs, vs) dr rd (nI D, sm, nI N, nI K, ce, de, ke, se) i0 i1 kp dd tr m)
  refine zq_b [zq_il 1] [zq_ilchk 1] 1 rfl (by decide +kernel) ?_
  show zq_G _ _ _ _ _ 1 ([(0, .ref 0), (1, .int 3)], [.int 3], XH tx (nI Z) (nI P, nI C, nI R, nI L, hs, ss, cs, gs, vs) dr rd (nI D, sm, nI N, nI K, ce, de, ke, se) i0 i1 kp dd tr m)
  refine zq_swc [(0, 40), (1, 48), (2, 56), (3, 64), (4, 72), (5, 80)] 85 (by decide +kernel) ⟨fun c => absurd c (by decide), fun c => absurd c (by decide), fun c => absurd c (by decide), fun _ => ?_, fun c => absurd c (by decide), fun c => absurd c (by decide), trivial⟩ (fun c => absurd (by decide) c.2.2.2.1)
  show zq_G _ _ _ _ _ 64 ([(0, .ref 0), (1, .int 3)], [], XH tx (nI Z) (nI P, nI C, nI R, nI L, hs, ss, cs, gs, vs) dr rd (nI D, sm, nI N, nI K, ce, de, ke, se) i0 i1 kp dd tr m)
  refine zq_b [zq_al 0, zq_get 11 5, zq_get 5 3] [zq_alchk 0, zq_getchk 11 5, zq_getchk 5 3] 71 rfl (by decide +kernel) ?_
  show zq_G _ _ _ _ _ 71 ([(0, .ref 0), (1, .int 3)], [.int (nI N)], XH tx (nI Z) (nI P, nI C, nI R, nI L, hs, ss, cs, gs, vs) dr rd (nI D, sm, nI N, nI K, ce, de, ke, se) i0 i1 kp dd tr m)
  exact zq_iret (by decide +kernel) rfl rfl rfl
set_option maxHeartbeats 4000000 in
set_option maxRecDepth 100000 in
theorem x_count_4   : zq_P l mX11_count 0 [.ref 0, .int 4] (XH tx (nI Z) (nI P, nI C, nI R, nI L, hs, ss, cs, gs, vs) dr rd (nI D, sm, nI N, nI K, ce, de, ke, se) i0 i1 kp dd tr m) (some (.int (nI K))) (XH tx (nI Z) (nI P, nI C, nI R, nI L, hs, ss, cs, gs, vs) dr rd (nI D, sm, nI N, nI K, ce, de, ke, se) i0 i1 kp dd tr m) := by
  refine zq_start (by decide +kernel) rfl (Nat.le_of_ble_eq_true rfl) ?_
  show zq_G _ _ _ _ _ 0 ([(0, .ref 0), (1, .int 4)], [], XH tx (nI Z) (nI P, nI C, nI R, nI L, hs, ss, cs, gs, vs) dr rd (nI D, sm, nI N, nI K, ce, de, ke, se) i0 i1 kp dd tr m)
  refine zq_b [zq_il 1] [zq_ilchk 1] 1 rfl (by decide +kernel) ?_
  show zq_G _ _ _ _ _ 1 ([(0, .ref 0), (1, .int 4)], [.int 4], XH tx (nI Z) (nI P, nI C, nI R, nI L, hs, ss, cs, gs, vs) dr rd (nI D, sm, nI N, nI K, ce, de, ke, se) i0 i1 kp dd tr m)
  refine zq_swc [(0, 40), (1, 48), (2, 56), (3, 64), (4, 72), (5, 80)] 85 (by decide +kernel) ⟨fun c => absurd c (by decide), fun c => absurd c (by decide), fun c => absurd c (by decide), fun c => absurd c (by decide), fun _ => ?_, fun c => absurd c (by decide), trivial⟩ (fun c => absurd (by decide) c.2.2.2.2.1)
  show zq_G _ _ _ _ _ 72 ([(0, .ref 0), (1, .int 4)], [], XH tx (nI Z) (nI P, nI C, nI R, nI L, hs, ss, cs, gs, vs) dr rd (nI D, sm, nI N, nI K, ce, de, ke, se) i0 i1 kp dd tr m)
  refine zq_b [zq_al 0, zq_get 11 5, zq_get 5 4] [zq_alchk 0, zq_getchk 11 5, zq_getchk 5 4] 79 rfl (by decide +kernel) ?_
  show zq_G _ _ _ _ _ 79 ([(0, .ref 0), (1, .int 4)], [.int (nI K)], XH tx (nI Z) (nI P, nI C, nI R, nI L, hs, ss, cs, gs, vs) dr rd (nI D, sm, nI N, nI K, ce, de, ke, se) i0 i1 kp dd tr m)
  exact zq_iret (by decide +kernel) rfl rfl rfl
set_option maxHeartbeats 4000000 in
set_option maxRecDepth 100000 in
theorem x_count_5   : zq_P l mX11_count 0 [.ref 0, .int 5] (XH tx (nI Z) (nI P, nI C, nI R, nI L, hs, ss, cs, gs, vs) dr rd (nI D, sm, nI N, nI K, ce, de, ke, se) i0 i1 kp dd tr m) (some (.int (nI Z))) (XH tx (nI Z) (nI P, nI C, nI R, nI L, hs, ss, cs, gs, vs) dr rd (nI D, sm, nI N, nI K, ce, de, ke, se) i0 i1 kp dd tr m) := by
  refine zq_start (by decide +kernel) rfl (Nat.le_of_ble_eq_true rfl) ?_
  show zq_G _ _ _ _ _ 0 ([(0, .ref 0), (1, .int 5)], [], XH tx (nI Z) (nI P, nI C, nI R, nI L, hs, ss, cs, gs, vs) dr rd (nI D, sm, nI N, nI K, ce, de, ke, se) i0 i1 kp dd tr m)
  refine zq_b [zq_il 1] [zq_ilchk 1] 1 rfl (by decide +kernel) ?_
  show zq_G _ _ _ _ _ 1 ([(0, .ref 0), (1, .int 5)], [.int 5], XH tx (nI Z) (nI P, nI C, nI R, nI L, hs, ss, cs, gs, vs) dr rd (nI D, sm, nI N, nI K, ce, de, ke, se) i0 i1 kp dd tr m)
  refine zq_swc [(0, 40), (1, 48), (2, 56), (3, 64), (4, 72), (5, 80)] 85 (by decide +kernel) ⟨fun c => absurd c (by decide), fun c => absurd c (by decide), fun c => absurd c (by decide), fun c => absurd c (by decide), fun c => absurd c (by decide), fun _ => ?_, trivial⟩ (fun c => absurd (by decide) c.2.2.2.2.2.1)
  show zq_G _ _ _ _ _ 80 ([(0, .ref 0), (1, .int 5)], [], XH tx (nI Z) (nI P, nI C, nI R, nI L, hs, ss, cs, gs, vs) dr rd (nI D, sm, nI N, nI K, ce, de, ke, se) i0 i1 kp dd tr m)
  refine zq_b [zq_al 0, zq_get 11 1] [zq_alchk 0, zq_getchk 11 1] 84 rfl (by decide +kernel) ?_
  show zq_G _ _ _ _ _ 84 ([(0, .ref 0), (1, .int 5)], [.int (nI Z)], XH tx (nI Z) (nI P, nI C, nI R, nI L, hs, ss, cs, gs, vs) dr rd (nI D, sm, nI N, nI K, ce, de, ke, se) i0 i1 kp dd tr m)
  exact zq_iret (by decide +kernel) rfl rfl rfl
set_option maxHeartbeats 4000000 in
set_option maxRecDepth 100000 in
theorem x_trace   : zq_P l mX11_trace 0 [.ref 0] (XH tx (nI Z) (nI P, nI C, nI R, nI L, hs, ss, cs, gs, vs) dr rd (nI D, sm, nI N, nI K, ce, de, ke, se) i0 i1 kp dd tr m) (some (.long tr)) (XH tx (nI Z) (nI P, nI C, nI R, nI L, hs, ss, cs, gs, vs) dr rd (nI D, sm, nI N, nI K, ce, de, ke, se) i0 i1 kp dd tr m) := by
  refine zq_start (by decide +kernel) rfl (Nat.le_of_ble_eq_true rfl) ?_
  show zq_G _ _ _ _ _ 0 ([(0, .ref 0)], [], XH tx (nI Z) (nI P, nI C, nI R, nI L, hs, ss, cs, gs, vs) dr rd (nI D, sm, nI N, nI K, ce, de, ke, se) i0 i1 kp dd tr m)
  refine zq_b [zq_al 0, zq_get 11 9, zq_get 0 3] [zq_alchk 0, zq_getchk 11 9, zq_getchk 0 3] 7 rfl (by decide +kernel) ?_
  show zq_G _ _ _ _ _ 7 ([(0, .ref 0)], [.long tr], XH tx (nI Z) (nI P, nI C, nI R, nI L, hs, ss, cs, gs, vs) dr rd (nI D, sm, nI N, nI K, ce, de, ke, se) i0 i1 kp dd tr m)
  exact zq_jret (by decide +kernel) rfl rfl rfl
end XV5
