section XV4
variable {l : Launch} {tx : Nat → Int32} {n : Int32} {t dr : zT} {rd : zR} {w i0 i1 : zN} {kp : Nat → Int32} {dd : Int32} {tr : Int64} {m : Nat → zq_C} {h : zq_H}
variable {P C R L D N K Z : Nat} {hs ss cs gs vs ce de ke se : Nat → Int32} {sm : Int32} {cn ga va : Nat → Nat}
set_option maxHeartbeats 4000000 in
set_option maxRecDepth 100000 in
theorem x_isBeyond {x : Int32} {q : Nat} (hq : q < 2147483648) : zq_P l mX11_isBeyond 0 [.int x, .int (nI q)] (h) (some (.int (zb (x.toInt < 0 ∨ (q : Int) < x.toInt)))) (h) := by
  refine zq_start (by decide +kernel) rfl (Nat.le_of_ble_eq_true rfl) ?_
  show zq_G _ _ _ _ _ 0 ([(0, .int x), (1, .int (nI q))], [], h)
  refine zq_b [zq_il 0] [zq_ilchk 0] 1 rfl (by decide +kernel) ?_
  show zq_G _ _ _ _ _ 1 ([(0, .int x), (1, .int (nI q))], [.int x], h)
  refine zq_ifz .lt 9 (x.toInt < (0 : Int)) (by decide +kernel) (zq_tn .lt x (n := 0) (by omega)) (fun c1 => ?_) (fun c1 => ?_)
  · show zq_G _ _ _ _ _ 9 ([(0, .int x), (1, .int (nI q))], [], h)
    refine zq_b [zq_k 1, zq_go] [zq_kchk 1, zq_gochk] 14 rfl (by decide +kernel) ?_
    show zq_G _ _ _ _ _ 14 ([(0, .int x), (1, .int (nI q))], [.int 1], h)
    exact zq_zret (by decide +kernel) rfl (Or.inr rfl) (zb_r (zb_t (by omega))) rfl
  · show zq_G _ _ _ _ _ 4 ([(0, .int x), (1, .int (nI q))], [], h)
    refine zq_b [zq_il 0, zq_il 1] [zq_ilchk 0, zq_ilchk 1] 6 rfl (by decide +kernel) ?_
    show zq_G _ _ _ _ _ 6 ([(0, .int x), (1, .int (nI q))], [.int (nI q), .int x], h)
    refine zq_if .le 13 (x.toInt ≤ (q : Int)) (by decide +kernel) (zq_tn .le x (n := q) (by omega)) (fun c6 => ?_) (fun c6 => ?_)
    · show zq_G _ _ _ _ _ 13 ([(0, .int x), (1, .int (nI q))], [], h)
      refine zq_b [zq_k 0] [zq_kchk 0] 14 rfl (by decide +kernel) ?_
      show zq_G _ _ _ _ _ 14 ([(0, .int x), (1, .int (nI q))], [.int 0], h)
      exact zq_zret (by decide +kernel) rfl (Or.inl rfl) (zb_r (zb_f (by omega))) rfl
    · show zq_G _ _ _ _ _ 9 ([(0, .int x), (1, .int (nI q))], [], h)
      refine zq_b [zq_k 1, zq_go] [zq_kchk 1, zq_gochk] 14 rfl (by decide +kernel) ?_
      show zq_G _ _ _ _ _ 14 ([(0, .int x), (1, .int (nI q))], [.int 1], h)
      exact zq_zret (by decide +kernel) rfl (Or.inr rfl) (zb_r (zb_t (by omega))) rfl
set_option maxHeartbeats 4000000 in
set_option maxRecDepth 100000 in
theorem x_isBeyondN {p : Nat} {q : Nat} (hp : p < 2147483648) (hq : q < 2147483648) : zq_P l mX11_isBeyond 0 [.int (nI p), .int (nI q)] (h) (some (.int (zb (q < p)))) (h) := by
  refine zq_start (by decide +kernel) rfl (Nat.le_of_ble_eq_true rfl) ?_
  show zq_G _ _ _ _ _ 0 ([(0, .int (nI p)), (1, .int (nI q))], [], h)
  refine zq_b [zq_il 0] [zq_ilchk 0] 1 rfl (by decide +kernel) ?_
  show zq_G _ _ _ _ _ 1 ([(0, .int (nI p)), (1, .int (nI q))], [.int (nI p)], h)
  refine zq_ifz .lt 9 (p < 0) (by decide +kernel) (zq_clt (a := p) (b := 0) (by omega) (by omega)) (fun c1 => absurd c1 (by omega)) (fun c1 => ?_)
  show zq_G _ _ _ _ _ 4 ([(0, .int (nI p)), (1, .int (nI q))], [], h)
  refine zq_b [zq_il 0, zq_il 1] [zq_ilchk 0, zq_ilchk 1] 6 rfl (by decide +kernel) ?_
  show zq_G _ _ _ _ _ 6 ([(0, .int (nI p)), (1, .int (nI q))], [.int (nI q), .int (nI p)], h)
  refine zq_if .le 13 (p ≤ q) (by decide +kernel) (zq_cle (a := p) (b := q) (by omega) (by omega)) (fun c6 => ?_) (fun c6 => ?_)
  · show zq_G _ _ _ _ _ 13 ([(0, .int (nI p)), (1, .int (nI q))], [], h)
    refine zq_b [zq_k 0] [zq_kchk 0] 14 rfl (by decide +kernel) ?_
    show zq_G _ _ _ _ _ 14 ([(0, .int (nI p)), (1, .int (nI q))], [.int 0], h)
    exact zq_zret (by decide +kernel) rfl (Or.inl rfl) (zb_r (zb_f (by omega))) rfl
  · show zq_G _ _ _ _ _ 9 ([(0, .int (nI p)), (1, .int (nI q))], [], h)
    refine zq_b [zq_k 1, zq_go] [zq_kchk 1, zq_gochk] 14 rfl (by decide +kernel) ?_
    show zq_G _ _ _ _ _ 14 ([(0, .int (nI p)), (1, .int (nI q))], [.int 1], h)
    exact zq_zret (by decide +kernel) rfl (Or.inr rfl) (zb_r (zb_t (by omega))) rfl
set_option maxHeartbeats 4000000 in
set_option maxRecDepth 100000 in
theorem x_hasPerson {p : Int32} (hP : P ≤ 6) : zq_P l mX9_hasPerson 0 [.ref 2, .int p] (XH tx n (nI P, nI C, nI R, nI L, hs, ss, cs, gs, vs) dr rd (nI D, sm, nI N, nI K, ce, de, ke, se) i0 i1 kp dd tr m) (some (.int (zb (0 ≤ p.toInt ∧ p.toInt < (P : Int))))) (XH tx n (nI P, nI C, nI R, nI L, hs, ss, cs, gs, vs) dr rd (nI D, sm, nI N, nI K, ce, de, ke, se) i0 i1 kp dd tr m) := by
  refine zq_start (by decide +kernel) rfl (Nat.le_of_ble_eq_true rfl) ?_
  show zq_G _ _ _ _ _ 0 ([(0, .ref 2), (1, .int p)], [], XH tx n (nI P, nI C, nI R, nI L, hs, ss, cs, gs, vs) dr rd (nI D, sm, nI N, nI K, ce, de, ke, se) i0 i1 kp dd tr m)
  refine zq_b [zq_il 1] [zq_ilchk 1] 1 rfl (by decide +kernel) ?_
  show zq_G _ _ _ _ _ 1 ([(0, .ref 2), (1, .int p)], [.int p], XH tx n (nI P, nI C, nI R, nI L, hs, ss, cs, gs, vs) dr rd (nI D, sm, nI N, nI K, ce, de, ke, se) i0 i1 kp dd tr m)
  refine zq_ifz .lt 16 (p.toInt < (0 : Int)) (by decide +kernel) (zq_tn .lt p (n := 0) (by omega)) (fun c1 => ?_) (fun c1 => ?_)
  · show zq_G _ _ _ _ _ 16 ([(0, .ref 2), (1, .int p)], [], XH tx n (nI P, nI C, nI R, nI L, hs, ss, cs, gs, vs) dr rd (nI D, sm, nI N, nI K, ce, de, ke, se) i0 i1 kp dd tr m)
    refine zq_b [zq_k 0] [zq_kchk 0] 17 rfl (by decide +kernel) ?_
    show zq_G _ _ _ _ _ 17 ([(0, .ref 2), (1, .int p)], [.int 0], XH tx n (nI P, nI C, nI R, nI L, hs, ss, cs, gs, vs) dr rd (nI D, sm, nI N, nI K, ce, de, ke, se) i0 i1 kp dd tr m)
    exact zq_zret (by decide +kernel) rfl (Or.inl rfl) (zb_r (zb_f (by omega))) rfl
  · show zq_G _ _ _ _ _ 4 ([(0, .ref 2), (1, .int p)], [], XH tx n (nI P, nI C, nI R, nI L, hs, ss, cs, gs, vs) dr rd (nI D, sm, nI N, nI K, ce, de, ke, se) i0 i1 kp dd tr m)
    refine zq_b [zq_il 1, zq_al 0, zq_get 9 0] [zq_ilchk 1, zq_alchk 0, zq_getchk 9 0] 9 rfl (by decide +kernel) ?_
    show zq_G _ _ _ _ _ 9 ([(0, .ref 2), (1, .int p)], [.int (nI P), .int p], XH tx n (nI P, nI C, nI R, nI L, hs, ss, cs, gs, vs) dr rd (nI D, sm, nI N, nI K, ce, de, ke, se) i0 i1 kp dd tr m)
    refine zq_if .ge 16 ((P : Int) ≤ p.toInt) (by decide +kernel) (zq_tn .ge p (n := P) (by omega)) (fun c9 => ?_) (fun c9 => ?_)
    · show zq_G _ _ _ _ _ 16 ([(0, .ref 2), (1, .int p)], [], XH tx n (nI P, nI C, nI R, nI L, hs, ss, cs, gs, vs) dr rd (nI D, sm, nI N, nI K, ce, de, ke, se) i0 i1 kp dd tr m)
      refine zq_b [zq_k 0] [zq_kchk 0] 17 rfl (by decide +kernel) ?_
      show zq_G _ _ _ _ _ 17 ([(0, .ref 2), (1, .int p)], [.int 0], XH tx n (nI P, nI C, nI R, nI L, hs, ss, cs, gs, vs) dr rd (nI D, sm, nI N, nI K, ce, de, ke, se) i0 i1 kp dd tr m)
      exact zq_zret (by decide +kernel) rfl (Or.inl rfl) (zb_r (zb_f (by omega))) rfl
    · show zq_G _ _ _ _ _ 12 ([(0, .ref 2), (1, .int p)], [], XH tx n (nI P, nI C, nI R, nI L, hs, ss, cs, gs, vs) dr rd (nI D, sm, nI N, nI K, ce, de, ke, se) i0 i1 kp dd tr m)
      refine zq_b [zq_k 1, zq_go] [zq_kchk 1, zq_gochk] 17 rfl (by decide +kernel) ?_
      show zq_G _ _ _ _ _ 17 ([(0, .ref 2), (1, .int p)], [.int 1], XH tx n (nI P, nI C, nI R, nI L, hs, ss, cs, gs, vs) dr rd (nI D, sm, nI N, nI K, ce, de, ke, se) i0 i1 kp dd tr m)
      exact zq_zret (by decide +kernel) rfl (Or.inr rfl) (zb_r (zb_t (by omega))) rfl
set_option maxHeartbeats 4000000 in
set_option maxRecDepth 100000 in
theorem x_hasPersonN {p : Nat} (hP : P ≤ 6) (hp : p < 2147483648) : zq_P l mX9_hasPerson 0 [.ref 2, .int (nI p)] (XH tx n (nI P, nI C, nI R, nI L, hs, ss, cs, gs, vs) dr rd (nI D, sm, nI N, nI K, ce, de, ke, se) i0 i1 kp dd tr m) (some (.int (zb (p < P)))) (XH tx n (nI P, nI C, nI R, nI L, hs, ss, cs, gs, vs) dr rd (nI D, sm, nI N, nI K, ce, de, ke, se) i0 i1 kp dd tr m) := by
  refine zq_start (by decide +kernel) rfl (Nat.le_of_ble_eq_true rfl) ?_
  show zq_G _ _ _ _ _ 0 ([(0, .ref 2), (1, .int (nI p))], [], XH tx n (nI P, nI C, nI R, nI L, hs, ss, cs, gs, vs) dr rd (nI D, sm, nI N, nI K, ce, de, ke, se) i0 i1 kp dd tr m)
  refine zq_b [zq_il 1] [zq_ilchk 1] 1 rfl (by decide +kernel) ?_
  show zq_G _ _ _ _ _ 1 ([(0, .ref 2), (1, .int (nI p))], [.int (nI p)], XH tx n (nI P, nI C, nI R, nI L, hs, ss, cs, gs, vs) dr rd (nI D, sm, nI N, nI K, ce, de, ke, se) i0 i1 kp dd tr m)
  refine zq_ifz .lt 16 (p < 0) (by decide +kernel) (zq_clt (a := p) (b := 0) (by omega) (by omega)) (fun c1 => absurd c1 (by omega)) (fun c1 => ?_)
  show zq_G _ _ _ _ _ 4 ([(0, .ref 2), (1, .int (nI p))], [], XH tx n (nI P, nI C, nI R, nI L, hs, ss, cs, gs, vs) dr rd (nI D, sm, nI N, nI K, ce, de, ke, se) i0 i1 kp dd tr m)
  refine zq_b [zq_il 1, zq_al 0, zq_get 9 0] [zq_ilchk 1, zq_alchk 0, zq_getchk 9 0] 9 rfl (by decide +kernel) ?_
  show zq_G _ _ _ _ _ 9 ([(0, .ref 2), (1, .int (nI p))], [.int (nI P), .int (nI p)], XH tx n (nI P, nI C, nI R, nI L, hs, ss, cs, gs, vs) dr rd (nI D, sm, nI N, nI K, ce, de, ke, se) i0 i1 kp dd tr m)
  refine zq_if .ge 16 (P ≤ p) (by decide +kernel) (zq_cge (a := p) (b := P) (by omega) (by omega)) (fun c9 => ?_) (fun c9 => ?_)
  · show zq_G _ _ _ _ _ 16 ([(0, .ref 2), (1, .int (nI p))], [], XH tx n (nI P, nI C, nI R, nI L, hs, ss, cs, gs, vs) dr rd (nI D, sm, nI N, nI K, ce, de, ke, se) i0 i1 kp dd tr m)
    refine zq_b [zq_k 0] [zq_kchk 0] 17 rfl (by decide +kernel) ?_
    show zq_G _ _ _ _ _ 17 ([(0, .ref 2), (1, .int (nI p))], [.int 0], XH tx n (nI P, nI C, nI R, nI L, hs, ss, cs, gs, vs) dr rd (nI D, sm, nI N, nI K, ce, de, ke, se) i0 i1 kp dd tr m)
    exact zq_zret (by decide +kernel) rfl (Or.inl rfl) (zb_r (zb_f (by omega))) rfl
  · show zq_G _ _ _ _ _ 12 ([(0, .ref 2), (1, .int (nI p))], [], XH tx n (nI P, nI C, nI R, nI L, hs, ss, cs, gs, vs) dr rd (nI D, sm, nI N, nI K, ce, de, ke, se) i0 i1 kp dd tr m)
    refine zq_b [zq_k 1, zq_go] [zq_kchk 1, zq_gochk] 17 rfl (by decide +kernel) ?_
    show zq_G _ _ _ _ _ 17 ([(0, .ref 2), (1, .int (nI p))], [.int 1], XH tx n (nI P, nI C, nI R, nI L, hs, ss, cs, gs, vs) dr rd (nI D, sm, nI N, nI K, ce, de, ke, se) i0 i1 kp dd tr m)
    exact zq_zret (by decide +kernel) rfl (Or.inr rfl) (zb_r (zb_t (by omega))) rfl
set_option maxHeartbeats 4000000 in
set_option maxRecDepth 100000 in
theorem x_areBits {b : Int32} (hP : P ≤ 6) : zq_P l mX9_areBits 0 [.ref 2, .int b] (XH tx n (nI P, nI C, nI R, nI L, hs, ss, cs, gs, vs) dr rd (nI D, sm, nI N, nI K, ce, de, ke, se) i0 i1 kp dd tr m) (some (.int (zb (0 ≤ b.toInt ∧ b.toInt < (zp2 P : Int))))) (XH tx n (nI P, nI C, nI R, nI L, hs, ss, cs, gs, vs) dr rd (nI D, sm, nI N, nI K, ce, de, ke, se) i0 i1 kp dd tr m) := by
  refine zq_start (by decide +kernel) rfl (Nat.le_of_ble_eq_true rfl) ?_
  show zq_G _ _ _ _ _ 0 ([(0, .ref 2), (1, .int b)], [], XH tx n (nI P, nI C, nI R, nI L, hs, ss, cs, gs, vs) dr rd (nI D, sm, nI N, nI K, ce, de, ke, se) i0 i1 kp dd tr m)
  have hp2 := zp2_lt P (by omega)
  refine zq_b [zq_il 1] [zq_ilchk 1] 1 rfl (by decide +kernel) ?_
  show zq_G _ _ _ _ _ 1 ([(0, .ref 2), (1, .int b)], [.int b], XH tx n (nI P, nI C, nI R, nI L, hs, ss, cs, gs, vs) dr rd (nI D, sm, nI N, nI K, ce, de, ke, se) i0 i1 kp dd tr m)
  refine zq_ifz .lt 18 (b.toInt < (0 : Int)) (by decide +kernel) (zq_tn .lt b (n := 0) (by omega)) (fun c1 => ?_) (fun c1 => ?_)
  · show zq_G _ _ _ _ _ 18 ([(0, .ref 2), (1, .int b)], [], XH tx n (nI P, nI C, nI R, nI L, hs, ss, cs, gs, vs) dr rd (nI D, sm, nI N, nI K, ce, de, ke, se) i0 i1 kp dd tr m)
    refine zq_b [zq_k 0] [zq_kchk 0] 19 rfl (by decide +kernel) ?_
    show zq_G _ _ _ _ _ 19 ([(0, .ref 2), (1, .int b)], [.int 0], XH tx n (nI P, nI C, nI R, nI L, hs, ss, cs, gs, vs) dr rd (nI D, sm, nI N, nI K, ce, de, ke, se) i0 i1 kp dd tr m)
    exact zq_zret (by decide +kernel) rfl (Or.inl rfl) (zb_r (zb_f (by omega))) rfl
  · show zq_G _ _ _ _ _ 4 ([(0, .ref 2), (1, .int b)], [], XH tx n (nI P, nI C, nI R, nI L, hs, ss, cs, gs, vs) dr rd (nI D, sm, nI N, nI K, ce, de, ke, se) i0 i1 kp dd tr m)
    refine zq_b [zq_il 1, zq_k 1, zq_al 0, zq_get 9 0, zq_ishl (nI (zp2 P))] [zq_ilchk 1, zq_kchk 1, zq_alchk 0, zq_getchk 9 0, zq_is .ishl 1] 11 rfl (by decide +kernel) ?_
    refine ⟨(zp2_sh P (by omega)), ?_⟩
    show zq_G _ _ _ _ _ 11 ([(0, .ref 2), (1, .int b)], [.int (nI (zp2 P)), .int b], XH tx n (nI P, nI C, nI R, nI L, hs, ss, cs, gs, vs) dr rd (nI D, sm, nI N, nI K, ce, de, ke, se) i0 i1 kp dd tr m)
    refine zq_if .ge 18 ((zp2 P : Int) ≤ b.toInt) (by decide +kernel) (zq_tn .ge b (n := zp2 P) (by omega)) (fun c11 => ?_) (fun c11 => ?_)
    · show zq_G _ _ _ _ _ 18 ([(0, .ref 2), (1, .int b)], [], XH tx n (nI P, nI C, nI R, nI L, hs, ss, cs, gs, vs) dr rd (nI D, sm, nI N, nI K, ce, de, ke, se) i0 i1 kp dd tr m)
      refine zq_b [zq_k 0] [zq_kchk 0] 19 rfl (by decide +kernel) ?_
      show zq_G _ _ _ _ _ 19 ([(0, .ref 2), (1, .int b)], [.int 0], XH tx n (nI P, nI C, nI R, nI L, hs, ss, cs, gs, vs) dr rd (nI D, sm, nI N, nI K, ce, de, ke, se) i0 i1 kp dd tr m)
      exact zq_zret (by decide +kernel) rfl (Or.inl rfl) (zb_r (zb_f (by omega))) rfl
    · show zq_G _ _ _ _ _ 14 ([(0, .ref 2), (1, .int b)], [], XH tx n (nI P, nI C, nI R, nI L, hs, ss, cs, gs, vs) dr rd (nI D, sm, nI N, nI K, ce, de, ke, se) i0 i1 kp dd tr m)
      refine zq_b [zq_k 1, zq_go] [zq_kchk 1, zq_gochk] 19 rfl (by decide +kernel) ?_
      show zq_G _ _ _ _ _ 19 ([(0, .ref 2), (1, .int b)], [.int 1], XH tx n (nI P, nI C, nI R, nI L, hs, ss, cs, gs, vs) dr rd (nI D, sm, nI N, nI K, ce, de, ke, se) i0 i1 kp dd tr m)
      exact zq_zret (by decide +kernel) rfl (Or.inr rfl) (zb_r (zb_t (by omega))) rfl
set_option maxHeartbeats 4000000 in
set_option maxRecDepth 100000 in
theorem x_hasDeed {i : Int32} (hN : N ≤ 12) : zq_P l mX5_hasDeed 0 [.ref 15, .int i] (XH tx n (nI P, nI C, nI R, nI L, hs, ss, cs, gs, vs) dr rd (nI D, sm, nI N, nI K, ce, de, ke, se) i0 i1 kp dd tr m) (some (.int (zb (0 ≤ i.toInt ∧ i.toInt < (N : Int))))) (XH tx n (nI P, nI C, nI R, nI L, hs, ss, cs, gs, vs) dr rd (nI D, sm, nI N, nI K, ce, de, ke, se) i0 i1 kp dd tr m) := by
  refine zq_start (by decide +kernel) rfl (Nat.le_of_ble_eq_true rfl) ?_
  show zq_G _ _ _ _ _ 0 ([(0, .ref 15), (1, .int i)], [], XH tx n (nI P, nI C, nI R, nI L, hs, ss, cs, gs, vs) dr rd (nI D, sm, nI N, nI K, ce, de, ke, se) i0 i1 kp dd tr m)
  refine zq_b [zq_il 1] [zq_ilchk 1] 1 rfl (by decide +kernel) ?_
  show zq_G _ _ _ _ _ 1 ([(0, .ref 15), (1, .int i)], [.int i], XH tx n (nI P, nI C, nI R, nI L, hs, ss, cs, gs, vs) dr rd (nI D, sm, nI N, nI K, ce, de, ke, se) i0 i1 kp dd tr m)
  refine zq_ifz .lt 16 (i.toInt < (0 : Int)) (by decide +kernel) (zq_tn .lt i (n := 0) (by omega)) (fun c1 => ?_) (fun c1 => ?_)
  · show zq_G _ _ _ _ _ 16 ([(0, .ref 15), (1, .int i)], [], XH tx n (nI P, nI C, nI R, nI L, hs, ss, cs, gs, vs) dr rd (nI D, sm, nI N, nI K, ce, de, ke, se) i0 i1 kp dd tr m)
    refine zq_b [zq_k 0] [zq_kchk 0] 17 rfl (by decide +kernel) ?_
    show zq_G _ _ _ _ _ 17 ([(0, .ref 15), (1, .int i)], [.int 0], XH tx n (nI P, nI C, nI R, nI L, hs, ss, cs, gs, vs) dr rd (nI D, sm, nI N, nI K, ce, de, ke, se) i0 i1 kp dd tr m)
    exact zq_zret (by decide +kernel) rfl (Or.inl rfl) (zb_r (zb_f (by omega))) rfl
  · show zq_G _ _ _ _ _ 4 ([(0, .ref 15), (1, .int i)], [], XH tx n (nI P, nI C, nI R, nI L, hs, ss, cs, gs, vs) dr rd (nI D, sm, nI N, nI K, ce, de, ke, se) i0 i1 kp dd tr m)
    refine zq_b [zq_il 1, zq_al 0, zq_get 5 3] [zq_ilchk 1, zq_alchk 0, zq_getchk 5 3] 9 rfl (by decide +kernel) ?_
    show zq_G _ _ _ _ _ 9 ([(0, .ref 15), (1, .int i)], [.int (nI N), .int i], XH tx n (nI P, nI C, nI R, nI L, hs, ss, cs, gs, vs) dr rd (nI D, sm, nI N, nI K, ce, de, ke, se) i0 i1 kp dd tr m)
    refine zq_if .ge 16 ((N : Int) ≤ i.toInt) (by decide +kernel) (zq_tn .ge i (n := N) (by omega)) (fun c9 => ?_) (fun c9 => ?_)
    · show zq_G _ _ _ _ _ 16 ([(0, .ref 15), (1, .int i)], [], XH tx n (nI P, nI C, nI R, nI L, hs, ss, cs, gs, vs) dr rd (nI D, sm, nI N, nI K, ce, de, ke, se) i0 i1 kp dd tr m)
      refine zq_b [zq_k 0] [zq_kchk 0] 17 rfl (by decide +kernel) ?_
      show zq_G _ _ _ _ _ 17 ([(0, .ref 15), (1, .int i)], [.int 0], XH tx n (nI P, nI C, nI R, nI L, hs, ss, cs, gs, vs) dr rd (nI D, sm, nI N, nI K, ce, de, ke, se) i0 i1 kp dd tr m)
      exact zq_zret (by decide +kernel) rfl (Or.inl rfl) (zb_r (zb_f (by omega))) rfl
    · show zq_G _ _ _ _ _ 12 ([(0, .ref 15), (1, .int i)], [], XH tx n (nI P, nI C, nI R, nI L, hs, ss, cs, gs, vs) dr rd (nI D, sm, nI N, nI K, ce, de, ke, se) i0 i1 kp dd tr m)
      refine zq_b [zq_k 1, zq_go] [zq_kchk 1, zq_gochk] 17 rfl (by decide +kernel) ?_
      show zq_G _ _ _ _ _ 17 ([(0, .ref 15), (1, .int i)], [.int 1], XH tx n (nI P, nI C, nI R, nI L, hs, ss, cs, gs, vs) dr rd (nI D, sm, nI N, nI K, ce, de, ke, se) i0 i1 kp dd tr m)
      exact zq_zret (by decide +kernel) rfl (Or.inr rfl) (zb_r (zb_t (by omega))) rfl
set_option maxHeartbeats 4000000 in
set_option maxRecDepth 100000 in
theorem x_hasDeedN {i : Nat} (hN : N ≤ 12) (hi : i < 2147483648) : zq_P l mX5_hasDeed 0 [.ref 15, .int (nI i)] (XH tx n (nI P, nI C, nI R, nI L, hs, ss, cs, gs, vs) dr rd (nI D, sm, nI N, nI K, ce, de, ke, se) i0 i1 kp dd tr m) (some (.int (zb (i < N)))) (XH tx n (nI P, nI C, nI R, nI L, hs, ss, cs, gs, vs) dr rd (nI D, sm, nI N, nI K, ce, de, ke, se) i0 i1 kp dd tr m) := by
  refine zq_start (by decide +kernel) rfl (Nat.le_of_ble_eq_true rfl) ?_
  show zq_G _ _ _ _ _ 0 ([(0, .ref 15), (1, .int (nI i))], [], XH tx n (nI P, nI C, nI R, nI L, hs, ss, cs, gs, vs) dr rd (nI D, sm, nI N, nI K, ce, de, ke, se) i0 i1 kp dd tr m)
  refine zq_b [zq_il 1] [zq_ilchk 1] 1 rfl (by decide +kernel) ?_
  show zq_G _ _ _ _ _ 1 ([(0, .ref 15), (1, .int (nI i))], [.int (nI i)], XH tx n (nI P, nI C, nI R, nI L, hs, ss, cs, gs, vs) dr rd (nI D, sm, nI N, nI K, ce, de, ke, se) i0 i1 kp dd tr m)
  refine zq_ifz .lt 16 (i < 0) (by decide +kernel) (zq_clt (a := i) (b := 0) (by omega) (by omega)) (fun c1 => absurd c1 (by omega)) (fun c1 => ?_)
  show zq_G _ _ _ _ _ 4 ([(0, .ref 15), (1, .int (nI i))], [], XH tx n (nI P, nI C, nI R, nI L, hs, ss, cs, gs, vs) dr rd (nI D, sm, nI N, nI K, ce, de, ke, se) i0 i1 kp dd tr m)
  refine zq_b [zq_il 1, zq_al 0, zq_get 5 3] [zq_ilchk 1, zq_alchk 0, zq_getchk 5 3] 9 rfl (by decide +kernel) ?_
  show zq_G _ _ _ _ _ 9 ([(0, .ref 15), (1, .int (nI i))], [.int (nI N), .int (nI i)], XH tx n (nI P, nI C, nI R, nI L, hs, ss, cs, gs, vs) dr rd (nI D, sm, nI N, nI K, ce, de, ke, se) i0 i1 kp dd tr m)
  refine zq_if .ge 16 (N ≤ i) (by decide +kernel) (zq_cge (a := i) (b := N) (by omega) (by omega)) (fun c9 => ?_) (fun c9 => ?_)
  · show zq_G _ _ _ _ _ 16 ([(0, .ref 15), (1, .int (nI i))], [], XH tx n (nI P, nI C, nI R, nI L, hs, ss, cs, gs, vs) dr rd (nI D, sm, nI N, nI K, ce, de, ke, se) i0 i1 kp dd tr m)
    refine zq_b [zq_k 0] [zq_kchk 0] 17 rfl (by decide +kernel) ?_
    show zq_G _ _ _ _ _ 17 ([(0, .ref 15), (1, .int (nI i))], [.int 0], XH tx n (nI P, nI C, nI R, nI L, hs, ss, cs, gs, vs) dr rd (nI D, sm, nI N, nI K, ce, de, ke, se) i0 i1 kp dd tr m)
    exact zq_zret (by decide +kernel) rfl (Or.inl rfl) (zb_r (zb_f (by omega))) rfl
  · show zq_G _ _ _ _ _ 12 ([(0, .ref 15), (1, .int (nI i))], [], XH tx n (nI P, nI C, nI R, nI L, hs, ss, cs, gs, vs) dr rd (nI D, sm, nI N, nI K, ce, de, ke, se) i0 i1 kp dd tr m)
    refine zq_b [zq_k 1, zq_go] [zq_kchk 1, zq_gochk] 17 rfl (by decide +kernel) ?_
    show zq_G _ _ _ _ _ 17 ([(0, .ref 15), (1, .int (nI i))], [.int 1], XH tx n (nI P, nI C, nI R, nI L, hs, ss, cs, gs, vs) dr rd (nI D, sm, nI N, nI K, ce, de, ke, se) i0 i1 kp dd tr m)
    exact zq_zret (by decide +kernel) rfl (Or.inr rfl) (zb_r (zb_t (by omega))) rfl
set_option maxHeartbeats 4000000 in
set_option maxRecDepth 100000 in
theorem x_keptOnN {b : Nat} (hb : b < D) (hD : D ≤ 99) : zq_P l mX5_keptOn 0 [.ref 15, .int (nI b)] (XH tx n (nI P, nI C, nI R, nI L, hs, ss, cs, gs, vs) dr rd (nI D, sm, nI N, nI K, ce, de, ke, se) i0 i1 kp dd tr m) (some (.int (ke b))) (XH tx n (nI P, nI C, nI R, nI L, hs, ss, cs, gs, vs) dr rd (nI D, sm, nI N, nI K, ce, de, ke, se) i0 i1 kp dd tr m) := by
  refine zq_start (by decide +kernel) rfl (Nat.le_of_ble_eq_true rfl) ?_
  show zq_G _ _ _ _ _ 0 ([(0, .ref 15), (1, .int (nI b))], [], XH tx n (nI P, nI C, nI R, nI L, hs, ss, cs, gs, vs) dr rd (nI D, sm, nI N, nI K, ce, de, ke, se) i0 i1 kp dd tr m)
  refine zq_b [zq_il 1] [zq_ilchk 1] 1 rfl (by decide +kernel) ?_
  show zq_G _ _ _ _ _ 1 ([(0, .ref 15), (1, .int (nI b))], [.int (nI b)], XH tx n (nI P, nI C, nI R, nI L, hs, ss, cs, gs, vs) dr rd (nI D, sm, nI N, nI K, ce, de, ke, se) i0 i1 kp dd tr m)
  refine zq_ifz .lt 21 (b < 0) (by decide +kernel) (zq_clt (a := b) (b := 0) (by omega) (by omega)) (fun c1 => absurd c1 (by omega)) (fun c1 => ?_)
  show zq_G _ _ _ _ _ 4 ([(0, .ref 15), (1, .int (nI b))], [], XH tx n (nI P, nI C, nI R, nI L, hs, ss, cs, gs, vs) dr rd (nI D, sm, nI N, nI K, ce, de, ke, se) i0 i1 kp dd tr m)
  refine zq_b [zq_il 1, zq_al 0, zq_get 5 1] [zq_ilchk 1, zq_alchk 0, zq_getchk 5 1] 9 rfl (by decide +kernel) ?_
  show zq_G _ _ _ _ _ 9 ([(0, .ref 15), (1, .int (nI b))], [.int (nI D), .int (nI b)], XH tx n (nI P, nI C, nI R, nI L, hs, ss, cs, gs, vs) dr rd (nI D, sm, nI N, nI K, ce, de, ke, se) i0 i1 kp dd tr m)
  refine zq_if .ge 21 (D ≤ b) (by decide +kernel) (zq_cge (a := b) (b := D) (by omega) (by omega)) (fun c9 => absurd c9 (by omega)) (fun c9 => ?_)
  show zq_G _ _ _ _ _ 12 ([(0, .ref 15), (1, .int (nI b))], [], XH tx n (nI P, nI C, nI R, nI L, hs, ss, cs, gs, vs) dr rd (nI D, sm, nI N, nI K, ce, de, ke, se) i0 i1 kp dd tr m)
  refine zq_b [zq_al 0, zq_get 5 7, zq_il 1, zq_iald b (ke b), zq_go] [zq_alchk 0, zq_getchk 5 7, zq_ilchk 1, zq_is .iaload 1, zq_gochk] 22 rfl (by decide +kernel) ?_
  refine ⟨rfl, (by omega), (by omega), rfl, ?_⟩
  show zq_G _ _ _ _ _ 22 ([(0, .ref 15), (1, .int (nI b))], [.int (ke b)], XH tx n (nI P, nI C, nI R, nI L, hs, ss, cs, gs, vs) dr rd (nI D, sm, nI N, nI K, ce, de, ke, se) i0 i1 kp dd tr m)
  exact zq_iret (by decide +kernel) rfl rfl rfl
set_option maxHeartbeats 4000000 in
set_option maxRecDepth 100000 in
theorem x_type_bad {x : Int32} (hb : x.toInt < 0 ∨ 255 < x.toInt) : zq_P l mX11_type 1 [.ref 0, .int x] (XH tx (nI Z) (nI P, nI C, nI R, nI L, hs, ss, cs, gs, vs) dr rd (nI D, sm, nI N, nI K, ce, de, ke, se) i0 i1 kp dd tr m) (some (.int (-1))) (XH tx (nI Z) (nI P, nI C, nI R, nI L, hs, ss, cs, gs, vs) dr rd (nI D, sm, nI N, nI K, ce, de, ke, se) i0 i1 kp dd tr m) := by
  refine zq_start (by decide +kernel) rfl (Nat.le_of_ble_eq_true rfl) ?_
  show zq_G _ _ _ _ _ 0 ([(0, .ref 0), (1, .int x)], [], XH tx (nI Z) (nI P, nI C, nI R, nI L, hs, ss, cs, gs, vs) dr rd (nI D, sm, nI N, nI K, ce, de, ke, se) i0 i1 kp dd tr m)
  refine zq_b [zq_il 1, zq_k 255] [zq_ilchk 1, zq_kchk 255] 4 rfl (by decide +kernel) ?_
  show zq_G _ _ _ _ _ 4 ([(0, .ref 0), (1, .int x)], [.int 255, .int x], XH tx (nI Z) (nI P, nI C, nI R, nI L, hs, ss, cs, gs, vs) dr rd (nI D, sm, nI N, nI K, ce, de, ke, se) i0 i1 kp dd tr m)
  refine zq_callS (av := [.int x, .int 255]) (rest := []) (by decide +kernel) k11_87 (x_isBeyond (x := x) (q := 255) (by omega)) rfl rfl ?_
  show zq_G _ _ _ _ _ 7 ([(0, .ref 0), (1, .int x)], [.int (zb (x.toInt < 0 ∨ (255 : Int) < x.toInt))], XH tx (nI Z) (nI P, nI C, nI R, nI L, hs, ss, cs, gs, vs) dr rd (nI D, sm, nI N, nI K, ce, de, ke, se) i0 i1 kp dd tr m)
  refine zq_ifz .eq 12 (¬ (x.toInt < 0 ∨ (255 : Int) < x.toInt)) (by decide +kernel) (zb_eq _) (fun c7 => ?_) (fun c7 => ?_)
  · show zq_G _ _ _ _ _ 12 ([(0, .ref 0), (1, .int x)], [], XH tx (nI Z) (nI P, nI C, nI R, nI L, hs, ss, cs, gs, vs) dr rd (nI D, sm, nI N, nI K, ce, de, ke, se) i0 i1 kp dd tr m)
    exact absurd hb (by omega)
  · show zq_G _ _ _ _ _ 10 ([(0, .ref 0), (1, .int x)], [], XH tx (nI Z) (nI P, nI C, nI R, nI L, hs, ss, cs, gs, vs) dr rd (nI D, sm, nI N, nI K, ce, de, ke, se) i0 i1 kp dd tr m)
    refine zq_b [zq_k (-1)] [zq_kchk (-1)] 11 rfl (by decide +kernel) ?_
    show zq_G _ _ _ _ _ 11 ([(0, .ref 0), (1, .int x)], [.int (-1)], XH tx (nI Z) (nI P, nI C, nI R, nI L, hs, ss, cs, gs, vs) dr rd (nI D, sm, nI N, nI K, ce, de, ke, se) i0 i1 kp dd tr m)
    exact zq_iret (by decide +kernel) rfl rfl rfl
set_option maxHeartbeats 4000000 in
set_option maxRecDepth 100000 in
theorem x_type_full {a : Nat} (ha : a ≤ 255) (hZ : Z = 200) : zq_P l mX11_type 1 [.ref 0, .int (nI a)] (XH tx (nI Z) (nI P, nI C, nI R, nI L, hs, ss, cs, gs, vs) dr rd (nI D, sm, nI N, nI K, ce, de, ke, se) i0 i1 kp dd tr m) (some (.int (-3))) (XH tx (nI Z) (nI P, nI C, nI R, nI L, hs, ss, cs, gs, vs) dr rd (nI D, sm, nI N, nI K, ce, de, ke, se) i0 i1 kp dd tr m) := by
  refine zq_start (by decide +kernel) rfl (Nat.le_of_ble_eq_true rfl) ?_
  show zq_G _ _ _ _ _ 0 ([(0, .ref 0), (1, .int (nI a))], [], XH tx (nI Z) (nI P, nI C, nI R, nI L, hs, ss, cs, gs, vs) dr rd (nI D, sm, nI N, nI K, ce, de, ke, se) i0 i1 kp dd tr m)
  refine zq_b [zq_il 1, zq_k 255] [zq_ilchk 1, zq_kchk 255] 4 rfl (by decide +kernel) ?_
  show zq_G _ _ _ _ _ 4 ([(0, .ref 0), (1, .int (nI a))], [.int 255, .int (nI a)], XH tx (nI Z) (nI P, nI C, nI R, nI L, hs, ss, cs, gs, vs) dr rd (nI D, sm, nI N, nI K, ce, de, ke, se) i0 i1 kp dd tr m)
  refine zq_callS (av := [.int (nI a), .int 255]) (rest := []) (by decide +kernel) k11_87 (x_isBeyondN (p := a) (q := 255) (by omega) (by omega)) rfl rfl ?_
  show zq_G _ _ _ _ _ 7 ([(0, .ref 0), (1, .int (nI a))], [.int (zb (255 < a))], XH tx (nI Z) (nI P, nI C, nI R, nI L, hs, ss, cs, gs, vs) dr rd (nI D, sm, nI N, nI K, ce, de, ke, se) i0 i1 kp dd tr m)
  refine zq_ifz .eq 12 (¬ (255 < a)) (by decide +kernel) (zb_eq _) (fun c7 => ?_) (fun c7 => absurd (by omega) c7)
  show zq_G _ _ _ _ _ 12 ([(0, .ref 0), (1, .int (nI a))], [], XH tx (nI Z) (nI P, nI C, nI R, nI L, hs, ss, cs, gs, vs) dr rd (nI D, sm, nI N, nI K, ce, de, ke, se) i0 i1 kp dd tr m)
  refine zq_b [zq_al 0, zq_get 11 1, zq_k 200] [zq_alchk 0, zq_getchk 11 1, zq_kchk 200] 19 rfl (by decide +kernel) ?_
  show zq_G _ _ _ _ _ 19 ([(0, .ref 0), (1, .int (nI a))], [.int 200, .int (nI Z)], XH tx (nI Z) (nI P, nI C, nI R, nI L, hs, ss, cs, gs, vs) dr rd (nI D, sm, nI N, nI K, ce, de, ke, se) i0 i1 kp dd tr m)
  refine zq_if .lt 25 (Z < 200) (by decide +kernel) (zq_clt (a := Z) (b := 200) (by omega) (by omega)) (fun c19 => absurd c19 (by omega)) (fun c19 => ?_)
  show zq_G _ _ _ _ _ 22 ([(0, .ref 0), (1, .int (nI a))], [], XH tx (nI Z) (nI P, nI C, nI R, nI L, hs, ss, cs, gs, vs) dr rd (nI D, sm, nI N, nI K, ce, de, ke, se) i0 i1 kp dd tr m)
  refine zq_b [zq_k (-3)] [zq_kchk (-3)] 24 rfl (by decide +kernel) ?_
  show zq_G _ _ _ _ _ 24 ([(0, .ref 0), (1, .int (nI a))], [.int (-3)], XH tx (nI Z) (nI P, nI C, nI R, nI L, hs, ss, cs, gs, vs) dr rd (nI D, sm, nI N, nI K, ce, de, ke, se) i0 i1 kp dd tr m)
  exact zq_iret (by decide +kernel) rfl rfl rfl
set_option maxHeartbeats 4000000 in
set_option maxRecDepth 100000 in
theorem x_type {a : Nat} (ha : a ≤ 255) (hZ : Z < 200) : zq_P l mX11_type 1 [.ref 0, .int (nI a)] (XH tx (nI Z) (nI P, nI C, nI R, nI L, hs, ss, cs, gs, vs) dr rd (nI D, sm, nI N, nI K, ce, de, ke, se) i0 i1 kp dd tr m) (some (.int (nI (Z + 1)))) (XH (upd tx Z (nI a)) (nI (Z + 1)) (nI P, nI C, nI R, nI L, hs, ss, cs, gs, vs) dr rd (nI D, sm, nI N, nI K, ce, de, ke, se) i0 i1 kp dd tr m) := by
  refine zq_start (by decide +kernel) rfl (Nat.le_of_ble_eq_true rfl) ?_
  show zq_G _ _ _ _ _ 0 ([(0, .ref 0), (1, .int (nI a))], [], XH tx (nI Z) (nI P, nI C, nI R, nI L, hs, ss, cs, gs, vs) dr rd (nI D, sm, nI N, nI K, ce, de, ke, se) i0 i1 kp dd tr m)
  refine zq_b [zq_il 1, zq_k 255] [zq_ilchk 1, zq_kchk 255] 4 rfl (by decide +kernel) ?_
  show zq_G _ _ _ _ _ 4 ([(0, .ref 0), (1, .int (nI a))], [.int 255, .int (nI a)], XH tx (nI Z) (nI P, nI C, nI R, nI L, hs, ss, cs, gs, vs) dr rd (nI D, sm, nI N, nI K, ce, de, ke, se) i0 i1 kp dd tr m)
  refine zq_callS (av := [.int (nI a), .int 255]) (rest := []) (by decide +kernel) k11_87 (x_isBeyondN (p := a) (q := 255) (by omega) (by omega)) rfl rfl ?_
  show zq_G _ _ _ _ _ 7 ([(0, .ref 0), (1, .int (nI a))], [.int (zb (255 < a))], XH tx (nI Z) (nI P, nI C, nI R, nI L, hs, ss, cs, gs, vs) dr rd (nI D, sm, nI N, nI K, ce, de, ke, se) i0 i1 kp dd tr m)
  refine zq_ifz .eq 12 (¬ (255 < a)) (by decide +kernel) (zb_eq _) (fun c7 => ?_) (fun c7 => absurd (by omega) c7)
  show zq_G _ _ _ _ _ 12 ([(0, .ref 0), (1, .int (nI a))], [], XH tx (nI Z) (nI P, nI C, nI R, nI L, hs, ss, cs, gs, vs) dr rd (nI D, sm, nI N, nI K, ce, de, ke, se) i0 i1 kp dd tr m)
  refine zq_b [zq_al 0, zq_get 11 1, zq_k 200] [zq_alchk 0, zq_getchk 11 1, zq_kchk 200] 19 rfl (by decide +kernel) ?_
  show zq_G _ _ _ _ _ 19 ([(0, .ref 0), (1, .int (nI a))], [.int 200, .int (nI Z)], XH tx (nI Z) (nI P, nI C, nI R, nI L, hs, ss, cs, gs, vs) dr rd (nI D, sm, nI N, nI K, ce, de, ke, se) i0 i1 kp dd tr m)
  refine zq_if .lt 25 (Z < 200) (by decide +kernel) (zq_clt (a := Z) (b := 200) (by omega) (by omega)) (fun c19 => ?_) (fun c19 => absurd (by omega) c19)
  show zq_G _ _ _ _ _ 25 ([(0, .ref 0), (1, .int (nI a))], [], XH tx (nI Z) (nI P, nI C, nI R, nI L, hs, ss, cs, gs, vs) dr rd (nI D, sm, nI N, nI K, ce, de, ke, se) i0 i1 kp dd tr m)
  refine zq_b [zq_al 0, zq_get 11 0, zq_al 0, zq_get 11 1, zq_il 1, zq_iast Z, zq_al 0, zq_dup, zq_get 11 1, zq_k 1, zq_iadd (nI (Z + 1)), zq_puti 11 1, zq_al 0, zq_get 11 1] [zq_alchk 0, zq_getchk 11 0, zq_alchk 0, zq_getchk 11 1, zq_ilchk 1, zq_is .iastore 1, zq_alchk 0, zq_is .dup 1, zq_getchk 11 1, zq_kchk 1, zq_is .iadd 1, zq_putchk 11 1 .int, zq_alchk 0, zq_getchk 11 1] 49 rfl (by decide +kernel) ?_
  refine ⟨rfl, (by omega), (by omega), (nI_add Z 1), ?_⟩
  show zq_G _ _ _ _ _ 49 ([(0, .ref 0), (1, .int (nI a))], [.int (nI (Z + 1))], XH (upd tx Z (nI a)) (nI (Z + 1)) (nI P, nI C, nI R, nI L, hs, ss, cs, gs, vs) dr rd (nI D, sm, nI N, nI K, ce, de, ke, se) i0 i1 kp dd tr m)
  exact zq_iret (by decide +kernel) rfl rfl rfl
set_option maxHeartbeats 4000000 in
set_option maxRecDepth 100000 in
theorem x_clear   : zq_P l mX11_clear 0 [.ref 0] (XH tx (nI Z) (nI P, nI C, nI R, nI L, hs, ss, cs, gs, vs) dr rd (nI D, sm, nI N, nI K, ce, de, ke, se) i0 i1 kp dd tr m) (some (.int (nI Z))) (XH tx 0 (nI P, nI C, nI R, nI L, hs, ss, cs, gs, vs) dr rd (nI D, sm, nI N, nI K, ce, de, ke, se) i0 i1 kp dd tr m) := by
  refine zq_start (by decide +kernel) rfl (Nat.le_of_ble_eq_true rfl) ?_
  show zq_G _ _ _ _ _ 0 ([(0, .ref 0)], [], XH tx (nI Z) (nI P, nI C, nI R, nI L, hs, ss, cs, gs, vs) dr rd (nI D, sm, nI N, nI K, ce, de, ke, se) i0 i1 kp dd tr m)
  refine zq_b [zq_al 0, zq_get 11 1, zq_is1 1, zq_al 0, zq_k 0, zq_puti 11 1, zq_il 1] [zq_alchk 0, zq_getchk 11 1, zq_is1chk 1, zq_alchk 0, zq_kchk 0, zq_putchk 11 1 .int, zq_ilchk 1] 11 rfl (by decide +kernel) ?_
  show zq_G _ _ _ _ _ 11 ([(0, .ref 0), (1, .int (nI Z))], [.int (nI Z)], XH tx 0 (nI P, nI C, nI R, nI L, hs, ss, cs, gs, vs) dr rd (nI D, sm, nI N, nI K, ce, de, ke, se) i0 i1 kp dd tr m)
  exact zq_iret (by decide +kernel) rfl rfl rfl
set_option maxHeartbeats 4000000 in
set_option maxRecDepth 100000 in
theorem x_person_bad {x : Int32} {y : Int32} (hP : P ≤ 6) (hb : ¬ (0 ≤ x.toInt ∧ x.toInt < (P : Int) ∧ 0 ≤ y.toInt ∧ y.toInt ≤ 2)) : zq_P l mX11_person 1 [.ref 0, .int x, .int y] (XH tx (nI Z) (nI P, nI C, nI R, nI L, hs, ss, cs, gs, vs) dr rd (nI D, sm, nI N, nI K, ce, de, ke, se) i0 i1 kp dd tr m) (some (.int (-1))) (XH tx (nI Z) (nI P, nI C, nI R, nI L, hs, ss, cs, gs, vs) dr rd (nI D, sm, nI N, nI K, ce, de, ke, se) i0 i1 kp dd tr m) := by
  refine zq_start (by decide +kernel) rfl (Nat.le_of_ble_eq_true rfl) ?_
  show zq_G _ _ _ _ _ 0 ([(0, .ref 0), (1, .int x), (2, .int y)], [], XH tx (nI Z) (nI P, nI C, nI R, nI L, hs, ss, cs, gs, vs) dr rd (nI D, sm, nI N, nI K, ce, de, ke, se) i0 i1 kp dd tr m)
  refine zq_b [zq_al 0, zq_get 11 2, zq_il 1] [zq_alchk 0, zq_getchk 11 2, zq_ilchk 1] 5 rfl (by decide +kernel) ?_
  show zq_G _ _ _ _ _ 5 ([(0, .ref 0), (1, .int x), (2, .int y)], [.int x, .ref 2], XH tx (nI Z) (nI P, nI C, nI R, nI L, hs, ss, cs, gs, vs) dr rd (nI D, sm, nI N, nI K, ce, de, ke, se) i0 i1 kp dd tr m)
  refine zq_callV (av := [.int x]) (rest := []) (by decide +kernel) k11_105 (x_hasPerson (p := x) hP) rfl rfl rfl rfl ?_
  show zq_G _ _ _ _ _ 8 ([(0, .ref 0), (1, .int x), (2, .int y)], [.int (zb (0 ≤ x.toInt ∧ x.toInt < (P : Int)))], XH tx (nI Z) (nI P, nI C, nI R, nI L, hs, ss, cs, gs, vs) dr rd (nI D, sm, nI N, nI K, ce, de, ke, se) i0 i1 kp dd tr m)
  refine zq_ifz .eq 19 (¬ (0 ≤ x.toInt ∧ x.toInt < (P : Int))) (by decide +kernel) (zb_eq _) (fun c8 => ?_) (fun c8 => ?_)
  · show zq_G _ _ _ _ _ 19 ([(0, .ref 0), (1, .int x), (2, .int y)], [], XH tx (nI Z) (nI P, nI C, nI R, nI L, hs, ss, cs, gs, vs) dr rd (nI D, sm, nI N, nI K, ce, de, ke, se) i0 i1 kp dd tr m)
    refine zq_b [zq_k (-1)] [zq_kchk (-1)] 20 rfl (by decide +kernel) ?_
    show zq_G _ _ _ _ _ 20 ([(0, .ref 0), (1, .int x), (2, .int y)], [.int (-1)], XH tx (nI Z) (nI P, nI C, nI R, nI L, hs, ss, cs, gs, vs) dr rd (nI D, sm, nI N, nI K, ce, de, ke, se) i0 i1 kp dd tr m)
    exact zq_iret (by decide +kernel) rfl rfl rfl
  · show zq_G _ _ _ _ _ 11 ([(0, .ref 0), (1, .int x), (2, .int y)], [], XH tx (nI Z) (nI P, nI C, nI R, nI L, hs, ss, cs, gs, vs) dr rd (nI D, sm, nI N, nI K, ce, de, ke, se) i0 i1 kp dd tr m)
    refine zq_b [zq_il 2, zq_k 2] [zq_ilchk 2, zq_kchk 2] 13 rfl (by decide +kernel) ?_
    show zq_G _ _ _ _ _ 13 ([(0, .ref 0), (1, .int x), (2, .int y)], [.int 2, .int y], XH tx (nI Z) (nI P, nI C, nI R, nI L, hs, ss, cs, gs, vs) dr rd (nI D, sm, nI N, nI K, ce, de, ke, se) i0 i1 kp dd tr m)
    refine zq_callS (av := [.int y, .int 2]) (rest := []) (by decide +kernel) k11_87 (x_isBeyond (x := y) (q := 2) (by omega)) rfl rfl ?_
    show zq_G _ _ _ _ _ 16 ([(0, .ref 0), (1, .int x), (2, .int y)], [.int (zb (y.toInt < 0 ∨ (2 : Int) < y.toInt))], XH tx (nI Z) (nI P, nI C, nI R, nI L, hs, ss, cs, gs, vs) dr rd (nI D, sm, nI N, nI K, ce, de, ke, se) i0 i1 kp dd tr m)
    refine zq_ifz .eq 21 (¬ (y.toInt < 0 ∨ (2 : Int) < y.toInt)) (by decide +kernel) (zb_eq _) (fun c16 => ?_) (fun c16 => ?_)
    · show zq_G _ _ _ _ _ 21 ([(0, .ref 0), (1, .int x), (2, .int y)], [], XH tx (nI Z) (nI P, nI C, nI R, nI L, hs, ss, cs, gs, vs) dr rd (nI D, sm, nI N, nI K, ce, de, ke, se) i0 i1 kp dd tr m)
      exact absurd hb (by omega)
    · show zq_G _ _ _ _ _ 19 ([(0, .ref 0), (1, .int x), (2, .int y)], [], XH tx (nI Z) (nI P, nI C, nI R, nI L, hs, ss, cs, gs, vs) dr rd (nI D, sm, nI N, nI K, ce, de, ke, se) i0 i1 kp dd tr m)
      refine zq_b [zq_k (-1)] [zq_kchk (-1)] 20 rfl (by decide +kernel) ?_
      show zq_G _ _ _ _ _ 20 ([(0, .ref 0), (1, .int x), (2, .int y)], [.int (-1)], XH tx (nI Z) (nI P, nI C, nI R, nI L, hs, ss, cs, gs, vs) dr rd (nI D, sm, nI N, nI K, ce, de, ke, se) i0 i1 kp dd tr m)
      exact zq_iret (by decide +kernel) rfl rfl rfl
set_option maxHeartbeats 4000000 in
set_option maxRecDepth 100000 in
theorem x_person_0 {a : Nat} (ha : a < P) (hP : P ≤ 6) : zq_P l mX11_person 6 [.ref 0, .int (nI a), .int 0] (XH tx (nI Z) (nI P, nI C, nI R, nI L, hs, ss, cs, gs, vs) dr rd (nI D, sm, nI N, nI K, ce, de, ke, se) i0 i1 kp dd tr m) (some (.int (hs a))) (XH tx (nI Z) (nI P, nI C, nI R, nI L, hs, ss, cs, gs, vs) dr rd (nI D, sm, nI N, nI K, ce, de, ke, se) i0 i1 kp dd tr m) := by
  refine zq_start (by decide +kernel) rfl (Nat.le_of_ble_eq_true rfl) ?_
  show zq_G _ _ _ _ _ 0 ([(0, .ref 0), (1, .int (nI a)), (2, .int 0)], [], XH tx (nI Z) (nI P, nI C, nI R, nI L, hs, ss, cs, gs, vs) dr rd (nI D, sm, nI N, nI K, ce, de, ke, se) i0 i1 kp dd tr m)
  refine zq_b [zq_al 0, zq_get 11 2, zq_il 1] [zq_alchk 0, zq_getchk 11 2, zq_ilchk 1] 5 rfl (by decide +kernel) ?_
  show zq_G _ _ _ _ _ 5 ([(0, .ref 0), (1, .int (nI a)), (2, .int 0)], [.int (nI a), .ref 2], XH tx (nI Z) (nI P, nI C, nI R, nI L, hs, ss, cs, gs, vs) dr rd (nI D, sm, nI N, nI K, ce, de, ke, se) i0 i1 kp dd tr m)
  refine zq_callV (av := [.int (nI a)]) (rest := []) (by decide +kernel) k11_105 (x_hasPersonN (p := a) hP (by omega)) rfl rfl rfl rfl ?_
  show zq_G _ _ _ _ _ 8 ([(0, .ref 0), (1, .int (nI a)), (2, .int 0)], [.int (zb (a < P))], XH tx (nI Z) (nI P, nI C, nI R, nI L, hs, ss, cs, gs, vs) dr rd (nI D, sm, nI N, nI K, ce, de, ke, se) i0 i1 kp dd tr m)
  refine zq_ifz .eq 19 (¬ (a < P)) (by decide +kernel) (zb_eq _) (fun c8 => absurd c8 (by omega)) (fun c8 => ?_)
  show zq_G _ _ _ _ _ 11 ([(0, .ref 0), (1, .int (nI a)), (2, .int 0)], [], XH tx (nI Z) (nI P, nI C, nI R, nI L, hs, ss, cs, gs, vs) dr rd (nI D, sm, nI N, nI K, ce, de, ke, se) i0 i1 kp dd tr m)
  refine zq_b [zq_il 2, zq_k 2] [zq_ilchk 2, zq_kchk 2] 13 rfl (by decide +kernel) ?_
  show zq_G _ _ _ _ _ 13 ([(0, .ref 0), (1, .int (nI a)), (2, .int 0)], [.int 2, .int 0], XH tx (nI Z) (nI P, nI C, nI R, nI L, hs, ss, cs, gs, vs) dr rd (nI D, sm, nI N, nI K, ce, de, ke, se) i0 i1 kp dd tr m)
  refine zq_callS (av := [.int 0, .int 2]) (rest := []) (by decide +kernel) k11_87 (x_isBeyondN (p := 0) (q := 2) (by omega) (by omega)) rfl rfl ?_
  show zq_G _ _ _ _ _ 16 ([(0, .ref 0), (1, .int (nI a)), (2, .int 0)], [.int (zb (2 < 0))], XH tx (nI Z) (nI P, nI C, nI R, nI L, hs, ss, cs, gs, vs) dr rd (nI D, sm, nI N, nI K, ce, de, ke, se) i0 i1 kp dd tr m)
  refine zq_ifz .eq 21 (¬ (2 < 0)) (by decide +kernel) (zb_eq _) (fun c16 => ?_) (fun c16 => absurd (by omega) c16)
  show zq_G _ _ _ _ _ 21 ([(0, .ref 0), (1, .int (nI a)), (2, .int 0)], [], XH tx (nI Z) (nI P, nI C, nI R, nI L, hs, ss, cs, gs, vs) dr rd (nI D, sm, nI N, nI K, ce, de, ke, se) i0 i1 kp dd tr m)
  refine zq_b [zq_il 2] [zq_ilchk 2] 22 rfl (by decide +kernel) ?_
  show zq_G _ _ _ _ _ 22 ([(0, .ref 0), (1, .int (nI a)), (2, .int 0)], [.int 0], XH tx (nI Z) (nI P, nI C, nI R, nI L, hs, ss, cs, gs, vs) dr rd (nI D, sm, nI N, nI K, ce, de, ke, se) i0 i1 kp dd tr m)
  refine zq_swc [(0, 48), (1, 58)] 68 (by decide +kernel) ⟨fun _ => ?_, fun c => absurd c (by decide), trivial⟩ (fun c => absurd (by decide) c.1)
  show zq_G _ _ _ _ _ 48 ([(0, .ref 0), (1, .int (nI a)), (2, .int 0)], [], XH tx (nI Z) (nI P, nI C, nI R, nI L, hs, ss, cs, gs, vs) dr rd (nI D, sm, nI N, nI K, ce, de, ke, se) i0 i1 kp dd tr m)
  refine zq_b [zq_al 0, zq_get 11 2, zq_get 9 4, zq_il 1, zq_iald a (hs a)] [zq_alchk 0, zq_getchk 11 2, zq_getchk 9 4, zq_ilchk 1, zq_is .iaload 1] 57 rfl (by decide +kernel) ?_
  refine ⟨rfl, (by omega), (by omega), rfl, ?_⟩
  show zq_G _ _ _ _ _ 57 ([(0, .ref 0), (1, .int (nI a)), (2, .int 0)], [.int (hs a)], XH tx (nI Z) (nI P, nI C, nI R, nI L, hs, ss, cs, gs, vs) dr rd (nI D, sm, nI N, nI K, ce, de, ke, se) i0 i1 kp dd tr m)
  exact zq_iret (by decide +kernel) rfl rfl rfl
set_option maxHeartbeats 4000000 in
set_option maxRecDepth 100000 in
theorem x_person_1 {a : Nat} (ha : a < P) (hP : P ≤ 6) : zq_P l mX11_person 6 [.ref 0, .int (nI a), .int 1] (XH tx (nI Z) (nI P, nI C, nI R, nI L, hs, ss, cs, gs, vs) dr rd (nI D, sm, nI N, nI K, ce, de, ke, se) i0 i1 kp dd tr m) (some (.int (ce a))) (XH tx (nI Z) (nI P, nI C, nI R, nI L, hs, ss, cs, gs, vs) dr rd (nI D, sm, nI N, nI K, ce, de, ke, se) i0 i1 kp dd tr m) := by
  refine zq_start (by decide +kernel) rfl (Nat.le_of_ble_eq_true rfl) ?_
  show zq_G _ _ _ _ _ 0 ([(0, .ref 0), (1, .int (nI a)), (2, .int 1)], [], XH tx (nI Z) (nI P, nI C, nI R, nI L, hs, ss, cs, gs, vs) dr rd (nI D, sm, nI N, nI K, ce, de, ke, se) i0 i1 kp dd tr m)
  refine zq_b [zq_al 0, zq_get 11 2, zq_il 1] [zq_alchk 0, zq_getchk 11 2, zq_ilchk 1] 5 rfl (by decide +kernel) ?_
  show zq_G _ _ _ _ _ 5 ([(0, .ref 0), (1, .int (nI a)), (2, .int 1)], [.int (nI a), .ref 2], XH tx (nI Z) (nI P, nI C, nI R, nI L, hs, ss, cs, gs, vs) dr rd (nI D, sm, nI N, nI K, ce, de, ke, se) i0 i1 kp dd tr m)
  refine zq_callV (av := [.int (nI a)]) (rest := []) (by decide +kernel) k11_105 (x_hasPersonN (p := a) hP (by omega)) rfl rfl rfl rfl ?_
  show zq_G _ _ _ _ _ 8 ([(0, .ref 0), (1, .int (nI a)), (2, .int 1)], [.int (zb (a < P))], XH tx (nI Z) (nI P, nI C, nI R, nI L, hs, ss, cs, gs, vs) dr rd (nI D, sm, nI N, nI K, ce, de, ke, se) i0 i1 kp dd tr m)
  refine zq_ifz .eq 19 (¬ (a < P)) (by decide +kernel) (zb_eq _) (fun c8 => absurd c8 (by omega)) (fun c8 => ?_)
  show zq_G _ _ _ _ _ 11 ([(0, .ref 0), (1, .int (nI a)), (2, .int 1)], [], XH tx (nI Z) (nI P, nI C, nI R, nI L, hs, ss, cs, gs, vs) dr rd (nI D, sm, nI N, nI K, ce, de, ke, se) i0 i1 kp dd tr m)
  refine zq_b [zq_il 2, zq_k 2] [zq_ilchk 2, zq_kchk 2] 13 rfl (by decide +kernel) ?_
  show zq_G _ _ _ _ _ 13 ([(0, .ref 0), (1, .int (nI a)), (2, .int 1)], [.int 2, .int 1], XH tx (nI Z) (nI P, nI C, nI R, nI L, hs, ss, cs, gs, vs) dr rd (nI D, sm, nI N, nI K, ce, de, ke, se) i0 i1 kp dd tr m)
  refine zq_callS (av := [.int 1, .int 2]) (rest := []) (by decide +kernel) k11_87 (x_isBeyondN (p := 1) (q := 2) (by omega) (by omega)) rfl rfl ?_
  show zq_G _ _ _ _ _ 16 ([(0, .ref 0), (1, .int (nI a)), (2, .int 1)], [.int (zb (2 < 1))], XH tx (nI Z) (nI P, nI C, nI R, nI L, hs, ss, cs, gs, vs) dr rd (nI D, sm, nI N, nI K, ce, de, ke, se) i0 i1 kp dd tr m)
  refine zq_ifz .eq 21 (¬ (2 < 1)) (by decide +kernel) (zb_eq _) (fun c16 => ?_) (fun c16 => absurd (by omega) c16)
  show zq_G _ _ _ _ _ 21 ([(0, .ref 0), (1, .int (nI a)), (2, .int 1)], [], XH tx (nI Z) (nI P, nI C, nI R, nI L, hs, ss, cs, gs, vs) dr rd (nI D, sm, nI N, nI K, ce, de, ke, se) i0 i1 kp dd tr m)
  refine zq_b [zq_il 2] [zq_ilchk 2] 22 rfl (by decide +kernel) ?_
  show zq_G _ _ _ _ _ 22 ([(0, .ref 0), (1, .int (nI a)), (2, .int 1)], [.int 1], XH tx (nI Z) (nI P, nI C, nI R, nI L, hs, ss, cs, gs, vs) dr rd (nI D, sm, nI N, nI K, ce, de, ke, se) i0 i1 kp dd tr m)
  refine zq_swc [(0, 48), (1, 58)] 68 (by decide +kernel) ⟨fun c => absurd c (by decide), fun _ => ?_, trivial⟩ (fun c => absurd (by decide) c.2.1)
  show zq_G _ _ _ _ _ 58 ([(0, .ref 0), (1, .int (nI a)), (2, .int 1)], [], XH tx (nI Z) (nI P, nI C, nI R, nI L, hs, ss, cs, gs, vs) dr rd (nI D, sm, nI N, nI K, ce, de, ke, se) i0 i1 kp dd tr m)
  refine zq_b [zq_al 0, zq_get 11 5, zq_get 5 5, zq_il 1, zq_iald a (ce a)] [zq_alchk 0, zq_getchk 11 5, zq_getchk 5 5, zq_ilchk 1, zq_is .iaload 1] 67 rfl (by decide +kernel) ?_
  refine ⟨rfl, (by omega), (by omega), rfl, ?_⟩
  show zq_G _ _ _ _ _ 67 ([(0, .ref 0), (1, .int (nI a)), (2, .int 1)], [.int (ce a)], XH tx (nI Z) (nI P, nI C, nI R, nI L, hs, ss, cs, gs, vs) dr rd (nI D, sm, nI N, nI K, ce, de, ke, se) i0 i1 kp dd tr m)
  exact zq_iret (by decide +kernel) rfl rfl rfl
set_option maxHeartbeats 4000000 in
set_option maxRecDepth 100000 in
theorem x_person_2 {a : Nat} (ha : a < P) (hP : P ≤ 6) (hC : C ≤ 8) (hce : ∀ j, j < P → ce j = nI (cn j) ∧ cn j ≤ 26) : zq_P l mX11_person 6 [.ref 0, .int (nI a), .int 2] (XH tx (nI Z) (nI P, nI C, nI R, nI L, hs, ss, cs, gs, vs) dr rd (nI D, sm, nI N, nI K, ce, de, ke, se) i0 i1 kp dd tr m) (some (.int (zbit (zseen C cs D P hs sm cn) (nI a)))) (XH tx (nI Z) (nI P, nI C, nI R, nI L, hs, ss, cs, gs, vs) dr rd (nI D, sm, nI N, nI K, ce, de, ke, se) i0 i1 kp dd tr m) := by
  refine zq_start (by decide +kernel) rfl (Nat.le_of_ble_eq_true rfl) ?_
  show zq_G _ _ _ _ _ 0 ([(0, .ref 0), (1, .int (nI a)), (2, .int 2)], [], XH tx (nI Z) (nI P, nI C, nI R, nI L, hs, ss, cs, gs, vs) dr rd (nI D, sm, nI N, nI K, ce, de, ke, se) i0 i1 kp dd tr m)
  refine zq_b [zq_al 0, zq_get 11 2, zq_il 1] [zq_alchk 0, zq_getchk 11 2, zq_ilchk 1] 5 rfl (by decide +kernel) ?_
  show zq_G _ _ _ _ _ 5 ([(0, .ref 0), (1, .int (nI a)), (2, .int 2)], [.int (nI a), .ref 2], XH tx (nI Z) (nI P, nI C, nI R, nI L, hs, ss, cs, gs, vs) dr rd (nI D, sm, nI N, nI K, ce, de, ke, se) i0 i1 kp dd tr m)
  refine zq_callV (av := [.int (nI a)]) (rest := []) (by decide +kernel) k11_105 (x_hasPersonN (p := a) hP (by omega)) rfl rfl rfl rfl ?_
  show zq_G _ _ _ _ _ 8 ([(0, .ref 0), (1, .int (nI a)), (2, .int 2)], [.int (zb (a < P))], XH tx (nI Z) (nI P, nI C, nI R, nI L, hs, ss, cs, gs, vs) dr rd (nI D, sm, nI N, nI K, ce, de, ke, se) i0 i1 kp dd tr m)
  refine zq_ifz .eq 19 (¬ (a < P)) (by decide +kernel) (zb_eq _) (fun c8 => absurd c8 (by omega)) (fun c8 => ?_)
  show zq_G _ _ _ _ _ 11 ([(0, .ref 0), (1, .int (nI a)), (2, .int 2)], [], XH tx (nI Z) (nI P, nI C, nI R, nI L, hs, ss, cs, gs, vs) dr rd (nI D, sm, nI N, nI K, ce, de, ke, se) i0 i1 kp dd tr m)
  refine zq_b [zq_il 2, zq_k 2] [zq_ilchk 2, zq_kchk 2] 13 rfl (by decide +kernel) ?_
  show zq_G _ _ _ _ _ 13 ([(0, .ref 0), (1, .int (nI a)), (2, .int 2)], [.int 2, .int 2], XH tx (nI Z) (nI P, nI C, nI R, nI L, hs, ss, cs, gs, vs) dr rd (nI D, sm, nI N, nI K, ce, de, ke, se) i0 i1 kp dd tr m)
  refine zq_callS (av := [.int 2, .int 2]) (rest := []) (by decide +kernel) k11_87 (x_isBeyondN (p := 2) (q := 2) (by omega) (by omega)) rfl rfl ?_
  show zq_G _ _ _ _ _ 16 ([(0, .ref 0), (1, .int (nI a)), (2, .int 2)], [.int (zb (2 < 2))], XH tx (nI Z) (nI P, nI C, nI R, nI L, hs, ss, cs, gs, vs) dr rd (nI D, sm, nI N, nI K, ce, de, ke, se) i0 i1 kp dd tr m)
  refine zq_ifz .eq 21 (¬ (2 < 2)) (by decide +kernel) (zb_eq _) (fun c16 => ?_) (fun c16 => absurd (by omega) c16)
  show zq_G _ _ _ _ _ 21 ([(0, .ref 0), (1, .int (nI a)), (2, .int 2)], [], XH tx (nI Z) (nI P, nI C, nI R, nI L, hs, ss, cs, gs, vs) dr rd (nI D, sm, nI N, nI K, ce, de, ke, se) i0 i1 kp dd tr m)
  refine zq_b [zq_il 2] [zq_ilchk 2] 22 rfl (by decide +kernel) ?_
  show zq_G _ _ _ _ _ 22 ([(0, .ref 0), (1, .int (nI a)), (2, .int 2)], [.int 2], XH tx (nI Z) (nI P, nI C, nI R, nI L, hs, ss, cs, gs, vs) dr rd (nI D, sm, nI N, nI K, ce, de, ke, se) i0 i1 kp dd tr m)
  refine zq_swc [(0, 48), (1, 58)] 68 (by decide +kernel) ⟨fun c => absurd c (by decide), fun c => absurd c (by decide), trivial⟩ (fun _ => ?_)
  show zq_G _ _ _ _ _ 68 ([(0, .ref 0), (1, .int (nI a)), (2, .int 2)], [], XH tx (nI Z) (nI P, nI C, nI R, nI L, hs, ss, cs, gs, vs) dr rd (nI D, sm, nI N, nI K, ce, de, ke, se) i0 i1 kp dd tr m)
  refine zq_b [zq_al 0, zq_get 11 5] [zq_alchk 0, zq_getchk 11 5] 72 rfl (by decide +kernel) ?_
  show zq_G _ _ _ _ _ 72 ([(0, .ref 0), (1, .int (nI a)), (2, .int 2)], [.ref 15], XH tx (nI Z) (nI P, nI C, nI R, nI L, hs, ss, cs, gs, vs) dr rd (nI D, sm, nI N, nI K, ce, de, ke, se) i0 i1 kp dd tr m)
  refine zq_callV (av := []) (rest := []) (by decide +kernel) k11_115 (c_seen hP hC hce) rfl rfl rfl rfl ?_
  show zq_G _ _ _ _ _ 75 ([(0, .ref 0), (1, .int (nI a)), (2, .int 2)], [.int (zseen C cs D P hs sm cn)], XH tx (nI Z) (nI P, nI C, nI R, nI L, hs, ss, cs, gs, vs) dr rd (nI D, sm, nI N, nI K, ce, de, ke, se) i0 i1 kp dd tr m)
  refine zq_b [zq_il 1] [zq_ilchk 1] 76 rfl (by decide +kernel) ?_
  show zq_G _ _ _ _ _ 76 ([(0, .ref 0), (1, .int (nI a)), (2, .int 2)], [.int (nI a), .int (zseen C cs D P hs sm cn)], XH tx (nI Z) (nI P, nI C, nI R, nI L, hs, ss, cs, gs, vs) dr rd (nI D, sm, nI N, nI K, ce, de, ke, se) i0 i1 kp dd tr m)
  refine zq_callS (av := [.int (zseen C cs D P hs sm cn), .int (nI a)]) (rest := []) (by decide +kernel) k11_119 (c_bit (x := (zseen C cs D P hs sm cn)) (p := (nI a))) rfl rfl ?_
  show zq_G _ _ _ _ _ 79 ([(0, .ref 0), (1, .int (nI a)), (2, .int 2)], [.int (zbit (zseen C cs D P hs sm cn) (nI a))], XH tx (nI Z) (nI P, nI C, nI R, nI L, hs, ss, cs, gs, vs) dr rd (nI D, sm, nI N, nI K, ce, de, ke, se) i0 i1 kp dd tr m)
  exact zq_iret (by decide +kernel) rfl rfl rfl
set_option maxHeartbeats 4000000 in
set_option maxRecDepth 100000 in
theorem x_cell_bad {x : Int32} {y : Int32} (hb : ¬ (0 ≤ x.toInt ∧ x.toInt < 25 ∧ 0 ≤ y.toInt ∧ y.toInt ≤ 1)) : zq_P l mX11_cell 1 [.ref 0, .int x, .int y] (XH tx (nI Z) (nI P, nI C, nI R, nI L, hs, ss, cs, gs, vs) dr rd (nI D, sm, nI N, nI K, ce, de, ke, se) i0 i1 kp dd tr m) (some (.int (-1))) (XH tx (nI Z) (nI P, nI C, nI R, nI L, hs, ss, cs, gs, vs) dr rd (nI D, sm, nI N, nI K, ce, de, ke, se) i0 i1 kp dd tr m) := by
  refine zq_start (by decide +kernel) rfl (Nat.le_of_ble_eq_true rfl) ?_
  show zq_G _ _ _ _ _ 0 ([(0, .ref 0), (1, .int x), (2, .int y)], [], XH tx (nI Z) (nI P, nI C, nI R, nI L, hs, ss, cs, gs, vs) dr rd (nI D, sm, nI N, nI K, ce, de, ke, se) i0 i1 kp dd tr m)
  refine zq_b [zq_il 1, zq_k 24] [zq_ilchk 1, zq_kchk 24] 3 rfl (by decide +kernel) ?_
  show zq_G _ _ _ _ _ 3 ([(0, .ref 0), (1, .int x), (2, .int y)], [.int 24, .int x], XH tx (nI Z) (nI P, nI C, nI R, nI L, hs, ss, cs, gs, vs) dr rd (nI D, sm, nI N, nI K, ce, de, ke, se) i0 i1 kp dd tr m)
  refine zq_callS (av := [.int x, .int 24]) (rest := []) (by decide +kernel) k11_87 (x_isBeyond (x := x) (q := 24) (by omega)) rfl rfl ?_
  show zq_G _ _ _ _ _ 6 ([(0, .ref 0), (1, .int x), (2, .int y)], [.int (zb (x.toInt < 0 ∨ (24 : Int) < x.toInt))], XH tx (nI Z) (nI P, nI C, nI R, nI L, hs, ss, cs, gs, vs) dr rd (nI D, sm, nI N, nI K, ce, de, ke, se) i0 i1 kp dd tr m)
  refine zq_ifz .ne 17 (x.toInt < 0 ∨ (24 : Int) < x.toInt) (by decide +kernel) (zb_ne _) (fun c6 => ?_) (fun c6 => ?_)
  · show zq_G _ _ _ _ _ 17 ([(0, .ref 0), (1, .int x), (2, .int y)], [], XH tx (nI Z) (nI P, nI C, nI R, nI L, hs, ss, cs, gs, vs) dr rd (nI D, sm, nI N, nI K, ce, de, ke, se) i0 i1 kp dd tr m)
    refine zq_b [zq_k (-1)] [zq_kchk (-1)] 18 rfl (by decide +kernel) ?_
    show zq_G _ _ _ _ _ 18 ([(0, .ref 0), (1, .int x), (2, .int y)], [.int (-1)], XH tx (nI Z) (nI P, nI C, nI R, nI L, hs, ss, cs, gs, vs) dr rd (nI D, sm, nI N, nI K, ce, de, ke, se) i0 i1 kp dd tr m)
    exact zq_iret (by decide +kernel) rfl rfl rfl
  · show zq_G _ _ _ _ _ 9 ([(0, .ref 0), (1, .int x), (2, .int y)], [], XH tx (nI Z) (nI P, nI C, nI R, nI L, hs, ss, cs, gs, vs) dr rd (nI D, sm, nI N, nI K, ce, de, ke, se) i0 i1 kp dd tr m)
    refine zq_b [zq_il 2, zq_k 1] [zq_ilchk 2, zq_kchk 1] 11 rfl (by decide +kernel) ?_
    show zq_G _ _ _ _ _ 11 ([(0, .ref 0), (1, .int x), (2, .int y)], [.int 1, .int y], XH tx (nI Z) (nI P, nI C, nI R, nI L, hs, ss, cs, gs, vs) dr rd (nI D, sm, nI N, nI K, ce, de, ke, se) i0 i1 kp dd tr m)
    refine zq_callS (av := [.int y, .int 1]) (rest := []) (by decide +kernel) k11_87 (x_isBeyond (x := y) (q := 1) (by omega)) rfl rfl ?_
    show zq_G _ _ _ _ _ 14 ([(0, .ref 0), (1, .int x), (2, .int y)], [.int (zb (y.toInt < 0 ∨ (1 : Int) < y.toInt))], XH tx (nI Z) (nI P, nI C, nI R, nI L, hs, ss, cs, gs, vs) dr rd (nI D, sm, nI N, nI K, ce, de, ke, se) i0 i1 kp dd tr m)
    refine zq_ifz .eq 19 (¬ (y.toInt < 0 ∨ (1 : Int) < y.toInt)) (by decide +kernel) (zb_eq _) (fun c14 => ?_) (fun c14 => ?_)
    · show zq_G _ _ _ _ _ 19 ([(0, .ref 0), (1, .int x), (2, .int y)], [], XH tx (nI Z) (nI P, nI C, nI R, nI L, hs, ss, cs, gs, vs) dr rd (nI D, sm, nI N, nI K, ce, de, ke, se) i0 i1 kp dd tr m)
      exact absurd hb (by omega)
    · show zq_G _ _ _ _ _ 17 ([(0, .ref 0), (1, .int x), (2, .int y)], [], XH tx (nI Z) (nI P, nI C, nI R, nI L, hs, ss, cs, gs, vs) dr rd (nI D, sm, nI N, nI K, ce, de, ke, se) i0 i1 kp dd tr m)
      refine zq_b [zq_k (-1)] [zq_kchk (-1)] 18 rfl (by decide +kernel) ?_
      show zq_G _ _ _ _ _ 18 ([(0, .ref 0), (1, .int x), (2, .int y)], [.int (-1)], XH tx (nI Z) (nI P, nI C, nI R, nI L, hs, ss, cs, gs, vs) dr rd (nI D, sm, nI N, nI K, ce, de, ke, se) i0 i1 kp dd tr m)
      exact zq_iret (by decide +kernel) rfl rfl rfl
set_option maxHeartbeats 4000000 in
set_option maxRecDepth 100000 in
theorem x_cell_0 {a : Nat} (ha : a < 25) (hP : P ≤ 6) : zq_P l mX11_cell 1 [.ref 0, .int (nI a), .int 0] (XH tx (nI Z) (nI P, nI C, nI R, nI L, hs, ss, cs, gs, vs) dr rd (nI D, sm, nI N, nI K, ce, de, ke, se) i0 i1 kp dd tr m) (some (.int (orB (fun p => decide (ce p = nI a)) P))) (XH tx (nI Z) (nI P, nI C, nI R, nI L, hs, ss, cs, gs, vs) dr rd (nI D, sm, nI N, nI K, ce, de, ke, se) i0 i1 kp dd tr m) := by
  refine zq_start (by decide +kernel) rfl (Nat.le_of_ble_eq_true rfl) ?_
  show zq_G _ _ _ _ _ 0 ([(0, .ref 0), (1, .int (nI a)), (2, .int 0)], [], XH tx (nI Z) (nI P, nI C, nI R, nI L, hs, ss, cs, gs, vs) dr rd (nI D, sm, nI N, nI K, ce, de, ke, se) i0 i1 kp dd tr m)
  refine zq_b [zq_il 1, zq_k 24] [zq_ilchk 1, zq_kchk 24] 3 rfl (by decide +kernel) ?_
  show zq_G _ _ _ _ _ 3 ([(0, .ref 0), (1, .int (nI a)), (2, .int 0)], [.int 24, .int (nI a)], XH tx (nI Z) (nI P, nI C, nI R, nI L, hs, ss, cs, gs, vs) dr rd (nI D, sm, nI N, nI K, ce, de, ke, se) i0 i1 kp dd tr m)
  refine zq_callS (av := [.int (nI a), .int 24]) (rest := []) (by decide +kernel) k11_87 (x_isBeyondN (p := a) (q := 24) (by omega) (by omega)) rfl rfl ?_
  show zq_G _ _ _ _ _ 6 ([(0, .ref 0), (1, .int (nI a)), (2, .int 0)], [.int (zb (24 < a))], XH tx (nI Z) (nI P, nI C, nI R, nI L, hs, ss, cs, gs, vs) dr rd (nI D, sm, nI N, nI K, ce, de, ke, se) i0 i1 kp dd tr m)
  refine zq_ifz .ne 17 (24 < a) (by decide +kernel) (zb_ne _) (fun c6 => absurd c6 (by omega)) (fun c6 => ?_)
  show zq_G _ _ _ _ _ 9 ([(0, .ref 0), (1, .int (nI a)), (2, .int 0)], [], XH tx (nI Z) (nI P, nI C, nI R, nI L, hs, ss, cs, gs, vs) dr rd (nI D, sm, nI N, nI K, ce, de, ke, se) i0 i1 kp dd tr m)
  refine zq_b [zq_il 2, zq_k 1] [zq_ilchk 2, zq_kchk 1] 11 rfl (by decide +kernel) ?_
  show zq_G _ _ _ _ _ 11 ([(0, .ref 0), (1, .int (nI a)), (2, .int 0)], [.int 1, .int 0], XH tx (nI Z) (nI P, nI C, nI R, nI L, hs, ss, cs, gs, vs) dr rd (nI D, sm, nI N, nI K, ce, de, ke, se) i0 i1 kp dd tr m)
  refine zq_callS (av := [.int 0, .int 1]) (rest := []) (by decide +kernel) k11_87 (x_isBeyondN (p := 0) (q := 1) (by omega) (by omega)) rfl rfl ?_
  show zq_G _ _ _ _ _ 14 ([(0, .ref 0), (1, .int (nI a)), (2, .int 0)], [.int (zb (1 < 0))], XH tx (nI Z) (nI P, nI C, nI R, nI L, hs, ss, cs, gs, vs) dr rd (nI D, sm, nI N, nI K, ce, de, ke, se) i0 i1 kp dd tr m)
  refine zq_ifz .eq 19 (¬ (1 < 0)) (by decide +kernel) (zb_eq _) (fun c14 => ?_) (fun c14 => absurd (by omega) c14)
  show zq_G _ _ _ _ _ 19 ([(0, .ref 0), (1, .int (nI a)), (2, .int 0)], [], XH tx (nI Z) (nI P, nI C, nI R, nI L, hs, ss, cs, gs, vs) dr rd (nI D, sm, nI N, nI K, ce, de, ke, se) i0 i1 kp dd tr m)
  refine zq_b [zq_il 2] [zq_ilchk 2] 20 rfl (by decide +kernel) ?_
  show zq_G _ _ _ _ _ 20 ([(0, .ref 0), (1, .int (nI a)), (2, .int 0)], [.int 0], XH tx (nI Z) (nI P, nI C, nI R, nI L, hs, ss, cs, gs, vs) dr rd (nI D, sm, nI N, nI K, ce, de, ke, se) i0 i1 kp dd tr m)
  refine zq_ifz .ne 34 (¬ 0 = 0) (by decide +kernel) (zq_cne (a := 0) (b := 0) (by omega) (by omega)) (fun c20 => absurd c20 (fun q => q rfl)) (fun c20 => ?_)
  show zq_G _ _ _ _ _ 23 ([(0, .ref 0), (1, .int (nI a)), (2, .int 0)], [], XH tx (nI Z) (nI P, nI C, nI R, nI L, hs, ss, cs, gs, vs) dr rd (nI D, sm, nI N, nI K, ce, de, ke, se) i0 i1 kp dd tr m)
  refine zq_b [zq_al 0, zq_get 11 5, zq_il 1] [zq_alchk 0, zq_getchk 11 5, zq_ilchk 1] 28 rfl (by decide +kernel) ?_
  show zq_G _ _ _ _ _ 28 ([(0, .ref 0), (1, .int (nI a)), (2, .int 0)], [.int (nI a), .ref 15], XH tx (nI Z) (nI P, nI C, nI R, nI L, hs, ss, cs, gs, vs) dr rd (nI D, sm, nI N, nI K, ce, de, ke, se) i0 i1 kp dd tr m)
  refine zq_callV (av := [.int (nI a)]) (rest := []) (by decide +kernel) k11_123 (c_peopleIn (x := (nI a)) hP) rfl rfl rfl rfl ?_
  show zq_G _ _ _ _ _ 31 ([(0, .ref 0), (1, .int (nI a)), (2, .int 0)], [.int (orB (fun p => decide (ce p = (nI a))) P)], XH tx (nI Z) (nI P, nI C, nI R, nI L, hs, ss, cs, gs, vs) dr rd (nI D, sm, nI N, nI K, ce, de, ke, se) i0 i1 kp dd tr m)
  refine zq_b [zq_go] [zq_gochk] 45 rfl (by decide +kernel) ?_
  show zq_G _ _ _ _ _ 45 ([(0, .ref 0), (1, .int (nI a)), (2, .int 0)], [.int (orB (fun p => decide (ce p = (nI a))) P)], XH tx (nI Z) (nI P, nI C, nI R, nI L, hs, ss, cs, gs, vs) dr rd (nI D, sm, nI N, nI K, ce, de, ke, se) i0 i1 kp dd tr m)
  exact zq_iret (by decide +kernel) rfl rfl rfl
set_option maxHeartbeats 4000000 in
set_option maxRecDepth 100000 in
theorem x_cell_1 {a : Nat} (ha : a < 25) : zq_P l mX11_cell 1 [.ref 0, .int (nI a), .int 1] (XH tx (nI Z) (nI P, nI C, nI R, nI L, hs, ss, cs, gs, vs) dr rd (nI D, sm, nI N, nI K, ce, de, ke, se) i0 i1 kp dd tr m) (some (.int (zbit sm (nI a)))) (XH tx (nI Z) (nI P, nI C, nI R, nI L, hs, ss, cs, gs, vs) dr rd (nI D, sm, nI N, nI K, ce, de, ke, se) i0 i1 kp dd tr m) := by
  refine zq_start (by decide +kernel) rfl (Nat.le_of_ble_eq_true rfl) ?_
  show zq_G _ _ _ _ _ 0 ([(0, .ref 0), (1, .int (nI a)), (2, .int 1)], [], XH tx (nI Z) (nI P, nI C, nI R, nI L, hs, ss, cs, gs, vs) dr rd (nI D, sm, nI N, nI K, ce, de, ke, se) i0 i1 kp dd tr m)
  refine zq_b [zq_il 1, zq_k 24] [zq_ilchk 1, zq_kchk 24] 3 rfl (by decide +kernel) ?_
  show zq_G _ _ _ _ _ 3 ([(0, .ref 0), (1, .int (nI a)), (2, .int 1)], [.int 24, .int (nI a)], XH tx (nI Z) (nI P, nI C, nI R, nI L, hs, ss, cs, gs, vs) dr rd (nI D, sm, nI N, nI K, ce, de, ke, se) i0 i1 kp dd tr m)
  refine zq_callS (av := [.int (nI a), .int 24]) (rest := []) (by decide +kernel) k11_87 (x_isBeyondN (p := a) (q := 24) (by omega) (by omega)) rfl rfl ?_
  show zq_G _ _ _ _ _ 6 ([(0, .ref 0), (1, .int (nI a)), (2, .int 1)], [.int (zb (24 < a))], XH tx (nI Z) (nI P, nI C, nI R, nI L, hs, ss, cs, gs, vs) dr rd (nI D, sm, nI N, nI K, ce, de, ke, se) i0 i1 kp dd tr m)
  refine zq_ifz .ne 17 (24 < a) (by decide +kernel) (zb_ne _) (fun c6 => absurd c6 (by omega)) (fun c6 => ?_)
  show zq_G _ _ _ _ _ 9 ([(0, .ref 0), (1, .int (nI a)), (2, .int 1)], [], XH tx (nI Z) (nI P, nI C, nI R, nI L, hs, ss, cs, gs, vs) dr rd (nI D, sm, nI N, nI K, ce, de, ke, se) i0 i1 kp dd tr m)
  refine zq_b [zq_il 2, zq_k 1] [zq_ilchk 2, zq_kchk 1] 11 rfl (by decide +kernel) ?_
  show zq_G _ _ _ _ _ 11 ([(0, .ref 0), (1, .int (nI a)), (2, .int 1)], [.int 1, .int 1], XH tx (nI Z) (nI P, nI C, nI R, nI L, hs, ss, cs, gs, vs) dr rd (nI D, sm, nI N, nI K, ce, de, ke, se) i0 i1 kp dd tr m)
  refine zq_callS (av := [.int 1, .int 1]) (rest := []) (by decide +kernel) k11_87 (x_isBeyondN (p := 1) (q := 1) (by omega) (by omega)) rfl rfl ?_
  show zq_G _ _ _ _ _ 14 ([(0, .ref 0), (1, .int (nI a)), (2, .int 1)], [.int (zb (1 < 1))], XH tx (nI Z) (nI P, nI C, nI R, nI L, hs, ss, cs, gs, vs) dr rd (nI D, sm, nI N, nI K, ce, de, ke, se) i0 i1 kp dd tr m)
  refine zq_ifz .eq 19 (¬ (1 < 1)) (by decide +kernel) (zb_eq _) (fun c14 => ?_) (fun c14 => absurd (by omega) c14)
  show zq_G _ _ _ _ _ 19 ([(0, .ref 0), (1, .int (nI a)), (2, .int 1)], [], XH tx (nI Z) (nI P, nI C, nI R, nI L, hs, ss, cs, gs, vs) dr rd (nI D, sm, nI N, nI K, ce, de, ke, se) i0 i1 kp dd tr m)
  refine zq_b [zq_il 2] [zq_ilchk 2] 20 rfl (by decide +kernel) ?_
  show zq_G _ _ _ _ _ 20 ([(0, .ref 0), (1, .int (nI a)), (2, .int 1)], [.int 1], XH tx (nI Z) (nI P, nI C, nI R, nI L, hs, ss, cs, gs, vs) dr rd (nI D, sm, nI N, nI K, ce, de, ke, se) i0 i1 kp dd tr m)
  refine zq_ifz .ne 34 (¬ 1 = 0) (by decide +kernel) (zq_cne (a := 1) (b := 0) (by omega) (by omega)) (fun c20 => ?_) (fun c20 => absurd (by decide) c20)
  show zq_G _ _ _ _ _ 34 ([(0, .ref 0), (1, .int (nI a)), (2, .int 1)], [], XH tx (nI Z) (nI P, nI C, nI R, nI L, hs, ss, cs, gs, vs) dr rd (nI D, sm, nI N, nI K, ce, de, ke, se) i0 i1 kp dd tr m)
  refine zq_b [zq_al 0, zq_get 11 5, zq_get 5 2, zq_il 1] [zq_alchk 0, zq_getchk 11 5, zq_getchk 5 2, zq_ilchk 1] 42 rfl (by decide +kernel) ?_
  show zq_G _ _ _ _ _ 42 ([(0, .ref 0), (1, .int (nI a)), (2, .int 1)], [.int (nI a), .int sm], XH tx (nI Z) (nI P, nI C, nI R, nI L, hs, ss, cs, gs, vs) dr rd (nI D, sm, nI N, nI K, ce, de, ke, se) i0 i1 kp dd tr m)
  refine zq_callS (av := [.int sm, .int (nI a)]) (rest := []) (by decide +kernel) k11_119 (c_bit (x := sm) (p := (nI a))) rfl rfl ?_
  show zq_G _ _ _ _ _ 45 ([(0, .ref 0), (1, .int (nI a)), (2, .int 1)], [.int (zbit sm (nI a))], XH tx (nI Z) (nI P, nI C, nI R, nI L, hs, ss, cs, gs, vs) dr rd (nI D, sm, nI N, nI K, ce, de, ke, se) i0 i1 kp dd tr m)
  exact zq_iret (by decide +kernel) rfl rfl rfl
set_option maxHeartbeats 4000000 in
set_option maxRecDepth 100000 in
theorem x_now_bad {x : Int32} (hb : x.toInt < 0 ∨ 4 < x.toInt) : zq_P l mX11_now 0 [.ref 0, .int x] (XH tx (nI Z) (nI P, nI C, nI R, nI L, hs, ss, cs, gs, vs) dr rd (nI D, sm, nI N, nI K, ce, de, ke, se) i0 i1 kp dd tr m) (some (.int (-1))) (XH tx (nI Z) (nI P, nI C, nI R, nI L, hs, ss, cs, gs, vs) dr rd (nI D, sm, nI N, nI K, ce, de, ke, se) i0 i1 kp dd tr m) := by
  refine zq_start (by decide +kernel) rfl (Nat.le_of_ble_eq_true rfl) ?_
  show zq_G _ _ _ _ _ 0 ([(0, .ref 0), (1, .int x)], [], XH tx (nI Z) (nI P, nI C, nI R, nI L, hs, ss, cs, gs, vs) dr rd (nI D, sm, nI N, nI K, ce, de, ke, se) i0 i1 kp dd tr m)
  refine zq_b [zq_il 1] [zq_ilchk 1] 1 rfl (by decide +kernel) ?_
  show zq_G _ _ _ _ _ 1 ([(0, .ref 0), (1, .int x)], [.int x], XH tx (nI Z) (nI P, nI C, nI R, nI L, hs, ss, cs, gs, vs) dr rd (nI D, sm, nI N, nI K, ce, de, ke, se) i0 i1 kp dd tr m)
  refine zq_swc [(0, 36), (1, 44), (2, 52), (3, 75), (4, 83)] 91 (by decide +kernel) ⟨fun c => absurd c (by omega), fun c => absurd c (by omega), fun c => absurd c (by omega), fun c => absurd c (by omega), fun c => absurd c (by omega), trivial⟩ (fun _ => ?_)
  show zq_G _ _ _ _ _ 91 ([(0, .ref 0), (1, .int x)], [], XH tx (nI Z) (nI P, nI C, nI R, nI L, hs, ss, cs, gs, vs) dr rd (nI D, sm, nI N, nI K, ce, de, ke, se) i0 i1 kp dd tr m)
  refine zq_b [zq_k (-1)] [zq_kchk (-1)] 92 rfl (by decide +kernel) ?_
  show zq_G _ _ _ _ _ 92 ([(0, .ref 0), (1, .int x)], [.int (-1)], XH tx (nI Z) (nI P, nI C, nI R, nI L, hs, ss, cs, gs, vs) dr rd (nI D, sm, nI N, nI K, ce, de, ke, se) i0 i1 kp dd tr m)
  exact zq_iret (by decide +kernel) rfl rfl rfl
set_option maxHeartbeats 4000000 in
set_option maxRecDepth 100000 in
theorem x_now_0   : zq_P l mX11_now 0 [.ref 0, .int 0] (XH tx (nI Z) (nI P, nI C, nI R, nI L, hs, ss, cs, gs, vs) dr rd (nI D, sm, nI N, nI K, ce, de, ke, se) i0 i1 kp dd tr m) (some (.int (nI D))) (XH tx (nI Z) (nI P, nI C, nI R, nI L, hs, ss, cs, gs, vs) dr rd (nI D, sm, nI N, nI K, ce, de, ke, se) i0 i1 kp dd tr m) := by
  refine zq_start (by decide +kernel) rfl (Nat.le_of_ble_eq_true rfl) ?_
  show zq_G _ _ _ _ _ 0 ([(0, .ref 0), (1, .int 0)], [], XH tx (nI Z) (nI P, nI C, nI R, nI L, hs, ss, cs, gs, vs) dr rd (nI D, sm, nI N, nI K, ce, de, ke, se) i0 i1 kp dd tr m)
  refine zq_b [zq_il 1] [zq_ilchk 1] 1 rfl (by decide +kernel) ?_
  show zq_G _ _ _ _ _ 1 ([(0, .ref 0), (1, .int 0)], [.int 0], XH tx (nI Z) (nI P, nI C, nI R, nI L, hs, ss, cs, gs, vs) dr rd (nI D, sm, nI N, nI K, ce, de, ke, se) i0 i1 kp dd tr m)
  refine zq_swc [(0, 36), (1, 44), (2, 52), (3, 75), (4, 83)] 91 (by decide +kernel) ⟨fun _ => ?_, fun c => absurd c (by decide), fun c => absurd c (by decide), fun c => absurd c (by decide), fun c => absurd c (by decide), trivial⟩ (fun c => absurd (by decide) c.1)
  show zq_G _ _ _ _ _ 36 ([(0, .ref 0), (1, .int 0)], [], XH tx (nI Z) (nI P, nI C, nI R, nI L, hs, ss, cs, gs, vs) dr rd (nI D, sm, nI N, nI K, ce, de, ke, se) i0 i1 kp dd tr m)
  refine zq_b [zq_al 0, zq_get 11 5, zq_get 5 1] [zq_alchk 0, zq_getchk 11 5, zq_getchk 5 1] 43 rfl (by decide +kernel) ?_
  show zq_G _ _ _ _ _ 43 ([(0, .ref 0), (1, .int 0)], [.int (nI D)], XH tx (nI Z) (nI P, nI C, nI R, nI L, hs, ss, cs, gs, vs) dr rd (nI D, sm, nI N, nI K, ce, de, ke, se) i0 i1 kp dd tr m)
  exact zq_iret (by decide +kernel) rfl rfl rfl
set_option maxHeartbeats 4000000 in
set_option maxRecDepth 100000 in
theorem x_now_1  (hP : P ≤ 6) (hC : C ≤ 8) (hce : ∀ j, j < P → ce j = nI (cn j) ∧ cn j ≤ 26) : zq_P l mX11_now 6 [.ref 0, .int 1] (XH tx (nI Z) (nI P, nI C, nI R, nI L, hs, ss, cs, gs, vs) dr rd (nI D, sm, nI N, nI K, ce, de, ke, se) i0 i1 kp dd tr m) (some (.int (zseen C cs D P hs sm cn))) (XH tx (nI Z) (nI P, nI C, nI R, nI L, hs, ss, cs, gs, vs) dr rd (nI D, sm, nI N, nI K, ce, de, ke, se) i0 i1 kp dd tr m) := by
  refine zq_start (by decide +kernel) rfl (Nat.le_of_ble_eq_true rfl) ?_
  show zq_G _ _ _ _ _ 0 ([(0, .ref 0), (1, .int 1)], [], XH tx (nI Z) (nI P, nI C, nI R, nI L, hs, ss, cs, gs, vs) dr rd (nI D, sm, nI N, nI K, ce, de, ke, se) i0 i1 kp dd tr m)
  refine zq_b [zq_il 1] [zq_ilchk 1] 1 rfl (by decide +kernel) ?_
  show zq_G _ _ _ _ _ 1 ([(0, .ref 0), (1, .int 1)], [.int 1], XH tx (nI Z) (nI P, nI C, nI R, nI L, hs, ss, cs, gs, vs) dr rd (nI D, sm, nI N, nI K, ce, de, ke, se) i0 i1 kp dd tr m)
  refine zq_swc [(0, 36), (1, 44), (2, 52), (3, 75), (4, 83)] 91 (by decide +kernel) ⟨fun c => absurd c (by decide), fun _ => ?_, fun c => absurd c (by decide), fun c => absurd c (by decide), fun c => absurd c (by decide), trivial⟩ (fun c => absurd (by decide) c.2.1)
  show zq_G _ _ _ _ _ 44 ([(0, .ref 0), (1, .int 1)], [], XH tx (nI Z) (nI P, nI C, nI R, nI L, hs, ss, cs, gs, vs) dr rd (nI D, sm, nI N, nI K, ce, de, ke, se) i0 i1 kp dd tr m)
  refine zq_b [zq_al 0, zq_get 11 5] [zq_alchk 0, zq_getchk 11 5] 48 rfl (by decide +kernel) ?_
  show zq_G _ _ _ _ _ 48 ([(0, .ref 0), (1, .int 1)], [.ref 15], XH tx (nI Z) (nI P, nI C, nI R, nI L, hs, ss, cs, gs, vs) dr rd (nI D, sm, nI N, nI K, ce, de, ke, se) i0 i1 kp dd tr m)
  refine zq_callV (av := []) (rest := []) (by decide +kernel) k11_115 (c_seen hP hC hce) rfl rfl rfl rfl ?_
  show zq_G _ _ _ _ _ 51 ([(0, .ref 0), (1, .int 1)], [.int (zseen C cs D P hs sm cn)], XH tx (nI Z) (nI P, nI C, nI R, nI L, hs, ss, cs, gs, vs) dr rd (nI D, sm, nI N, nI K, ce, de, ke, se) i0 i1 kp dd tr m)
  exact zq_iret (by decide +kernel) rfl rfl rfl
set_option maxHeartbeats 4000000 in
set_option maxRecDepth 100000 in
theorem x_now_2  (hC : C ≤ 8) : zq_P l mX11_now 6 [.ref 0, .int 2] (XH tx (nI Z) (nI P, nI C, nI R, nI L, hs, ss, cs, gs, vs) dr rd (nI D, sm, nI N, nI K, ce, de, ke, se) i0 i1 kp dd tr m) (some (.int (zb (zany (fun i => decide (cs i = nI D)) C = true)))) (XH tx (nI Z) (nI P, nI C, nI R, nI L, hs, ss, cs, gs, vs) dr rd (nI D, sm, nI N, nI K, ce, de, ke, se) i0 i1 kp dd tr m) := by
  refine zq_start (by decide +kernel) rfl (Nat.le_of_ble_eq_true rfl) ?_
  show zq_G _ _ _ _ _ 0 ([(0, .ref 0), (1, .int 2)], [], XH tx (nI Z) (nI P, nI C, nI R, nI L, hs, ss, cs, gs, vs) dr rd (nI D, sm, nI N, nI K, ce, de, ke, se) i0 i1 kp dd tr m)
  refine zq_b [zq_il 1] [zq_ilchk 1] 1 rfl (by decide +kernel) ?_
  show zq_G _ _ _ _ _ 1 ([(0, .ref 0), (1, .int 2)], [.int 2], XH tx (nI Z) (nI P, nI C, nI R, nI L, hs, ss, cs, gs, vs) dr rd (nI D, sm, nI N, nI K, ce, de, ke, se) i0 i1 kp dd tr m)
  refine zq_swc [(0, 36), (1, 44), (2, 52), (3, 75), (4, 83)] 91 (by decide +kernel) ⟨fun c => absurd c (by decide), fun c => absurd c (by decide), fun _ => ?_, fun c => absurd c (by decide), fun c => absurd c (by decide), trivial⟩ (fun c => absurd (by decide) c.2.2.1)
  show zq_G _ _ _ _ _ 52 ([(0, .ref 0), (1, .int 2)], [], XH tx (nI Z) (nI P, nI C, nI R, nI L, hs, ss, cs, gs, vs) dr rd (nI D, sm, nI N, nI K, ce, de, ke, se) i0 i1 kp dd tr m)
  refine zq_b [zq_al 0, zq_get 11 2, zq_al 0, zq_get 11 5, zq_get 5 1] [zq_alchk 0, zq_getchk 11 2, zq_alchk 0, zq_getchk 11 5, zq_getchk 5 1] 63 rfl (by decide +kernel) ?_
  show zq_G _ _ _ _ _ 63 ([(0, .ref 0), (1, .int 2)], [.int (nI D), .ref 2], XH tx (nI Z) (nI P, nI C, nI R, nI L, hs, ss, cs, gs, vs) dr rd (nI D, sm, nI N, nI K, ce, de, ke, se) i0 i1 kp dd tr m)
  refine zq_callV (av := [.int (nI D)]) (rest := []) (by decide +kernel) k11_132 (c_hasCloud (day := (nI D)) hC) rfl rfl rfl rfl ?_
  show zq_G _ _ _ _ _ 66 ([(0, .ref 0), (1, .int 2)], [.int (zb (zany (fun i => decide (cs i = (nI D))) C = true))], XH tx (nI Z) (nI P, nI C, nI R, nI L, hs, ss, cs, gs, vs) dr rd (nI D, sm, nI N, nI K, ce, de, ke, se) i0 i1 kp dd tr m)
  refine zq_ifz .eq 73 (¬ (zany (fun i => decide (cs i = (nI D))) C = true)) (by decide +kernel) (zb_eq _) (fun c66 => ?_) (fun c66 => ?_)
  · show zq_G _ _ _ _ _ 73 ([(0, .ref 0), (1, .int 2)], [], XH tx (nI Z) (nI P, nI C, nI R, nI L, hs, ss, cs, gs, vs) dr rd (nI D, sm, nI N, nI K, ce, de, ke, se) i0 i1 kp dd tr m)
    refine zq_b [zq_k 0] [zq_kchk 0] 74 rfl (by decide +kernel) ?_
    show zq_G _ _ _ _ _ 74 ([(0, .ref 0), (1, .int 2)], [.int 0], XH tx (nI Z) (nI P, nI C, nI R, nI L, hs, ss, cs, gs, vs) dr rd (nI D, sm, nI N, nI K, ce, de, ke, se) i0 i1 kp dd tr m)
    exact zq_iret (by decide +kernel) rfl (zb_r (zb_f c66)) rfl
  · show zq_G _ _ _ _ _ 69 ([(0, .ref 0), (1, .int 2)], [], XH tx (nI Z) (nI P, nI C, nI R, nI L, hs, ss, cs, gs, vs) dr rd (nI D, sm, nI N, nI K, ce, de, ke, se) i0 i1 kp dd tr m)
    refine zq_b [zq_k 1, zq_go] [zq_kchk 1, zq_gochk] 74 rfl (by decide +kernel) ?_
    show zq_G _ _ _ _ _ 74 ([(0, .ref 0), (1, .int 2)], [.int 1], XH tx (nI Z) (nI P, nI C, nI R, nI L, hs, ss, cs, gs, vs) dr rd (nI D, sm, nI N, nI K, ce, de, ke, se) i0 i1 kp dd tr m)
    exact zq_iret (by decide +kernel) rfl (zb_r (zb_t (Decidable.not_not.mp c66))) rfl
set_option maxHeartbeats 4000000 in
set_option maxRecDepth 100000 in
theorem x_now_3   : zq_P l mX11_now 0 [.ref 0, .int 3] (XH tx (nI Z) (nI P, nI C, nI R, nI L, hs, ss, cs, gs, vs) dr rd (nI D, sm, nI N, nI K, ce, de, ke, se) i0 i1 kp dd tr m) (some (.int sm)) (XH tx (nI Z) (nI P, nI C, nI R, nI L, hs, ss, cs, gs, vs) dr rd (nI D, sm, nI N, nI K, ce, de, ke, se) i0 i1 kp dd tr m) := by
  refine zq_start (by decide +kernel) rfl (Nat.le_of_ble_eq_true rfl) ?_
  show zq_G _ _ _ _ _ 0 ([(0, .ref 0), (1, .int 3)], [], XH tx (nI Z) (nI P, nI C, nI R, nI L, hs, ss, cs, gs, vs) dr rd (nI D, sm, nI N, nI K, ce, de, ke, se) i0 i1 kp dd tr m)
  refine zq_b [zq_il 1] [zq_ilchk 1] 1 rfl (by decide +kernel) ?_
  show zq_G _ _ _ _ _ 1 ([(0, .ref 0), (1, .int 3)], [.int 3], XH tx (nI Z) (nI P, nI C, nI R, nI L, hs, ss, cs, gs, vs) dr rd (nI D, sm, nI N, nI K, ce, de, ke, se) i0 i1 kp dd tr m)
  refine zq_swc [(0, 36), (1, 44), (2, 52), (3, 75), (4, 83)] 91 (by decide +kernel) ⟨fun c => absurd c (by decide), fun c => absurd c (by decide), fun c => absurd c (by decide), fun _ => ?_, fun c => absurd c (by decide), trivial⟩ (fun c => absurd (by decide) c.2.2.2.1)
  show zq_G _ _ _ _ _ 75 ([(0, .ref 0), (1, .int 3)], [], XH tx (nI Z) (nI P, nI C, nI R, nI L, hs, ss, cs, gs, vs) dr rd (nI D, sm, nI N, nI K, ce, de, ke, se) i0 i1 kp dd tr m)
  refine zq_b [zq_al 0, zq_get 11 5, zq_get 5 2] [zq_alchk 0, zq_getchk 11 5, zq_getchk 5 2] 82 rfl (by decide +kernel) ?_
  show zq_G _ _ _ _ _ 82 ([(0, .ref 0), (1, .int 3)], [.int sm], XH tx (nI Z) (nI P, nI C, nI R, nI L, hs, ss, cs, gs, vs) dr rd (nI D, sm, nI N, nI K, ce, de, ke, se) i0 i1 kp dd tr m)
  exact zq_iret (by decide +kernel) rfl rfl rfl
set_option maxHeartbeats 4000000 in
set_option maxRecDepth 100000 in
theorem x_now_4   : zq_P l mX11_now 0 [.ref 0, .int 4] (XH tx (nI Z) (nI P, nI C, nI R, nI L, hs, ss, cs, gs, vs) dr rd (nI D, sm, nI N, nI K, ce, de, ke, se) i0 i1 kp dd tr m) (some (.int (nI L))) (XH tx (nI Z) (nI P, nI C, nI R, nI L, hs, ss, cs, gs, vs) dr rd (nI D, sm, nI N, nI K, ce, de, ke, se) i0 i1 kp dd tr m) := by
  refine zq_start (by decide +kernel) rfl (Nat.le_of_ble_eq_true rfl) ?_
  show zq_G _ _ _ _ _ 0 ([(0, .ref 0), (1, .int 4)], [], XH tx (nI Z) (nI P, nI C, nI R, nI L, hs, ss, cs, gs, vs) dr rd (nI D, sm, nI N, nI K, ce, de, ke, se) i0 i1 kp dd tr m)
  refine zq_b [zq_il 1] [zq_ilchk 1] 1 rfl (by decide +kernel) ?_
  show zq_G _ _ _ _ _ 1 ([(0, .ref 0), (1, .int 4)], [.int 4], XH tx (nI Z) (nI P, nI C, nI R, nI L, hs, ss, cs, gs, vs) dr rd (nI D, sm, nI N, nI K, ce, de, ke, se) i0 i1 kp dd tr m)
  refine zq_swc [(0, 36), (1, 44), (2, 52), (3, 75), (4, 83)] 91 (by decide +kernel) ⟨fun c => absurd c (by decide), fun c => absurd c (by decide), fun c => absurd c (by decide), fun c => absurd c (by decide), fun _ => ?_, trivial⟩ (fun c => absurd (by decide) c.2.2.2.2.1)
  show zq_G _ _ _ _ _ 83 ([(0, .ref 0), (1, .int 4)], [], XH tx (nI Z) (nI P, nI C, nI R, nI L, hs, ss, cs, gs, vs) dr rd (nI D, sm, nI N, nI K, ce, de, ke, se) i0 i1 kp dd tr m)
  refine zq_b [zq_al 0, zq_get 11 2, zq_get 9 3] [zq_alchk 0, zq_getchk 11 2, zq_getchk 9 3] 90 rfl (by decide +kernel) ?_
  show zq_G _ _ _ _ _ 90 ([(0, .ref 0), (1, .int 4)], [.int (nI L)], XH tx (nI Z) (nI P, nI C, nI R, nI L, hs, ss, cs, gs, vs) dr rd (nI D, sm, nI N, nI K, ce, de, ke, se) i0 i1 kp dd tr m)
  exact zq_iret (by decide +kernel) rfl rfl rfl
set_option maxHeartbeats 4000000 in
set_option maxRecDepth 100000 in
theorem x_walk_bad {x : Int32} {y : Int32} (hP : P ≤ 6) (hb : ¬ (0 ≤ x.toInt ∧ x.toInt < (P : Int) ∧ 0 ≤ y.toInt ∧ y.toInt ≤ 25)) : zq_P l mX11_walk 1 [.ref 0, .int x, .int y] (XH tx (nI Z) (nI P, nI C, nI R, nI L, hs, ss, cs, gs, vs) dr rd (nI D, sm, nI N, nI K, ce, de, ke, se) i0 i1 kp dd tr m) (some (.int (-1))) (XH tx (nI Z) (nI P, nI C, nI R, nI L, hs, ss, cs, gs, vs) dr rd (nI D, sm, nI N, nI K, ce, de, ke, se) i0 i1 kp dd tr m) := by
  refine zq_start (by decide +kernel) rfl (Nat.le_of_ble_eq_true rfl) ?_
  show zq_G _ _ _ _ _ 0 ([(0, .ref 0), (1, .int x), (2, .int y)], [], XH tx (nI Z) (nI P, nI C, nI R, nI L, hs, ss, cs, gs, vs) dr rd (nI D, sm, nI N, nI K, ce, de, ke, se) i0 i1 kp dd tr m)
  refine zq_b [zq_al 0, zq_get 11 2, zq_il 1] [zq_alchk 0, zq_getchk 11 2, zq_ilchk 1] 5 rfl (by decide +kernel) ?_
  show zq_G _ _ _ _ _ 5 ([(0, .ref 0), (1, .int x), (2, .int y)], [.int x, .ref 2], XH tx (nI Z) (nI P, nI C, nI R, nI L, hs, ss, cs, gs, vs) dr rd (nI D, sm, nI N, nI K, ce, de, ke, se) i0 i1 kp dd tr m)
  refine zq_callV (av := [.int x]) (rest := []) (by decide +kernel) k11_105 (x_hasPerson (p := x) hP) rfl rfl rfl rfl ?_
  show zq_G _ _ _ _ _ 8 ([(0, .ref 0), (1, .int x), (2, .int y)], [.int (zb (0 ≤ x.toInt ∧ x.toInt < (P : Int)))], XH tx (nI Z) (nI P, nI C, nI R, nI L, hs, ss, cs, gs, vs) dr rd (nI D, sm, nI N, nI K, ce, de, ke, se) i0 i1 kp dd tr m)
  refine zq_ifz .eq 20 (¬ (0 ≤ x.toInt ∧ x.toInt < (P : Int))) (by decide +kernel) (zb_eq _) (fun c8 => ?_) (fun c8 => ?_)
  · show zq_G _ _ _ _ _ 20 ([(0, .ref 0), (1, .int x), (2, .int y)], [], XH tx (nI Z) (nI P, nI C, nI R, nI L, hs, ss, cs, gs, vs) dr rd (nI D, sm, nI N, nI K, ce, de, ke, se) i0 i1 kp dd tr m)
    refine zq_b [zq_k (-1)] [zq_kchk (-1)] 21 rfl (by decide +kernel) ?_
    show zq_G _ _ _ _ _ 21 ([(0, .ref 0), (1, .int x), (2, .int y)], [.int (-1)], XH tx (nI Z) (nI P, nI C, nI R, nI L, hs, ss, cs, gs, vs) dr rd (nI D, sm, nI N, nI K, ce, de, ke, se) i0 i1 kp dd tr m)
    exact zq_iret (by decide +kernel) rfl rfl rfl
  · show zq_G _ _ _ _ _ 11 ([(0, .ref 0), (1, .int x), (2, .int y)], [], XH tx (nI Z) (nI P, nI C, nI R, nI L, hs, ss, cs, gs, vs) dr rd (nI D, sm, nI N, nI K, ce, de, ke, se) i0 i1 kp dd tr m)
    refine zq_b [zq_il 2, zq_k 25] [zq_ilchk 2, zq_kchk 25] 14 rfl (by decide +kernel) ?_
    show zq_G _ _ _ _ _ 14 ([(0, .ref 0), (1, .int x), (2, .int y)], [.int 25, .int y], XH tx (nI Z) (nI P, nI C, nI R, nI L, hs, ss, cs, gs, vs) dr rd (nI D, sm, nI N, nI K, ce, de, ke, se) i0 i1 kp dd tr m)
    refine zq_callS (av := [.int y, .int 25]) (rest := []) (by decide +kernel) k11_87 (x_isBeyond (x := y) (q := 25) (by omega)) rfl rfl ?_
    show zq_G _ _ _ _ _ 17 ([(0, .ref 0), (1, .int x), (2, .int y)], [.int (zb (y.toInt < 0 ∨ (25 : Int) < y.toInt))], XH tx (nI Z) (nI P, nI C, nI R, nI L, hs, ss, cs, gs, vs) dr rd (nI D, sm, nI N, nI K, ce, de, ke, se) i0 i1 kp dd tr m)
    refine zq_ifz .eq 22 (¬ (y.toInt < 0 ∨ (25 : Int) < y.toInt)) (by decide +kernel) (zb_eq _) (fun c17 => ?_) (fun c17 => ?_)
    · show zq_G _ _ _ _ _ 22 ([(0, .ref 0), (1, .int x), (2, .int y)], [], XH tx (nI Z) (nI P, nI C, nI R, nI L, hs, ss, cs, gs, vs) dr rd (nI D, sm, nI N, nI K, ce, de, ke, se) i0 i1 kp dd tr m)
      exact absurd hb (by omega)
    · show zq_G _ _ _ _ _ 20 ([(0, .ref 0), (1, .int x), (2, .int y)], [], XH tx (nI Z) (nI P, nI C, nI R, nI L, hs, ss, cs, gs, vs) dr rd (nI D, sm, nI N, nI K, ce, de, ke, se) i0 i1 kp dd tr m)
      refine zq_b [zq_k (-1)] [zq_kchk (-1)] 21 rfl (by decide +kernel) ?_
      show zq_G _ _ _ _ _ 21 ([(0, .ref 0), (1, .int x), (2, .int y)], [.int (-1)], XH tx (nI Z) (nI P, nI C, nI R, nI L, hs, ss, cs, gs, vs) dr rd (nI D, sm, nI N, nI K, ce, de, ke, se) i0 i1 kp dd tr m)
      exact zq_iret (by decide +kernel) rfl rfl rfl
set_option maxHeartbeats 4000000 in
set_option maxRecDepth 100000 in
theorem x_walk_st {a : Nat} {c : Nat} (ha : a < P) (hcc : c ≤ 25) (hP : P ≤ 6) (hce : ∀ j, j < P → ce j = nI (cn j) ∧ cn j ≤ 26) (hb : cn a = c ∨ cn a = 26) : zq_P l mX11_walk 1 [.ref 0, .int (nI a), .int (nI c)] (XH tx (nI Z) (nI P, nI C, nI R, nI L, hs, ss, cs, gs, vs) dr rd (nI D, sm, nI N, nI K, ce, de, ke, se) i0 i1 kp dd tr m) (some (.int (-2))) (XH tx (nI Z) (nI P, nI C, nI R, nI L, hs, ss, cs, gs, vs) dr rd (nI D, sm, nI N, nI K, ce, de, ke, se) i0 i1 kp dd tr m) := by
  refine zq_start (by decide +kernel) rfl (Nat.le_of_ble_eq_true rfl) ?_
  show zq_G _ _ _ _ _ 0 ([(0, .ref 0), (1, .int (nI a)), (2, .int (nI c))], [], XH tx (nI Z) (nI P, nI C, nI R, nI L, hs, ss, cs, gs, vs) dr rd (nI D, sm, nI N, nI K, ce, de, ke, se) i0 i1 kp dd tr m)
  have hca := (hce a ha).2
  refine zq_b [zq_al 0, zq_get 11 2, zq_il 1] [zq_alchk 0, zq_getchk 11 2, zq_ilchk 1] 5 rfl (by decide +kernel) ?_
  show zq_G _ _ _ _ _ 5 ([(0, .ref 0), (1, .int (nI a)), (2, .int (nI c))], [.int (nI a), .ref 2], XH tx (nI Z) (nI P, nI C, nI R, nI L, hs, ss, cs, gs, vs) dr rd (nI D, sm, nI N, nI K, ce, de, ke, se) i0 i1 kp dd tr m)
  refine zq_callV (av := [.int (nI a)]) (rest := []) (by decide +kernel) k11_105 (x_hasPersonN (p := a) hP (by omega)) rfl rfl rfl rfl ?_
  show zq_G _ _ _ _ _ 8 ([(0, .ref 0), (1, .int (nI a)), (2, .int (nI c))], [.int (zb (a < P))], XH tx (nI Z) (nI P, nI C, nI R, nI L, hs, ss, cs, gs, vs) dr rd (nI D, sm, nI N, nI K, ce, de, ke, se) i0 i1 kp dd tr m)
  refine zq_ifz .eq 20 (¬ (a < P)) (by decide +kernel) (zb_eq _) (fun c8 => absurd c8 (by omega)) (fun c8 => ?_)
  show zq_G _ _ _ _ _ 11 ([(0, .ref 0), (1, .int (nI a)), (2, .int (nI c))], [], XH tx (nI Z) (nI P, nI C, nI R, nI L, hs, ss, cs, gs, vs) dr rd (nI D, sm, nI N, nI K, ce, de, ke, se) i0 i1 kp dd tr m)
  refine zq_b [zq_il 2, zq_k 25] [zq_ilchk 2, zq_kchk 25] 14 rfl (by decide +kernel) ?_
  show zq_G _ _ _ _ _ 14 ([(0, .ref 0), (1, .int (nI a)), (2, .int (nI c))], [.int 25, .int (nI c)], XH tx (nI Z) (nI P, nI C, nI R, nI L, hs, ss, cs, gs, vs) dr rd (nI D, sm, nI N, nI K, ce, de, ke, se) i0 i1 kp dd tr m)
  refine zq_callS (av := [.int (nI c), .int 25]) (rest := []) (by decide +kernel) k11_87 (x_isBeyondN (p := c) (q := 25) (by omega) (by omega)) rfl rfl ?_
  show zq_G _ _ _ _ _ 17 ([(0, .ref 0), (1, .int (nI a)), (2, .int (nI c))], [.int (zb (25 < c))], XH tx (nI Z) (nI P, nI C, nI R, nI L, hs, ss, cs, gs, vs) dr rd (nI D, sm, nI N, nI K, ce, de, ke, se) i0 i1 kp dd tr m)
  refine zq_ifz .eq 22 (¬ (25 < c)) (by decide +kernel) (zb_eq _) (fun c17 => ?_) (fun c17 => absurd (by omega) c17)
  show zq_G _ _ _ _ _ 22 ([(0, .ref 0), (1, .int (nI a)), (2, .int (nI c))], [], XH tx (nI Z) (nI P, nI C, nI R, nI L, hs, ss, cs, gs, vs) dr rd (nI D, sm, nI N, nI K, ce, de, ke, se) i0 i1 kp dd tr m)
  refine zq_b [zq_al 0, zq_get 11 5, zq_get 5 5, zq_il 1, zq_iald a (nI (cn a)), zq_il 2] [zq_alchk 0, zq_getchk 11 5, zq_getchk 5 5, zq_ilchk 1, zq_is .iaload 1, zq_ilchk 2] 32 rfl (by decide +kernel) ?_
  refine ⟨rfl, (by omega), (by omega), (hce a ha).1, ?_⟩
  show zq_G _ _ _ _ _ 32 ([(0, .ref 0), (1, .int (nI a)), (2, .int (nI c))], [.int (nI c), .int (nI (cn a))], XH tx (nI Z) (nI P, nI C, nI R, nI L, hs, ss, cs, gs, vs) dr rd (nI D, sm, nI N, nI K, ce, de, ke, se) i0 i1 kp dd tr m)
  refine zq_if .eq 49 ((cn a) = c) (by decide +kernel) (zq_ceq (a := cn a) (b := c) (by omega) (by omega)) (fun c32 => ?_) (fun c32 => ?_)
  · show zq_G _ _ _ _ _ 49 ([(0, .ref 0), (1, .int (nI a)), (2, .int (nI c))], [], XH tx (nI Z) (nI P, nI C, nI R, nI L, hs, ss, cs, gs, vs) dr rd (nI D, sm, nI N, nI K, ce, de, ke, se) i0 i1 kp dd tr m)
    refine zq_b [zq_k (-2)] [zq_kchk (-2)] 51 rfl (by decide +kernel) ?_
    show zq_G _ _ _ _ _ 51 ([(0, .ref 0), (1, .int (nI a)), (2, .int (nI c))], [.int (-2)], XH tx (nI Z) (nI P, nI C, nI R, nI L, hs, ss, cs, gs, vs) dr rd (nI D, sm, nI N, nI K, ce, de, ke, se) i0 i1 kp dd tr m)
    exact zq_iret (by decide +kernel) rfl rfl rfl
  · show zq_G _ _ _ _ _ 35 ([(0, .ref 0), (1, .int (nI a)), (2, .int (nI c))], [], XH tx (nI Z) (nI P, nI C, nI R, nI L, hs, ss, cs, gs, vs) dr rd (nI D, sm, nI N, nI K, ce, de, ke, se) i0 i1 kp dd tr m)
    refine zq_b [zq_al 0, zq_get 11 5, zq_get 5 5, zq_il 1, zq_iald a (nI (cn a)), zq_k 26] [zq_alchk 0, zq_getchk 11 5, zq_getchk 5 5, zq_ilchk 1, zq_is .iaload 1, zq_kchk 26] 46 rfl (by decide +kernel) ?_
    refine ⟨rfl, (by omega), (by omega), (hce a ha).1, ?_⟩
    show zq_G _ _ _ _ _ 46 ([(0, .ref 0), (1, .int (nI a)), (2, .int (nI c))], [.int 26, .int (nI (cn a))], XH tx (nI Z) (nI P, nI C, nI R, nI L, hs, ss, cs, gs, vs) dr rd (nI D, sm, nI N, nI K, ce, de, ke, se) i0 i1 kp dd tr m)
    refine zq_if .ne 52 (¬ (cn a) = 26) (by decide +kernel) (zq_cne (a := cn a) (b := 26) (by omega) (by omega)) (fun c46 => ?_) (fun c46 => ?_)
    · show zq_G _ _ _ _ _ 52 ([(0, .ref 0), (1, .int (nI a)), (2, .int (nI c))], [], XH tx (nI Z) (nI P, nI C, nI R, nI L, hs, ss, cs, gs, vs) dr rd (nI D, sm, nI N, nI K, ce, de, ke, se) i0 i1 kp dd tr m)
      exact absurd hb (by omega)
    · show zq_G _ _ _ _ _ 49 ([(0, .ref 0), (1, .int (nI a)), (2, .int (nI c))], [], XH tx (nI Z) (nI P, nI C, nI R, nI L, hs, ss, cs, gs, vs) dr rd (nI D, sm, nI N, nI K, ce, de, ke, se) i0 i1 kp dd tr m)
      refine zq_b [zq_k (-2)] [zq_kchk (-2)] 51 rfl (by decide +kernel) ?_
      show zq_G _ _ _ _ _ 51 ([(0, .ref 0), (1, .int (nI a)), (2, .int (nI c))], [.int (-2)], XH tx (nI Z) (nI P, nI C, nI R, nI L, hs, ss, cs, gs, vs) dr rd (nI D, sm, nI N, nI K, ce, de, ke, se) i0 i1 kp dd tr m)
      exact zq_iret (by decide +kernel) rfl rfl rfl
set_option maxHeartbeats 4000000 in
set_option maxRecDepth 100000 in
theorem x_walk {a : Nat} {c : Nat} (ha : a < P) (hcc : c ≤ 25) (hP : P ≤ 6) (hK : K ≤ 10) (hce : ∀ j, j < P → ce j = nI (cn j) ∧ cn j ≤ 26) (hb : ¬ cn a = c ∧ ¬ cn a = 26) : zq_P l mX11_walk 3 [.ref 0, .int (nI a), .int (nI c)] (XH tx (nI Z) (nI P, nI C, nI R, nI L, hs, ss, cs, gs, vs) dr rd (nI D, sm, nI N, nI K, ce, de, ke, se) i0 i1 kp dd tr m) (some (.int (ce a))) (XH tx (nI Z) (nI P, nI C, nI R, nI L, hs, ss, cs, gs, vs) dr rd (nI D, sm, nI N, nI (zk9 K + 1), upd ce a (nI c), de, ke, zse K se 0 (nI a) (ce a)) i0 i1 kp dd tr m) := by
  refine zq_start (by decide +kernel) rfl (Nat.le_of_ble_eq_true rfl) ?_
  show zq_G _ _ _ _ _ 0 ([(0, .ref 0), (1, .int (nI a)), (2, .int (nI c))], [], XH tx (nI Z) (nI P, nI C, nI R, nI L, hs, ss, cs, gs, vs) dr rd (nI D, sm, nI N, nI K, ce, de, ke, se) i0 i1 kp dd tr m)
  have hca := (hce a ha).2
  refine zq_b [zq_al 0, zq_get 11 2, zq_il 1] [zq_alchk 0, zq_getchk 11 2, zq_ilchk 1] 5 rfl (by decide +kernel) ?_
  show zq_G _ _ _ _ _ 5 ([(0, .ref 0), (1, .int (nI a)), (2, .int (nI c))], [.int (nI a), .ref 2], XH tx (nI Z) (nI P, nI C, nI R, nI L, hs, ss, cs, gs, vs) dr rd (nI D, sm, nI N, nI K, ce, de, ke, se) i0 i1 kp dd tr m)
  refine zq_callV (av := [.int (nI a)]) (rest := []) (by decide +kernel) k11_105 (x_hasPersonN (p := a) hP (by omega)) rfl rfl rfl rfl ?_
  show zq_G _ _ _ _ _ 8 ([(0, .ref 0), (1, .int (nI a)), (2, .int (nI c))], [.int (zb (a < P))], XH tx (nI Z) (nI P, nI C, nI R, nI L, hs, ss, cs, gs, vs) dr rd (nI D, sm, nI N, nI K, ce, de, ke, se) i0 i1 kp dd tr m)
  refine zq_ifz .eq 20 (¬ (a < P)) (by decide +kernel) (zb_eq _) (fun c8 => absurd c8 (by omega)) (fun c8 => ?_)
  show zq_G _ _ _ _ _ 11 ([(0, .ref 0), (1, .int (nI a)), (2, .int (nI c))], [], XH tx (nI Z) (nI P, nI C, nI R, nI L, hs, ss, cs, gs, vs) dr rd (nI D, sm, nI N, nI K, ce, de, ke, se) i0 i1 kp dd tr m)
  refine zq_b [zq_il 2, zq_k 25] [zq_ilchk 2, zq_kchk 25] 14 rfl (by decide +kernel) ?_
  show zq_G _ _ _ _ _ 14 ([(0, .ref 0), (1, .int (nI a)), (2, .int (nI c))], [.int 25, .int (nI c)], XH tx (nI Z) (nI P, nI C, nI R, nI L, hs, ss, cs, gs, vs) dr rd (nI D, sm, nI N, nI K, ce, de, ke, se) i0 i1 kp dd tr m)
  refine zq_callS (av := [.int (nI c), .int 25]) (rest := []) (by decide +kernel) k11_87 (x_isBeyondN (p := c) (q := 25) (by omega) (by omega)) rfl rfl ?_
  show zq_G _ _ _ _ _ 17 ([(0, .ref 0), (1, .int (nI a)), (2, .int (nI c))], [.int (zb (25 < c))], XH tx (nI Z) (nI P, nI C, nI R, nI L, hs, ss, cs, gs, vs) dr rd (nI D, sm, nI N, nI K, ce, de, ke, se) i0 i1 kp dd tr m)
  refine zq_ifz .eq 22 (¬ (25 < c)) (by decide +kernel) (zb_eq _) (fun c17 => ?_) (fun c17 => absurd (by omega) c17)
  show zq_G _ _ _ _ _ 22 ([(0, .ref 0), (1, .int (nI a)), (2, .int (nI c))], [], XH tx (nI Z) (nI P, nI C, nI R, nI L, hs, ss, cs, gs, vs) dr rd (nI D, sm, nI N, nI K, ce, de, ke, se) i0 i1 kp dd tr m)
  refine zq_b [zq_al 0, zq_get 11 5, zq_get 5 5, zq_il 1, zq_iald a (nI (cn a)), zq_il 2] [zq_alchk 0, zq_getchk 11 5, zq_getchk 5 5, zq_ilchk 1, zq_is .iaload 1, zq_ilchk 2] 32 rfl (by decide +kernel) ?_
  refine ⟨rfl, (by omega), (by omega), (hce a ha).1, ?_⟩
  show zq_G _ _ _ _ _ 32 ([(0, .ref 0), (1, .int (nI a)), (2, .int (nI c))], [.int (nI c), .int (nI (cn a))], XH tx (nI Z) (nI P, nI C, nI R, nI L, hs, ss, cs, gs, vs) dr rd (nI D, sm, nI N, nI K, ce, de, ke, se) i0 i1 kp dd tr m)
  refine zq_if .eq 49 ((cn a) = c) (by decide +kernel) (zq_ceq (a := cn a) (b := c) (by omega) (by omega)) (fun c32 => absurd c32 (by omega)) (fun c32 => ?_)
  show zq_G _ _ _ _ _ 35 ([(0, .ref 0), (1, .int (nI a)), (2, .int (nI c))], [], XH tx (nI Z) (nI P, nI C, nI R, nI L, hs, ss, cs, gs, vs) dr rd (nI D, sm, nI N, nI K, ce, de, ke, se) i0 i1 kp dd tr m)
  refine zq_b [zq_al 0, zq_get 11 5, zq_get 5 5, zq_il 1, zq_iald a (nI (cn a)), zq_k 26] [zq_alchk 0, zq_getchk 11 5, zq_getchk 5 5, zq_ilchk 1, zq_is .iaload 1, zq_kchk 26] 46 rfl (by decide +kernel) ?_
  refine ⟨rfl, (by omega), (by omega), (hce a ha).1, ?_⟩
  show zq_G _ _ _ _ _ 46 ([(0, .ref 0), (1, .int (nI a)), (2, .int (nI c))], [.int 26, .int (nI (cn a))], XH tx (nI Z) (nI P, nI C, nI R, nI L, hs, ss, cs, gs, vs) dr rd (nI D, sm, nI N, nI K, ce, de, ke, se) i0 i1 kp dd tr m)
  refine zq_if .ne 52 (¬ (cn a) = 26) (by decide +kernel) (zq_cne (a := cn a) (b := 26) (by omega) (by omega)) (fun c46 => ?_) (fun c46 => absurd (by omega) c46)
  show zq_G _ _ _ _ _ 52 ([(0, .ref 0), (1, .int (nI a)), (2, .int (nI c))], [], XH tx (nI Z) (nI P, nI C, nI R, nI L, hs, ss, cs, gs, vs) dr rd (nI D, sm, nI N, nI K, ce, de, ke, se) i0 i1 kp dd tr m)
  refine zq_b [zq_al 0, zq_get 11 5, zq_il 1, zq_il 2] [zq_alchk 0, zq_getchk 11 5, zq_ilchk 1, zq_ilchk 2] 58 rfl (by decide +kernel) ?_
  show zq_G _ _ _ _ _ 58 ([(0, .ref 0), (1, .int (nI a)), (2, .int (nI c))], [.int (nI c), .int (nI a), .ref 15], XH tx (nI Z) (nI P, nI C, nI R, nI L, hs, ss, cs, gs, vs) dr rd (nI D, sm, nI N, nI K, ce, de, ke, se) i0 i1 kp dd tr m)
  refine zq_callV (av := [.int (nI a), .int (nI c)]) (rest := []) (by decide +kernel) k11_138 (c_move (p := a) (x := (nI c)) (by omega) hK) rfl rfl rfl rfl ?_
  show zq_G _ _ _ _ _ 61 ([(0, .ref 0), (1, .int (nI a)), (2, .int (nI c))], [.int (ce a)], XH tx (nI Z) (nI P, nI C, nI R, nI L, hs, ss, cs, gs, vs) dr rd (nI D, sm, nI N, nI (zk9 K + 1), upd ce a (nI c), de, ke, zse K se 0 (nI a) (ce a)) i0 i1 kp dd tr m)
  exact zq_iret (by decide +kernel) rfl rfl rfl
set_option maxHeartbeats 4000000 in
set_option maxRecDepth 100000 in
theorem x_die_bad {x : Int32} (hP : P ≤ 6) (hb : ¬ (0 ≤ x.toInt ∧ x.toInt < (P : Int))) : zq_P l mX11_die 1 [.ref 0, .int x] (XH tx (nI Z) (nI P, nI C, nI R, nI L, hs, ss, cs, gs, vs) dr rd (nI D, sm, nI N, nI K, ce, de, ke, se) i0 i1 kp dd tr m) (some (.int (-1))) (XH tx (nI Z) (nI P, nI C, nI R, nI L, hs, ss, cs, gs, vs) dr rd (nI D, sm, nI N, nI K, ce, de, ke, se) i0 i1 kp dd tr m) := by
  refine zq_start (by decide +kernel) rfl (Nat.le_of_ble_eq_true rfl) ?_
  show zq_G _ _ _ _ _ 0 ([(0, .ref 0), (1, .int x)], [], XH tx (nI Z) (nI P, nI C, nI R, nI L, hs, ss, cs, gs, vs) dr rd (nI D, sm, nI N, nI K, ce, de, ke, se) i0 i1 kp dd tr m)
  refine zq_b [zq_al 0, zq_get 11 2, zq_il 1] [zq_alchk 0, zq_getchk 11 2, zq_ilchk 1] 5 rfl (by decide +kernel) ?_
  show zq_G _ _ _ _ _ 5 ([(0, .ref 0), (1, .int x)], [.int x, .ref 2], XH tx (nI Z) (nI P, nI C, nI R, nI L, hs, ss, cs, gs, vs) dr rd (nI D, sm, nI N, nI K, ce, de, ke, se) i0 i1 kp dd tr m)
  refine zq_callV (av := [.int x]) (rest := []) (by decide +kernel) k11_105 (x_hasPerson (p := x) hP) rfl rfl rfl rfl ?_
  show zq_G _ _ _ _ _ 8 ([(0, .ref 0), (1, .int x)], [.int (zb (0 ≤ x.toInt ∧ x.toInt < (P : Int)))], XH tx (nI Z) (nI P, nI C, nI R, nI L, hs, ss, cs, gs, vs) dr rd (nI D, sm, nI N, nI K, ce, de, ke, se) i0 i1 kp dd tr m)
  refine zq_ifz .ne 13 (0 ≤ x.toInt ∧ x.toInt < (P : Int)) (by decide +kernel) (zb_ne _) (fun c8 => ?_) (fun c8 => ?_)
  · show zq_G _ _ _ _ _ 13 ([(0, .ref 0), (1, .int x)], [], XH tx (nI Z) (nI P, nI C, nI R, nI L, hs, ss, cs, gs, vs) dr rd (nI D, sm, nI N, nI K, ce, de, ke, se) i0 i1 kp dd tr m)
    exact absurd hb (by omega)
  · show zq_G _ _ _ _ _ 11 ([(0, .ref 0), (1, .int x)], [], XH tx (nI Z) (nI P, nI C, nI R, nI L, hs, ss, cs, gs, vs) dr rd (nI D, sm, nI N, nI K, ce, de, ke, se) i0 i1 kp dd tr m)
    refine zq_b [zq_k (-1)] [zq_kchk (-1)] 12 rfl (by decide +kernel) ?_
    show zq_G _ _ _ _ _ 12 ([(0, .ref 0), (1, .int x)], [.int (-1)], XH tx (nI Z) (nI P, nI C, nI R, nI L, hs, ss, cs, gs, vs) dr rd (nI D, sm, nI N, nI K, ce, de, ke, se) i0 i1 kp dd tr m)
    exact zq_iret (by decide +kernel) rfl rfl rfl
set_option maxHeartbeats 4000000 in
set_option maxRecDepth 100000 in
theorem x_die_st {a : Nat} (ha : a < P) (hP : P ≤ 6) (hce : ∀ j, j < P → ce j = nI (cn j) ∧ cn j ≤ 26) (hb : cn a = 26) : zq_P l mX11_die 1 [.ref 0, .int (nI a)] (XH tx (nI Z) (nI P, nI C, nI R, nI L, hs, ss, cs, gs, vs) dr rd (nI D, sm, nI N, nI K, ce, de, ke, se) i0 i1 kp dd tr m) (some (.int (-2))) (XH tx (nI Z) (nI P, nI C, nI R, nI L, hs, ss, cs, gs, vs) dr rd (nI D, sm, nI N, nI K, ce, de, ke, se) i0 i1 kp dd tr m) := by
  refine zq_start (by decide +kernel) rfl (Nat.le_of_ble_eq_true rfl) ?_
  show zq_G _ _ _ _ _ 0 ([(0, .ref 0), (1, .int (nI a))], [], XH tx (nI Z) (nI P, nI C, nI R, nI L, hs, ss, cs, gs, vs) dr rd (nI D, sm, nI N, nI K, ce, de, ke, se) i0 i1 kp dd tr m)
  have hca := (hce a ha).2
  refine zq_b [zq_al 0, zq_get 11 2, zq_il 1] [zq_alchk 0, zq_getchk 11 2, zq_ilchk 1] 5 rfl (by decide +kernel) ?_
  show zq_G _ _ _ _ _ 5 ([(0, .ref 0), (1, .int (nI a))], [.int (nI a), .ref 2], XH tx (nI Z) (nI P, nI C, nI R, nI L, hs, ss, cs, gs, vs) dr rd (nI D, sm, nI N, nI K, ce, de, ke, se) i0 i1 kp dd tr m)
  refine zq_callV (av := [.int (nI a)]) (rest := []) (by decide +kernel) k11_105 (x_hasPersonN (p := a) hP (by omega)) rfl rfl rfl rfl ?_
  show zq_G _ _ _ _ _ 8 ([(0, .ref 0), (1, .int (nI a))], [.int (zb (a < P))], XH tx (nI Z) (nI P, nI C, nI R, nI L, hs, ss, cs, gs, vs) dr rd (nI D, sm, nI N, nI K, ce, de, ke, se) i0 i1 kp dd tr m)
  refine zq_ifz .ne 13 (a < P) (by decide +kernel) (zb_ne _) (fun c8 => ?_) (fun c8 => absurd (by omega) c8)
  show zq_G _ _ _ _ _ 13 ([(0, .ref 0), (1, .int (nI a))], [], XH tx (nI Z) (nI P, nI C, nI R, nI L, hs, ss, cs, gs, vs) dr rd (nI D, sm, nI N, nI K, ce, de, ke, se) i0 i1 kp dd tr m)
  refine zq_b [zq_al 0, zq_get 11 5, zq_get 5 5, zq_il 1, zq_iald a (nI (cn a)), zq_k 26] [zq_alchk 0, zq_getchk 11 5, zq_getchk 5 5, zq_ilchk 1, zq_is .iaload 1, zq_kchk 26] 24 rfl (by decide +kernel) ?_
  refine ⟨rfl, (by omega), (by omega), (hce a ha).1, ?_⟩
  show zq_G _ _ _ _ _ 24 ([(0, .ref 0), (1, .int (nI a))], [.int 26, .int (nI (cn a))], XH tx (nI Z) (nI P, nI C, nI R, nI L, hs, ss, cs, gs, vs) dr rd (nI D, sm, nI N, nI K, ce, de, ke, se) i0 i1 kp dd tr m)
  refine zq_if .ne 30 (¬ (cn a) = 26) (by decide +kernel) (zq_cne (a := cn a) (b := 26) (by omega) (by omega)) (fun c24 => absurd c24 (by omega)) (fun c24 => ?_)
  show zq_G _ _ _ _ _ 27 ([(0, .ref 0), (1, .int (nI a))], [], XH tx (nI Z) (nI P, nI C, nI R, nI L, hs, ss, cs, gs, vs) dr rd (nI D, sm, nI N, nI K, ce, de, ke, se) i0 i1 kp dd tr m)
  refine zq_b [zq_k (-2)] [zq_kchk (-2)] 29 rfl (by decide +kernel) ?_
  show zq_G _ _ _ _ _ 29 ([(0, .ref 0), (1, .int (nI a))], [.int (-2)], XH tx (nI Z) (nI P, nI C, nI R, nI L, hs, ss, cs, gs, vs) dr rd (nI D, sm, nI N, nI K, ce, de, ke, se) i0 i1 kp dd tr m)
  exact zq_iret (by decide +kernel) rfl rfl rfl
set_option maxHeartbeats 4000000 in
set_option maxRecDepth 100000 in
theorem x_die {a : Nat} (ha : a < P) (hP : P ≤ 6) (hK : K ≤ 10) (hce : ∀ j, j < P → ce j = nI (cn j) ∧ cn j ≤ 26) (hb : ¬ cn a = 26) : zq_P l mX11_die 3 [.ref 0, .int (nI a)] (XH tx (nI Z) (nI P, nI C, nI R, nI L, hs, ss, cs, gs, vs) dr rd (nI D, sm, nI N, nI K, ce, de, ke, se) i0 i1 kp dd tr m) (some (.int (ce a))) (XH tx (nI Z) (nI P, nI C, nI R, nI L, hs, ss, cs, gs, vs) dr rd (nI D, sm, nI N, nI (zk9 K + 1), upd ce a 26, de, ke, zse K se 0 (nI a) (ce a)) i0 i1 kp dd tr m) := by
  refine zq_start (by decide +kernel) rfl (Nat.le_of_ble_eq_true rfl) ?_
  show zq_G _ _ _ _ _ 0 ([(0, .ref 0), (1, .int (nI a))], [], XH tx (nI Z) (nI P, nI C, nI R, nI L, hs, ss, cs, gs, vs) dr rd (nI D, sm, nI N, nI K, ce, de, ke, se) i0 i1 kp dd tr m)
  have hca := (hce a ha).2
  refine zq_b [zq_al 0, zq_get 11 2, zq_il 1] [zq_alchk 0, zq_getchk 11 2, zq_ilchk 1] 5 rfl (by decide +kernel) ?_
  show zq_G _ _ _ _ _ 5 ([(0, .ref 0), (1, .int (nI a))], [.int (nI a), .ref 2], XH tx (nI Z) (nI P, nI C, nI R, nI L, hs, ss, cs, gs, vs) dr rd (nI D, sm, nI N, nI K, ce, de, ke, se) i0 i1 kp dd tr m)
  refine zq_callV (av := [.int (nI a)]) (rest := []) (by decide +kernel) k11_105 (x_hasPersonN (p := a) hP (by omega)) rfl rfl rfl rfl ?_
  show zq_G _ _ _ _ _ 8 ([(0, .ref 0), (1, .int (nI a))], [.int (zb (a < P))], XH tx (nI Z) (nI P, nI C, nI R, nI L, hs, ss, cs, gs, vs) dr rd (nI D, sm, nI N, nI K, ce, de, ke, se) i0 i1 kp dd tr m)
  refine zq_ifz .ne 13 (a < P) (by decide +kernel) (zb_ne _) (fun c8 => ?_) (fun c8 => absurd (by omega) c8)
  show zq_G _ _ _ _ _ 13 ([(0, .ref 0), (1, .int (nI a))], [], XH tx (nI Z) (nI P, nI C, nI R, nI L, hs, ss, cs, gs, vs) dr rd (nI D, sm, nI N, nI K, ce, de, ke, se) i0 i1 kp dd tr m)
  refine zq_b [zq_al 0, zq_get 11 5, zq_get 5 5, zq_il 1, zq_iald a (nI (cn a)), zq_k 26] [zq_alchk 0, zq_getchk 11 5, zq_getchk 5 5, zq_ilchk 1, zq_is .iaload 1, zq_kchk 26] 24 rfl (by decide +kernel) ?_
  refine ⟨rfl, (by omega), (by omega), (hce a ha).1, ?_⟩
  show zq_G _ _ _ _ _ 24 ([(0, .ref 0), (1, .int (nI a))], [.int 26, .int (nI (cn a))], XH tx (nI Z) (nI P, nI C, nI R, nI L, hs, ss, cs, gs, vs) dr rd (nI D, sm, nI N, nI K, ce, de, ke, se) i0 i1 kp dd tr m)
  refine zq_if .ne 30 (¬ (cn a) = 26) (by decide +kernel) (zq_cne (a := cn a) (b := 26) (by omega) (by omega)) (fun c24 => ?_) (fun c24 => absurd (by omega) c24)
  show zq_G _ _ _ _ _ 30 ([(0, .ref 0), (1, .int (nI a))], [], XH tx (nI Z) (nI P, nI C, nI R, nI L, hs, ss, cs, gs, vs) dr rd (nI D, sm, nI N, nI K, ce, de, ke, se) i0 i1 kp dd tr m)
  refine zq_b [zq_al 0, zq_get 11 5, zq_il 1, zq_k 26] [zq_alchk 0, zq_getchk 11 5, zq_ilchk 1, zq_kchk 26] 37 rfl (by decide +kernel) ?_
  show zq_G _ _ _ _ _ 37 ([(0, .ref 0), (1, .int (nI a))], [.int 26, .int (nI a), .ref 15], XH tx (nI Z) (nI P, nI C, nI R, nI L, hs, ss, cs, gs, vs) dr rd (nI D, sm, nI N, nI K, ce, de, ke, se) i0 i1 kp dd tr m)
  refine zq_callV (av := [.int (nI a), .int 26]) (rest := []) (by decide +kernel) k11_138 (c_move (p := a) (x := 26) (by omega) hK) rfl rfl rfl rfl ?_
  show zq_G _ _ _ _ _ 40 ([(0, .ref 0), (1, .int (nI a))], [.int (ce a)], XH tx (nI Z) (nI P, nI C, nI R, nI L, hs, ss, cs, gs, vs) dr rd (nI D, sm, nI N, nI (zk9 K + 1), upd ce a 26, de, ke, zse K se 0 (nI a) (ce a)) i0 i1 kp dd tr m)
  exact zq_iret (by decide +kernel) rfl rfl rfl
set_option maxHeartbeats 4000000 in
set_option maxRecDepth 100000 in
theorem x_smoke_bad {x : Int32} {y : Int32} (hb : ¬ (0 ≤ x.toInt ∧ x.toInt < 25 ∧ 0 ≤ y.toInt ∧ y.toInt ≤ 1)) : zq_P l mX11_smoke 1 [.ref 0, .int x, .int y] (XH tx (nI Z) (nI P, nI C, nI R, nI L, hs, ss, cs, gs, vs) dr rd (nI D, sm, nI N, nI K, ce, de, ke, se) i0 i1 kp dd tr m) (some (.int (-1))) (XH tx (nI Z) (nI P, nI C, nI R, nI L, hs, ss, cs, gs, vs) dr rd (nI D, sm, nI N, nI K, ce, de, ke, se) i0 i1 kp dd tr m) := by
  refine zq_start (by decide +kernel) rfl (Nat.le_of_ble_eq_true rfl) ?_
  show zq_G _ _ _ _ _ 0 ([(0, .ref 0), (1, .int x), (2, .int y)], [], XH tx (nI Z) (nI P, nI C, nI R, nI L, hs, ss, cs, gs, vs) dr rd (nI D, sm, nI N, nI K, ce, de, ke, se) i0 i1 kp dd tr m)
  refine zq_b [zq_il 1, zq_k 24] [zq_ilchk 1, zq_kchk 24] 3 rfl (by decide +kernel) ?_
  show zq_G _ _ _ _ _ 3 ([(0, .ref 0), (1, .int x), (2, .int y)], [.int 24, .int x], XH tx (nI Z) (nI P, nI C, nI R, nI L, hs, ss, cs, gs, vs) dr rd (nI D, sm, nI N, nI K, ce, de, ke, se) i0 i1 kp dd tr m)
  refine zq_callS (av := [.int x, .int 24]) (rest := []) (by decide +kernel) k11_87 (x_isBeyond (x := x) (q := 24) (by omega)) rfl rfl ?_
  show zq_G _ _ _ _ _ 6 ([(0, .ref 0), (1, .int x), (2, .int y)], [.int (zb (x.toInt < 0 ∨ (24 : Int) < x.toInt))], XH tx (nI Z) (nI P, nI C, nI R, nI L, hs, ss, cs, gs, vs) dr rd (nI D, sm, nI N, nI K, ce, de, ke, se) i0 i1 kp dd tr m)
  refine zq_ifz .ne 17 (x.toInt < 0 ∨ (24 : Int) < x.toInt) (by decide +kernel) (zb_ne _) (fun c6 => ?_) (fun c6 => ?_)
  · show zq_G _ _ _ _ _ 17 ([(0, .ref 0), (1, .int x), (2, .int y)], [], XH tx (nI Z) (nI P, nI C, nI R, nI L, hs, ss, cs, gs, vs) dr rd (nI D, sm, nI N, nI K, ce, de, ke, se) i0 i1 kp dd tr m)
    refine zq_b [zq_k (-1)] [zq_kchk (-1)] 18 rfl (by decide +kernel) ?_
    show zq_G _ _ _ _ _ 18 ([(0, .ref 0), (1, .int x), (2, .int y)], [.int (-1)], XH tx (nI Z) (nI P, nI C, nI R, nI L, hs, ss, cs, gs, vs) dr rd (nI D, sm, nI N, nI K, ce, de, ke, se) i0 i1 kp dd tr m)
    exact zq_iret (by decide +kernel) rfl rfl rfl
  · show zq_G _ _ _ _ _ 9 ([(0, .ref 0), (1, .int x), (2, .int y)], [], XH tx (nI Z) (nI P, nI C, nI R, nI L, hs, ss, cs, gs, vs) dr rd (nI D, sm, nI N, nI K, ce, de, ke, se) i0 i1 kp dd tr m)
    refine zq_b [zq_il 2, zq_k 1] [zq_ilchk 2, zq_kchk 1] 11 rfl (by decide +kernel) ?_
    show zq_G _ _ _ _ _ 11 ([(0, .ref 0), (1, .int x), (2, .int y)], [.int 1, .int y], XH tx (nI Z) (nI P, nI C, nI R, nI L, hs, ss, cs, gs, vs) dr rd (nI D, sm, nI N, nI K, ce, de, ke, se) i0 i1 kp dd tr m)
    refine zq_callS (av := [.int y, .int 1]) (rest := []) (by decide +kernel) k11_87 (x_isBeyond (x := y) (q := 1) (by omega)) rfl rfl ?_
    show zq_G _ _ _ _ _ 14 ([(0, .ref 0), (1, .int x), (2, .int y)], [.int (zb (y.toInt < 0 ∨ (1 : Int) < y.toInt))], XH tx (nI Z) (nI P, nI C, nI R, nI L, hs, ss, cs, gs, vs) dr rd (nI D, sm, nI N, nI K, ce, de, ke, se) i0 i1 kp dd tr m)
    refine zq_ifz .eq 19 (¬ (y.toInt < 0 ∨ (1 : Int) < y.toInt)) (by decide +kernel) (zb_eq _) (fun c14 => ?_) (fun c14 => ?_)
    · show zq_G _ _ _ _ _ 19 ([(0, .ref 0), (1, .int x), (2, .int y)], [], XH tx (nI Z) (nI P, nI C, nI R, nI L, hs, ss, cs, gs, vs) dr rd (nI D, sm, nI N, nI K, ce, de, ke, se) i0 i1 kp dd tr m)
      exact absurd hb (by omega)
    · show zq_G _ _ _ _ _ 17 ([(0, .ref 0), (1, .int x), (2, .int y)], [], XH tx (nI Z) (nI P, nI C, nI R, nI L, hs, ss, cs, gs, vs) dr rd (nI D, sm, nI N, nI K, ce, de, ke, se) i0 i1 kp dd tr m)
      refine zq_b [zq_k (-1)] [zq_kchk (-1)] 18 rfl (by decide +kernel) ?_
      show zq_G _ _ _ _ _ 18 ([(0, .ref 0), (1, .int x), (2, .int y)], [.int (-1)], XH tx (nI Z) (nI P, nI C, nI R, nI L, hs, ss, cs, gs, vs) dr rd (nI D, sm, nI N, nI K, ce, de, ke, se) i0 i1 kp dd tr m)
      exact zq_iret (by decide +kernel) rfl rfl rfl
set_option maxHeartbeats 4000000 in
set_option maxRecDepth 100000 in
theorem x_smoke_st {a : Nat} {c : Nat} (ha : a < 25) (he : c ≤ 1) (hb : zbit sm (nI a) = nI c) : zq_P l mX11_smoke 1 [.ref 0, .int (nI a), .int (nI c)] (XH tx (nI Z) (nI P, nI C, nI R, nI L, hs, ss, cs, gs, vs) dr rd (nI D, sm, nI N, nI K, ce, de, ke, se) i0 i1 kp dd tr m) (some (.int (-2))) (XH tx (nI Z) (nI P, nI C, nI R, nI L, hs, ss, cs, gs, vs) dr rd (nI D, sm, nI N, nI K, ce, de, ke, se) i0 i1 kp dd tr m) := by
  refine zq_start (by decide +kernel) rfl (Nat.le_of_ble_eq_true rfl) ?_
  show zq_G _ _ _ _ _ 0 ([(0, .ref 0), (1, .int (nI a)), (2, .int (nI c))], [], XH tx (nI Z) (nI P, nI C, nI R, nI L, hs, ss, cs, gs, vs) dr rd (nI D, sm, nI N, nI K, ce, de, ke, se) i0 i1 kp dd tr m)
  refine zq_b [zq_il 1, zq_k 24] [zq_ilchk 1, zq_kchk 24] 3 rfl (by decide +kernel) ?_
  show zq_G _ _ _ _ _ 3 ([(0, .ref 0), (1, .int (nI a)), (2, .int (nI c))], [.int 24, .int (nI a)], XH tx (nI Z) (nI P, nI C, nI R, nI L, hs, ss, cs, gs, vs) dr rd (nI D, sm, nI N, nI K, ce, de, ke, se) i0 i1 kp dd tr m)
  refine zq_callS (av := [.int (nI a), .int 24]) (rest := []) (by decide +kernel) k11_87 (x_isBeyondN (p := a) (q := 24) (by omega) (by omega)) rfl rfl ?_
  show zq_G _ _ _ _ _ 6 ([(0, .ref 0), (1, .int (nI a)), (2, .int (nI c))], [.int (zb (24 < a))], XH tx (nI Z) (nI P, nI C, nI R, nI L, hs, ss, cs, gs, vs) dr rd (nI D, sm, nI N, nI K, ce, de, ke, se) i0 i1 kp dd tr m)
  refine zq_ifz .ne 17 (24 < a) (by decide +kernel) (zb_ne _) (fun c6 => absurd c6 (by omega)) (fun c6 => ?_)
  show zq_G _ _ _ _ _ 9 ([(0, .ref 0), (1, .int (nI a)), (2, .int (nI c))], [], XH tx (nI Z) (nI P, nI C, nI R, nI L, hs, ss, cs, gs, vs) dr rd (nI D, sm, nI N, nI K, ce, de, ke, se) i0 i1 kp dd tr m)
  refine zq_b [zq_il 2, zq_k 1] [zq_ilchk 2, zq_kchk 1] 11 rfl (by decide +kernel) ?_
  show zq_G _ _ _ _ _ 11 ([(0, .ref 0), (1, .int (nI a)), (2, .int (nI c))], [.int 1, .int (nI c)], XH tx (nI Z) (nI P, nI C, nI R, nI L, hs, ss, cs, gs, vs) dr rd (nI D, sm, nI N, nI K, ce, de, ke, se) i0 i1 kp dd tr m)
  refine zq_callS (av := [.int (nI c), .int 1]) (rest := []) (by decide +kernel) k11_87 (x_isBeyondN (p := c) (q := 1) (by omega) (by omega)) rfl rfl ?_
  show zq_G _ _ _ _ _ 14 ([(0, .ref 0), (1, .int (nI a)), (2, .int (nI c))], [.int (zb (1 < c))], XH tx (nI Z) (nI P, nI C, nI R, nI L, hs, ss, cs, gs, vs) dr rd (nI D, sm, nI N, nI K, ce, de, ke, se) i0 i1 kp dd tr m)
  refine zq_ifz .eq 19 (¬ (1 < c)) (by decide +kernel) (zb_eq _) (fun c14 => ?_) (fun c14 => absurd (by omega) c14)
  show zq_G _ _ _ _ _ 19 ([(0, .ref 0), (1, .int (nI a)), (2, .int (nI c))], [], XH tx (nI Z) (nI P, nI C, nI R, nI L, hs, ss, cs, gs, vs) dr rd (nI D, sm, nI N, nI K, ce, de, ke, se) i0 i1 kp dd tr m)
  refine zq_b [zq_al 0, zq_get 11 5, zq_get 5 2, zq_il 1] [zq_alchk 0, zq_getchk 11 5, zq_getchk 5 2, zq_ilchk 1] 27 rfl (by decide +kernel) ?_
  show zq_G _ _ _ _ _ 27 ([(0, .ref 0), (1, .int (nI a)), (2, .int (nI c))], [.int (nI a), .int sm], XH tx (nI Z) (nI P, nI C, nI R, nI L, hs, ss, cs, gs, vs) dr rd (nI D, sm, nI N, nI K, ce, de, ke, se) i0 i1 kp dd tr m)
  refine zq_callS (av := [.int sm, .int (nI a)]) (rest := []) (by decide +kernel) k11_119 (c_bit (x := sm) (p := (nI a))) rfl rfl ?_
  show zq_G _ _ _ _ _ 30 ([(0, .ref 0), (1, .int (nI a)), (2, .int (nI c))], [.int (zbit sm (nI a))], XH tx (nI Z) (nI P, nI C, nI R, nI L, hs, ss, cs, gs, vs) dr rd (nI D, sm, nI N, nI K, ce, de, ke, se) i0 i1 kp dd tr m)
  refine zq_b [zq_il 2] [zq_ilchk 2] 31 rfl (by decide +kernel) ?_
  show zq_G _ _ _ _ _ 31 ([(0, .ref 0), (1, .int (nI a)), (2, .int (nI c))], [.int (nI c), .int (zbit sm (nI a))], XH tx (nI Z) (nI P, nI C, nI R, nI L, hs, ss, cs, gs, vs) dr rd (nI D, sm, nI N, nI K, ce, de, ke, se) i0 i1 kp dd tr m)
  refine zq_if .ne 37 (¬ (zbit sm (nI a)) = (nI c)) (by decide +kernel) (Iff.rfl) (fun c31 => absurd c31 (fun q => q hb)) (fun c31 => ?_)
  show zq_G _ _ _ _ _ 34 ([(0, .ref 0), (1, .int (nI a)), (2, .int (nI c))], [], XH tx (nI Z) (nI P, nI C, nI R, nI L, hs, ss, cs, gs, vs) dr rd (nI D, sm, nI N, nI K, ce, de, ke, se) i0 i1 kp dd tr m)
  refine zq_b [zq_k (-2)] [zq_kchk (-2)] 36 rfl (by decide +kernel) ?_
  show zq_G _ _ _ _ _ 36 ([(0, .ref 0), (1, .int (nI a)), (2, .int (nI c))], [.int (-2)], XH tx (nI Z) (nI P, nI C, nI R, nI L, hs, ss, cs, gs, vs) dr rd (nI D, sm, nI N, nI K, ce, de, ke, se) i0 i1 kp dd tr m)
  exact zq_iret (by decide +kernel) rfl rfl rfl
set_option maxHeartbeats 4000000 in
set_option maxRecDepth 100000 in
theorem x_smoke {a : Nat} {c : Nat} (ha : a < 25) (he : c ≤ 1) (hK : K ≤ 10) (hb : ¬ zbit sm (nI a) = nI c) : zq_P l mX11_smoke 3 [.ref 0, .int (nI a), .int (nI c)] (XH tx (nI Z) (nI P, nI C, nI R, nI L, hs, ss, cs, gs, vs) dr rd (nI D, sm, nI N, nI K, ce, de, ke, se) i0 i1 kp dd tr m) (some (.int (zbc (sm ^^^ ((1 : Int32) <<< (nI a &&& 31)))))) (XH tx (nI Z) (nI P, nI C, nI R, nI L, hs, ss, cs, gs, vs) dr rd (nI D, sm ^^^ ((1 : Int32) <<< (nI a &&& 31)), nI N, nI (zk9 K + 1), ce, de, ke, zse K se 1 (-1) sm) i0 i1 kp dd tr m) := by
  refine zq_start (by decide +kernel) rfl (Nat.le_of_ble_eq_true rfl) ?_
  show zq_G _ _ _ _ _ 0 ([(0, .ref 0), (1, .int (nI a)), (2, .int (nI c))], [], XH tx (nI Z) (nI P, nI C, nI R, nI L, hs, ss, cs, gs, vs) dr rd (nI D, sm, nI N, nI K, ce, de, ke, se) i0 i1 kp dd tr m)
  refine zq_b [zq_il 1, zq_k 24] [zq_ilchk 1, zq_kchk 24] 3 rfl (by decide +kernel) ?_
  show zq_G _ _ _ _ _ 3 ([(0, .ref 0), (1, .int (nI a)), (2, .int (nI c))], [.int 24, .int (nI a)], XH tx (nI Z) (nI P, nI C, nI R, nI L, hs, ss, cs, gs, vs) dr rd (nI D, sm, nI N, nI K, ce, de, ke, se) i0 i1 kp dd tr m)
  refine zq_callS (av := [.int (nI a), .int 24]) (rest := []) (by decide +kernel) k11_87 (x_isBeyondN (p := a) (q := 24) (by omega) (by omega)) rfl rfl ?_
  show zq_G _ _ _ _ _ 6 ([(0, .ref 0), (1, .int (nI a)), (2, .int (nI c))], [.int (zb (24 < a))], XH tx (nI Z) (nI P, nI C, nI R, nI L, hs, ss, cs, gs, vs) dr rd (nI D, sm, nI N, nI K, ce, de, ke, se) i0 i1 kp dd tr m)
  refine zq_ifz .ne 17 (24 < a) (by decide +kernel) (zb_ne _) (fun c6 => absurd c6 (by omega)) (fun c6 => ?_)
  show zq_G _ _ _ _ _ 9 ([(0, .ref 0), (1, .int (nI a)), (2, .int (nI c))], [], XH tx (nI Z) (nI P, nI C, nI R, nI L, hs, ss, cs, gs, vs) dr rd (nI D, sm, nI N, nI K, ce, de, ke, se) i0 i1 kp dd tr m)
  refine zq_b [zq_il 2, zq_k 1] [zq_ilchk 2, zq_kchk 1] 11 rfl (by decide +kernel) ?_
  show zq_G _ _ _ _ _ 11 ([(0, .ref 0), (1, .int (nI a)), (2, .int (nI c))], [.int 1, .int (nI c)], XH tx (nI Z) (nI P, nI C, nI R, nI L, hs, ss, cs, gs, vs) dr rd (nI D, sm, nI N, nI K, ce, de, ke, se) i0 i1 kp dd tr m)
  refine zq_callS (av := [.int (nI c), .int 1]) (rest := []) (by decide +kernel) k11_87 (x_isBeyondN (p := c) (q := 1) (by omega) (by omega)) rfl rfl ?_
  show zq_G _ _ _ _ _ 14 ([(0, .ref 0), (1, .int (nI a)), (2, .int (nI c))], [.int (zb (1 < c))], XH tx (nI Z) (nI P, nI C, nI R, nI L, hs, ss, cs, gs, vs) dr rd (nI D, sm, nI N, nI K, ce, de, ke, se) i0 i1 kp dd tr m)
  refine zq_ifz .eq 19 (¬ (1 < c)) (by decide +kernel) (zb_eq _) (fun c14 => ?_) (fun c14 => absurd (by omega) c14)
  show zq_G _ _ _ _ _ 19 ([(0, .ref 0), (1, .int (nI a)), (2, .int (nI c))], [], XH tx (nI Z) (nI P, nI C, nI R, nI L, hs, ss, cs, gs, vs) dr rd (nI D, sm, nI N, nI K, ce, de, ke, se) i0 i1 kp dd tr m)
  refine zq_b [zq_al 0, zq_get 11 5, zq_get 5 2, zq_il 1] [zq_alchk 0, zq_getchk 11 5, zq_getchk 5 2, zq_ilchk 1] 27 rfl (by decide +kernel) ?_
  show zq_G _ _ _ _ _ 27 ([(0, .ref 0), (1, .int (nI a)), (2, .int (nI c))], [.int (nI a), .int sm], XH tx (nI Z) (nI P, nI C, nI R, nI L, hs, ss, cs, gs, vs) dr rd (nI D, sm, nI N, nI K, ce, de, ke, se) i0 i1 kp dd tr m)
  refine zq_callS (av := [.int sm, .int (nI a)]) (rest := []) (by decide +kernel) k11_119 (c_bit (x := sm) (p := (nI a))) rfl rfl ?_
  show zq_G _ _ _ _ _ 30 ([(0, .ref 0), (1, .int (nI a)), (2, .int (nI c))], [.int (zbit sm (nI a))], XH tx (nI Z) (nI P, nI C, nI R, nI L, hs, ss, cs, gs, vs) dr rd (nI D, sm, nI N, nI K, ce, de, ke, se) i0 i1 kp dd tr m)
  refine zq_b [zq_il 2] [zq_ilchk 2] 31 rfl (by decide +kernel) ?_
  show zq_G _ _ _ _ _ 31 ([(0, .ref 0), (1, .int (nI a)), (2, .int (nI c))], [.int (nI c), .int (zbit sm (nI a))], XH tx (nI Z) (nI P, nI C, nI R, nI L, hs, ss, cs, gs, vs) dr rd (nI D, sm, nI N, nI K, ce, de, ke, se) i0 i1 kp dd tr m)
  refine zq_if .ne 37 (¬ (zbit sm (nI a)) = (nI c)) (by decide +kernel) (Iff.rfl) (fun c31 => ?_) (fun c31 => absurd hb c31)
  show zq_G _ _ _ _ _ 37 ([(0, .ref 0), (1, .int (nI a)), (2, .int (nI c))], [], XH tx (nI Z) (nI P, nI C, nI R, nI L, hs, ss, cs, gs, vs) dr rd (nI D, sm, nI N, nI K, ce, de, ke, se) i0 i1 kp dd tr m)
  refine zq_b [zq_al 0, zq_get 11 5, zq_il 1] [zq_alchk 0, zq_getchk 11 5, zq_ilchk 1] 42 rfl (by decide +kernel) ?_
  show zq_G _ _ _ _ _ 42 ([(0, .ref 0), (1, .int (nI a)), (2, .int (nI c))], [.int (nI a), .ref 15], XH tx (nI Z) (nI P, nI C, nI R, nI L, hs, ss, cs, gs, vs) dr rd (nI D, sm, nI N, nI K, ce, de, ke, se) i0 i1 kp dd tr m)
  refine zq_callV (av := [.int (nI a)]) (rest := []) (by decide +kernel) k11_141 (c_turnSmoke (x := (nI a)) hK) rfl rfl rfl rfl ?_
  show zq_G _ _ _ _ _ 45 ([(0, .ref 0), (1, .int (nI a)), (2, .int (nI c))], [], XH tx (nI Z) (nI P, nI C, nI R, nI L, hs, ss, cs, gs, vs) dr rd (nI D, sm ^^^ ((1 : Int32) <<< (nI a &&& 31)), nI N, nI (zk9 K + 1), ce, de, ke, zse K se 1 (-1) sm) i0 i1 kp dd tr m)
  refine zq_b [zq_al 0, zq_get 11 5, zq_get 5 2] [zq_alchk 0, zq_getchk 11 5, zq_getchk 5 2] 52 rfl (by decide +kernel) ?_
  show zq_G _ _ _ _ _ 52 ([(0, .ref 0), (1, .int (nI a)), (2, .int (nI c))], [.int (sm ^^^ ((1 : Int32) <<< (nI a &&& 31)))], XH tx (nI Z) (nI P, nI C, nI R, nI L, hs, ss, cs, gs, vs) dr rd (nI D, sm ^^^ ((1 : Int32) <<< (nI a &&& 31)), nI N, nI (zk9 K + 1), ce, de, ke, zse K se 1 (-1) sm) i0 i1 kp dd tr m)
  refine zq_callS (av := [.int (sm ^^^ ((1 : Int32) <<< (nI a &&& 31)))]) (rest := []) (by decide +kernel) k11_145 (c_bitCount (x := (sm ^^^ ((1 : Int32) <<< (nI a &&& 31))))) rfl rfl ?_
  show zq_G _ _ _ _ _ 55 ([(0, .ref 0), (1, .int (nI a)), (2, .int (nI c))], [.int (zbc (sm ^^^ ((1 : Int32) <<< (nI a &&& 31))))], XH tx (nI Z) (nI P, nI C, nI R, nI L, hs, ss, cs, gs, vs) dr rd (nI D, sm ^^^ ((1 : Int32) <<< (nI a &&& 31)), nI N, nI (zk9 K + 1), ce, de, ke, zse K se 1 (-1) sm) i0 i1 kp dd tr m)
  exact zq_iret (by decide +kernel) rfl rfl rfl
set_option maxHeartbeats 4000000 in
set_option maxRecDepth 100000 in
theorem x_deed_bad {x : Int32} {y : Int32} (hP : P ≤ 6) (hb : ¬ (0 ≤ x.toInt ∧ x.toInt < (P : Int) ∧ 0 ≤ y.toInt ∧ y.toInt ≤ 7)) : zq_P l mX11_deed 1 [.ref 0, .int x, .int y] (XH tx (nI Z) (nI P, nI C, nI R, nI L, hs, ss, cs, gs, vs) dr rd (nI D, sm, nI N, nI K, ce, de, ke, se) i0 i1 kp dd tr m) (some (.int (-1))) (XH tx (nI Z) (nI P, nI C, nI R, nI L, hs, ss, cs, gs, vs) dr rd (nI D, sm, nI N, nI K, ce, de, ke, se) i0 i1 kp dd tr m) := by
  refine zq_start (by decide +kernel) rfl (Nat.le_of_ble_eq_true rfl) ?_
  show zq_G _ _ _ _ _ 0 ([(0, .ref 0), (1, .int x), (2, .int y)], [], XH tx (nI Z) (nI P, nI C, nI R, nI L, hs, ss, cs, gs, vs) dr rd (nI D, sm, nI N, nI K, ce, de, ke, se) i0 i1 kp dd tr m)
  refine zq_b [zq_al 0, zq_get 11 2, zq_il 1] [zq_alchk 0, zq_getchk 11 2, zq_ilchk 1] 5 rfl (by decide +kernel) ?_
  show zq_G _ _ _ _ _ 5 ([(0, .ref 0), (1, .int x), (2, .int y)], [.int x, .ref 2], XH tx (nI Z) (nI P, nI C, nI R, nI L, hs, ss, cs, gs, vs) dr rd (nI D, sm, nI N, nI K, ce, de, ke, se) i0 i1 kp dd tr m)
  refine zq_callV (av := [.int x]) (rest := []) (by decide +kernel) k11_105 (x_hasPerson (p := x) hP) rfl rfl rfl rfl ?_
  show zq_G _ _ _ _ _ 8 ([(0, .ref 0), (1, .int x), (2, .int y)], [.int (zb (0 ≤ x.toInt ∧ x.toInt < (P : Int)))], XH tx (nI Z) (nI P, nI C, nI R, nI L, hs, ss, cs, gs, vs) dr rd (nI D, sm, nI N, nI K, ce, de, ke, se) i0 i1 kp dd tr m)
  refine zq_ifz .eq 20 (¬ (0 ≤ x.toInt ∧ x.toInt < (P : Int))) (by decide +kernel) (zb_eq _) (fun c8 => ?_) (fun c8 => ?_)
  · show zq_G _ _ _ _ _ 20 ([(0, .ref 0), (1, .int x), (2, .int y)], [], XH tx (nI Z) (nI P, nI C, nI R, nI L, hs, ss, cs, gs, vs) dr rd (nI D, sm, nI N, nI K, ce, de, ke, se) i0 i1 kp dd tr m)
    refine zq_b [zq_k (-1)] [zq_kchk (-1)] 21 rfl (by decide +kernel) ?_
    show zq_G _ _ _ _ _ 21 ([(0, .ref 0), (1, .int x), (2, .int y)], [.int (-1)], XH tx (nI Z) (nI P, nI C, nI R, nI L, hs, ss, cs, gs, vs) dr rd (nI D, sm, nI N, nI K, ce, de, ke, se) i0 i1 kp dd tr m)
    exact zq_iret (by decide +kernel) rfl rfl rfl
  · show zq_G _ _ _ _ _ 11 ([(0, .ref 0), (1, .int x), (2, .int y)], [], XH tx (nI Z) (nI P, nI C, nI R, nI L, hs, ss, cs, gs, vs) dr rd (nI D, sm, nI N, nI K, ce, de, ke, se) i0 i1 kp dd tr m)
    refine zq_b [zq_il 2, zq_k 7] [zq_ilchk 2, zq_kchk 7] 14 rfl (by decide +kernel) ?_
    show zq_G _ _ _ _ _ 14 ([(0, .ref 0), (1, .int x), (2, .int y)], [.int 7, .int y], XH tx (nI Z) (nI P, nI C, nI R, nI L, hs, ss, cs, gs, vs) dr rd (nI D, sm, nI N, nI K, ce, de, ke, se) i0 i1 kp dd tr m)
    refine zq_callS (av := [.int y, .int 7]) (rest := []) (by decide +kernel) k11_87 (x_isBeyond (x := y) (q := 7) (by omega)) rfl rfl ?_
    show zq_G _ _ _ _ _ 17 ([(0, .ref 0), (1, .int x), (2, .int y)], [.int (zb (y.toInt < 0 ∨ (7 : Int) < y.toInt))], XH tx (nI Z) (nI P, nI C, nI R, nI L, hs, ss, cs, gs, vs) dr rd (nI D, sm, nI N, nI K, ce, de, ke, se) i0 i1 kp dd tr m)
    refine zq_ifz .eq 22 (¬ (y.toInt < 0 ∨ (7 : Int) < y.toInt)) (by decide +kernel) (zb_eq _) (fun c17 => ?_) (fun c17 => ?_)
    · show zq_G _ _ _ _ _ 22 ([(0, .ref 0), (1, .int x), (2, .int y)], [], XH tx (nI Z) (nI P, nI C, nI R, nI L, hs, ss, cs, gs, vs) dr rd (nI D, sm, nI N, nI K, ce, de, ke, se) i0 i1 kp dd tr m)
      exact absurd hb (by omega)
    · show zq_G _ _ _ _ _ 20 ([(0, .ref 0), (1, .int x), (2, .int y)], [], XH tx (nI Z) (nI P, nI C, nI R, nI L, hs, ss, cs, gs, vs) dr rd (nI D, sm, nI N, nI K, ce, de, ke, se) i0 i1 kp dd tr m)
      refine zq_b [zq_k (-1)] [zq_kchk (-1)] 21 rfl (by decide +kernel) ?_
      show zq_G _ _ _ _ _ 21 ([(0, .ref 0), (1, .int x), (2, .int y)], [.int (-1)], XH tx (nI Z) (nI P, nI C, nI R, nI L, hs, ss, cs, gs, vs) dr rd (nI D, sm, nI N, nI K, ce, de, ke, se) i0 i1 kp dd tr m)
      exact zq_iret (by decide +kernel) rfl rfl rfl
set_option maxHeartbeats 4000000 in
set_option maxRecDepth 100000 in
theorem x_deed_st {a : Nat} {c : Nat} (ha : a < P) (hcc : c ≤ 7) (hP : P ≤ 6) (hce : ∀ j, j < P → ce j = nI (cn j) ∧ cn j ≤ 26) (hb : 25 ≤ cn a) : zq_P l mX11_deed 1 [.ref 0, .int (nI a), .int (nI c)] (XH tx (nI Z) (nI P, nI C, nI R, nI L, hs, ss, cs, gs, vs) dr rd (nI D, sm, nI N, nI K, ce, de, ke, se) i0 i1 kp dd tr m) (some (.int (-2))) (XH tx (nI Z) (nI P, nI C, nI R, nI L, hs, ss, cs, gs, vs) dr rd (nI D, sm, nI N, nI K, ce, de, ke, se) i0 i1 kp dd tr m) := by
  refine zq_start (by decide +kernel) rfl (Nat.le_of_ble_eq_true rfl) ?_
  show zq_G _ _ _ _ _ 0 ([(0, .ref 0), (1, .int (nI a)), (2, .int (nI c))], [], XH tx (nI Z) (nI P, nI C, nI R, nI L, hs, ss, cs, gs, vs) dr rd (nI D, sm, nI N, nI K, ce, de, ke, se) i0 i1 kp dd tr m)
  have hca := (hce a ha).2
  refine zq_b [zq_al 0, zq_get 11 2, zq_il 1] [zq_alchk 0, zq_getchk 11 2, zq_ilchk 1] 5 rfl (by decide +kernel) ?_
  show zq_G _ _ _ _ _ 5 ([(0, .ref 0), (1, .int (nI a)), (2, .int (nI c))], [.int (nI a), .ref 2], XH tx (nI Z) (nI P, nI C, nI R, nI L, hs, ss, cs, gs, vs) dr rd (nI D, sm, nI N, nI K, ce, de, ke, se) i0 i1 kp dd tr m)
  refine zq_callV (av := [.int (nI a)]) (rest := []) (by decide +kernel) k11_105 (x_hasPersonN (p := a) hP (by omega)) rfl rfl rfl rfl ?_
  show zq_G _ _ _ _ _ 8 ([(0, .ref 0), (1, .int (nI a)), (2, .int (nI c))], [.int (zb (a < P))], XH tx (nI Z) (nI P, nI C, nI R, nI L, hs, ss, cs, gs, vs) dr rd (nI D, sm, nI N, nI K, ce, de, ke, se) i0 i1 kp dd tr m)
  refine zq_ifz .eq 20 (¬ (a < P)) (by decide +kernel) (zb_eq _) (fun c8 => absurd c8 (by omega)) (fun c8 => ?_)
  show zq_G _ _ _ _ _ 11 ([(0, .ref 0), (1, .int (nI a)), (2, .int (nI c))], [], XH tx (nI Z) (nI P, nI C, nI R, nI L, hs, ss, cs, gs, vs) dr rd (nI D, sm, nI N, nI K, ce, de, ke, se) i0 i1 kp dd tr m)
  refine zq_b [zq_il 2, zq_k 7] [zq_ilchk 2, zq_kchk 7] 14 rfl (by decide +kernel) ?_
  show zq_G _ _ _ _ _ 14 ([(0, .ref 0), (1, .int (nI a)), (2, .int (nI c))], [.int 7, .int (nI c)], XH tx (nI Z) (nI P, nI C, nI R, nI L, hs, ss, cs, gs, vs) dr rd (nI D, sm, nI N, nI K, ce, de, ke, se) i0 i1 kp dd tr m)
  refine zq_callS (av := [.int (nI c), .int 7]) (rest := []) (by decide +kernel) k11_87 (x_isBeyondN (p := c) (q := 7) (by omega) (by omega)) rfl rfl ?_
  show zq_G _ _ _ _ _ 17 ([(0, .ref 0), (1, .int (nI a)), (2, .int (nI c))], [.int (zb (7 < c))], XH tx (nI Z) (nI P, nI C, nI R, nI L, hs, ss, cs, gs, vs) dr rd (nI D, sm, nI N, nI K, ce, de, ke, se) i0 i1 kp dd tr m)
  refine zq_ifz .eq 22 (¬ (7 < c)) (by decide +kernel) (zb_eq _) (fun c17 => ?_) (fun c17 => absurd (by omega) c17)
  show zq_G _ _ _ _ _ 22 ([(0, .ref 0), (1, .int (nI a)), (2, .int (nI c))], [], XH tx (nI Z) (nI P, nI C, nI R, nI L, hs, ss, cs, gs, vs) dr rd (nI D, sm, nI N, nI K, ce, de, ke, se) i0 i1 kp dd tr m)
  refine zq_b [zq_al 0, zq_get 11 5, zq_get 5 5, zq_il 1, zq_iald a (nI (cn a))] [zq_alchk 0, zq_getchk 11 5, zq_getchk 5 5, zq_ilchk 1, zq_is .iaload 1] 31 rfl (by decide +kernel) ?_
  refine ⟨rfl, (by omega), (by omega), (hce a ha).1, ?_⟩
  show zq_G _ _ _ _ _ 31 ([(0, .ref 0), (1, .int (nI a)), (2, .int (nI c))], [.int (nI (cn a))], XH tx (nI Z) (nI P, nI C, nI R, nI L, hs, ss, cs, gs, vs) dr rd (nI D, sm, nI N, nI K, ce, de, ke, se) i0 i1 kp dd tr m)
  refine zq_callS (av := [.int (nI (cn a))]) (rest := []) (by decide +kernel) k11_150 (c_isInSquare (a := (cn a)) (by omega)) rfl rfl ?_
  show zq_G _ _ _ _ _ 34 ([(0, .ref 0), (1, .int (nI a)), (2, .int (nI c))], [.int (zb ((cn a) < 25))], XH tx (nI Z) (nI P, nI C, nI R, nI L, hs, ss, cs, gs, vs) dr rd (nI D, sm, nI N, nI K, ce, de, ke, se) i0 i1 kp dd tr m)
  refine zq_ifz .ne 40 ((cn a) < 25) (by decide +kernel) (zb_ne _) (fun c34 => absurd c34 (by omega)) (fun c34 => ?_)
  show zq_G _ _ _ _ _ 37 ([(0, .ref 0), (1, .int (nI a)), (2, .int (nI c))], [], XH tx (nI Z) (nI P, nI C, nI R, nI L, hs, ss, cs, gs, vs) dr rd (nI D, sm, nI N, nI K, ce, de, ke, se) i0 i1 kp dd tr m)
  refine zq_b [zq_k (-2)] [zq_kchk (-2)] 39 rfl (by decide +kernel) ?_
  show zq_G _ _ _ _ _ 39 ([(0, .ref 0), (1, .int (nI a)), (2, .int (nI c))], [.int (-2)], XH tx (nI Z) (nI P, nI C, nI R, nI L, hs, ss, cs, gs, vs) dr rd (nI D, sm, nI N, nI K, ce, de, ke, se) i0 i1 kp dd tr m)
  exact zq_iret (by decide +kernel) rfl rfl rfl
set_option maxHeartbeats 4000000 in
set_option maxRecDepth 100000 in
theorem x_deed_full {a : Nat} {c : Nat} (ha : a < P) (hcc : c ≤ 7) (hP : P ≤ 6) (hN : N ≤ 12) (hce : ∀ j, j < P → ce j = nI (cn j) ∧ cn j ≤ 26) (hb : cn a < 25) (hN2 : N = 12) : zq_P l mX11_deed 1 [.ref 0, .int (nI a), .int (nI c)] (XH tx (nI Z) (nI P, nI C, nI R, nI L, hs, ss, cs, gs, vs) dr rd (nI D, sm, nI N, nI K, ce, de, ke, se) i0 i1 kp dd tr m) (some (.int (-3))) (XH tx (nI Z) (nI P, nI C, nI R, nI L, hs, ss, cs, gs, vs) dr rd (nI D, sm, nI N, nI K, ce, de, ke, se) i0 i1 kp dd tr m) := by
  refine zq_start (by decide +kernel) rfl (Nat.le_of_ble_eq_true rfl) ?_
  show zq_G _ _ _ _ _ 0 ([(0, .ref 0), (1, .int (nI a)), (2, .int (nI c))], [], XH tx (nI Z) (nI P, nI C, nI R, nI L, hs, ss, cs, gs, vs) dr rd (nI D, sm, nI N, nI K, ce, de, ke, se) i0 i1 kp dd tr m)
  have hca := (hce a ha).2
  refine zq_b [zq_al 0, zq_get 11 2, zq_il 1] [zq_alchk 0, zq_getchk 11 2, zq_ilchk 1] 5 rfl (by decide +kernel) ?_
  show zq_G _ _ _ _ _ 5 ([(0, .ref 0), (1, .int (nI a)), (2, .int (nI c))], [.int (nI a), .ref 2], XH tx (nI Z) (nI P, nI C, nI R, nI L, hs, ss, cs, gs, vs) dr rd (nI D, sm, nI N, nI K, ce, de, ke, se) i0 i1 kp dd tr m)
  refine zq_callV (av := [.int (nI a)]) (rest := []) (by decide +kernel) k11_105 (x_hasPersonN (p := a) hP (by omega)) rfl rfl rfl rfl ?_
  show zq_G _ _ _ _ _ 8 ([(0, .ref 0), (1, .int (nI a)), (2, .int (nI c))], [.int (zb (a < P))], XH tx (nI Z) (nI P, nI C, nI R, nI L, hs, ss, cs, gs, vs) dr rd (nI D, sm, nI N, nI K, ce, de, ke, se) i0 i1 kp dd tr m)
  refine zq_ifz .eq 20 (¬ (a < P)) (by decide +kernel) (zb_eq _) (fun c8 => absurd c8 (by omega)) (fun c8 => ?_)
  show zq_G _ _ _ _ _ 11 ([(0, .ref 0), (1, .int (nI a)), (2, .int (nI c))], [], XH tx (nI Z) (nI P, nI C, nI R, nI L, hs, ss, cs, gs, vs) dr rd (nI D, sm, nI N, nI K, ce, de, ke, se) i0 i1 kp dd tr m)
  refine zq_b [zq_il 2, zq_k 7] [zq_ilchk 2, zq_kchk 7] 14 rfl (by decide +kernel) ?_
  show zq_G _ _ _ _ _ 14 ([(0, .ref 0), (1, .int (nI a)), (2, .int (nI c))], [.int 7, .int (nI c)], XH tx (nI Z) (nI P, nI C, nI R, nI L, hs, ss, cs, gs, vs) dr rd (nI D, sm, nI N, nI K, ce, de, ke, se) i0 i1 kp dd tr m)
  refine zq_callS (av := [.int (nI c), .int 7]) (rest := []) (by decide +kernel) k11_87 (x_isBeyondN (p := c) (q := 7) (by omega) (by omega)) rfl rfl ?_
  show zq_G _ _ _ _ _ 17 ([(0, .ref 0), (1, .int (nI a)), (2, .int (nI c))], [.int (zb (7 < c))], XH tx (nI Z) (nI P, nI C, nI R, nI L, hs, ss, cs, gs, vs) dr rd (nI D, sm, nI N, nI K, ce, de, ke, se) i0 i1 kp dd tr m)
  refine zq_ifz .eq 22 (¬ (7 < c)) (by decide +kernel) (zb_eq _) (fun c17 => ?_) (fun c17 => absurd (by omega) c17)
  show zq_G _ _ _ _ _ 22 ([(0, .ref 0), (1, .int (nI a)), (2, .int (nI c))], [], XH tx (nI Z) (nI P, nI C, nI R, nI L, hs, ss, cs, gs, vs) dr rd (nI D, sm, nI N, nI K, ce, de, ke, se) i0 i1 kp dd tr m)
  refine zq_b [zq_al 0, zq_get 11 5, zq_get 5 5, zq_il 1, zq_iald a (nI (cn a))] [zq_alchk 0, zq_getchk 11 5, zq_getchk 5 5, zq_ilchk 1, zq_is .iaload 1] 31 rfl (by decide +kernel) ?_
  refine ⟨rfl, (by omega), (by omega), (hce a ha).1, ?_⟩
  show zq_G _ _ _ _ _ 31 ([(0, .ref 0), (1, .int (nI a)), (2, .int (nI c))], [.int (nI (cn a))], XH tx (nI Z) (nI P, nI C, nI R, nI L, hs, ss, cs, gs, vs) dr rd (nI D, sm, nI N, nI K, ce, de, ke, se) i0 i1 kp dd tr m)
  refine zq_callS (av := [.int (nI (cn a))]) (rest := []) (by decide +kernel) k11_150 (c_isInSquare (a := (cn a)) (by omega)) rfl rfl ?_
  show zq_G _ _ _ _ _ 34 ([(0, .ref 0), (1, .int (nI a)), (2, .int (nI c))], [.int (zb ((cn a) < 25))], XH tx (nI Z) (nI P, nI C, nI R, nI L, hs, ss, cs, gs, vs) dr rd (nI D, sm, nI N, nI K, ce, de, ke, se) i0 i1 kp dd tr m)
  refine zq_ifz .ne 40 ((cn a) < 25) (by decide +kernel) (zb_ne _) (fun c34 => ?_) (fun c34 => absurd (by omega) c34)
  show zq_G _ _ _ _ _ 40 ([(0, .ref 0), (1, .int (nI a)), (2, .int (nI c))], [], XH tx (nI Z) (nI P, nI C, nI R, nI L, hs, ss, cs, gs, vs) dr rd (nI D, sm, nI N, nI K, ce, de, ke, se) i0 i1 kp dd tr m)
  refine zq_b [zq_al 0, zq_get 11 5, zq_get 5 3, zq_k 12] [zq_alchk 0, zq_getchk 11 5, zq_getchk 5 3, zq_kchk 12] 49 rfl (by decide +kernel) ?_
  show zq_G _ _ _ _ _ 49 ([(0, .ref 0), (1, .int (nI a)), (2, .int (nI c))], [.int 12, .int (nI N)], XH tx (nI Z) (nI P, nI C, nI R, nI L, hs, ss, cs, gs, vs) dr rd (nI D, sm, nI N, nI K, ce, de, ke, se) i0 i1 kp dd tr m)
  refine zq_if .lt 55 (N < 12) (by decide +kernel) (zq_clt (a := N) (b := 12) (by omega) (by omega)) (fun c49 => absurd c49 (by omega)) (fun c49 => ?_)
  show zq_G _ _ _ _ _ 52 ([(0, .ref 0), (1, .int (nI a)), (2, .int (nI c))], [], XH tx (nI Z) (nI P, nI C, nI R, nI L, hs, ss, cs, gs, vs) dr rd (nI D, sm, nI N, nI K, ce, de, ke, se) i0 i1 kp dd tr m)
  refine zq_b [zq_k (-3)] [zq_kchk (-3)] 54 rfl (by decide +kernel) ?_
  show zq_G _ _ _ _ _ 54 ([(0, .ref 0), (1, .int (nI a)), (2, .int (nI c))], [.int (-3)], XH tx (nI Z) (nI P, nI C, nI R, nI L, hs, ss, cs, gs, vs) dr rd (nI D, sm, nI N, nI K, ce, de, ke, se) i0 i1 kp dd tr m)
  exact zq_iret (by decide +kernel) rfl rfl rfl
set_option maxHeartbeats 4000000 in
set_option maxRecDepth 100000 in
theorem x_deed {a : Nat} {c : Nat} (ha : a < P) (hcc : c ≤ 7) (hP : P ≤ 6) (hC : C ≤ 8) (hK : K ≤ 10) (hce : ∀ j, j < P → ce j = nI (cn j) ∧ cn j ≤ 26) (hb : cn a < 25) (hN2 : N < 12) : zq_P l mX11_deed 7 [.ref 0, .int (nI a), .int (nI c)] (XH tx (nI Z) (nI P, nI C, nI R, nI L, hs, ss, cs, gs, vs) dr rd (nI D, sm, nI N, nI K, ce, de, ke, se) i0 i1 kp dd tr m) (some (.int (zbit (zseen C cs D P hs sm cn) (nI a)))) (XH tx (nI Z) (nI P, nI C, nI R, nI L, hs, ss, cs, gs, vs) dr rd (nI D, sm, nI (N + 1), nI (zk9 K + 1), ce, zde N de (nI a) (nI c) (nI D) (ce a) (zbit (zseen C cs D P hs sm cn) (nI a)), ke, zse K se 2 (nI a) (nI N)) i0 i1 kp dd tr m) := by
  refine zq_start (by decide +kernel) rfl (Nat.le_of_ble_eq_true rfl) ?_
  show zq_G _ _ _ _ _ 0 ([(0, .ref 0), (1, .int (nI a)), (2, .int (nI c))], [], XH tx (nI Z) (nI P, nI C, nI R, nI L, hs, ss, cs, gs, vs) dr rd (nI D, sm, nI N, nI K, ce, de, ke, se) i0 i1 kp dd tr m)
  have hca := (hce a ha).2
  refine zq_b [zq_al 0, zq_get 11 2, zq_il 1] [zq_alchk 0, zq_getchk 11 2, zq_ilchk 1] 5 rfl (by decide +kernel) ?_
  show zq_G _ _ _ _ _ 5 ([(0, .ref 0), (1, .int (nI a)), (2, .int (nI c))], [.int (nI a), .ref 2], XH tx (nI Z) (nI P, nI C, nI R, nI L, hs, ss, cs, gs, vs) dr rd (nI D, sm, nI N, nI K, ce, de, ke, se) i0 i1 kp dd tr m)
  refine zq_callV (av := [.int (nI a)]) (rest := []) (by decide +kernel) k11_105 (x_hasPersonN (p := a) hP (by omega)) rfl rfl rfl rfl ?_
  show zq_G _ _ _ _ _ 8 ([(0, .ref 0), (1, .int (nI a)), (2, .int (nI c))], [.int (zb (a < P))], XH tx (nI Z) (nI P, nI C, nI R, nI L, hs, ss, cs, gs, vs) dr rd (nI D, sm, nI N, nI K, ce, de, ke, se) i0 i1 kp dd tr m)
  refine zq_ifz .eq 20 (¬ (a < P)) (by decide +kernel) (zb_eq _) (fun c8 => absurd c8 (by omega)) (fun c8 => ?_)
  show zq_G _ _ _ _ _ 11 ([(0, .ref 0), (1, .int (nI a)), (2, .int (nI c))], [], XH tx (nI Z) (nI P, nI C, nI R, nI L, hs, ss, cs, gs, vs) dr rd (nI D, sm, nI N, nI K, ce, de, ke, se) i0 i1 kp dd tr m)
  refine zq_b [zq_il 2, zq_k 7] [zq_ilchk 2, zq_kchk 7] 14 rfl (by decide +kernel) ?_
  show zq_G _ _ _ _ _ 14 ([(0, .ref 0), (1, .int (nI a)), (2, .int (nI c))], [.int 7, .int (nI c)], XH tx (nI Z) (nI P, nI C, nI R, nI L, hs, ss, cs, gs, vs) dr rd (nI D, sm, nI N, nI K, ce, de, ke, se) i0 i1 kp dd tr m)
  refine zq_callS (av := [.int (nI c), .int 7]) (rest := []) (by decide +kernel) k11_87 (x_isBeyondN (p := c) (q := 7) (by omega) (by omega)) rfl rfl ?_
  show zq_G _ _ _ _ _ 17 ([(0, .ref 0), (1, .int (nI a)), (2, .int (nI c))], [.int (zb (7 < c))], XH tx (nI Z) (nI P, nI C, nI R, nI L, hs, ss, cs, gs, vs) dr rd (nI D, sm, nI N, nI K, ce, de, ke, se) i0 i1 kp dd tr m)
  refine zq_ifz .eq 22 (¬ (7 < c)) (by decide +kernel) (zb_eq _) (fun c17 => ?_) (fun c17 => absurd (by omega) c17)
  show zq_G _ _ _ _ _ 22 ([(0, .ref 0), (1, .int (nI a)), (2, .int (nI c))], [], XH tx (nI Z) (nI P, nI C, nI R, nI L, hs, ss, cs, gs, vs) dr rd (nI D, sm, nI N, nI K, ce, de, ke, se) i0 i1 kp dd tr m)
  refine zq_b [zq_al 0, zq_get 11 5, zq_get 5 5, zq_il 1, zq_iald a (nI (cn a))] [zq_alchk 0, zq_getchk 11 5, zq_getchk 5 5, zq_ilchk 1, zq_is .iaload 1] 31 rfl (by decide +kernel) ?_
  refine ⟨rfl, (by omega), (by omega), (hce a ha).1, ?_⟩
  show zq_G _ _ _ _ _ 31 ([(0, .ref 0), (1, .int (nI a)), (2, .int (nI c))], [.int (nI (cn a))], XH tx (nI Z) (nI P, nI C, nI R, nI L, hs, ss, cs, gs, vs) dr rd (nI D, sm, nI N, nI K, ce, de, ke, se) i0 i1 kp dd tr m)
  refine zq_callS (av := [.int (nI (cn a))]) (rest := []) (by decide +kernel) k11_150 (c_isInSquare (a := (cn a)) (by omega)) rfl rfl ?_
  show zq_G _ _ _ _ _ 34 ([(0, .ref 0), (1, .int (nI a)), (2, .int (nI c))], [.int (zb ((cn a) < 25))], XH tx (nI Z) (nI P, nI C, nI R, nI L, hs, ss, cs, gs, vs) dr rd (nI D, sm, nI N, nI K, ce, de, ke, se) i0 i1 kp dd tr m)
  refine zq_ifz .ne 40 ((cn a) < 25) (by decide +kernel) (zb_ne _) (fun c34 => ?_) (fun c34 => absurd (by omega) c34)
  show zq_G _ _ _ _ _ 40 ([(0, .ref 0), (1, .int (nI a)), (2, .int (nI c))], [], XH tx (nI Z) (nI P, nI C, nI R, nI L, hs, ss, cs, gs, vs) dr rd (nI D, sm, nI N, nI K, ce, de, ke, se) i0 i1 kp dd tr m)
  refine zq_b [zq_al 0, zq_get 11 5, zq_get 5 3, zq_k 12] [zq_alchk 0, zq_getchk 11 5, zq_getchk 5 3, zq_kchk 12] 49 rfl (by decide +kernel) ?_
  show zq_G _ _ _ _ _ 49 ([(0, .ref 0), (1, .int (nI a)), (2, .int (nI c))], [.int 12, .int (nI N)], XH tx (nI Z) (nI P, nI C, nI R, nI L, hs, ss, cs, gs, vs) dr rd (nI D, sm, nI N, nI K, ce, de, ke, se) i0 i1 kp dd tr m)
  refine zq_if .lt 55 (N < 12) (by decide +kernel) (zq_clt (a := N) (b := 12) (by omega) (by omega)) (fun c49 => ?_) (fun c49 => absurd (by omega) c49)
  show zq_G _ _ _ _ _ 55 ([(0, .ref 0), (1, .int (nI a)), (2, .int (nI c))], [], XH tx (nI Z) (nI P, nI C, nI R, nI L, hs, ss, cs, gs, vs) dr rd (nI D, sm, nI N, nI K, ce, de, ke, se) i0 i1 kp dd tr m)
  refine zq_b [zq_al 0, zq_get 11 5, zq_il 1, zq_il 2] [zq_alchk 0, zq_getchk 11 5, zq_ilchk 1, zq_ilchk 2] 61 rfl (by decide +kernel) ?_
  show zq_G _ _ _ _ _ 61 ([(0, .ref 0), (1, .int (nI a)), (2, .int (nI c))], [.int (nI c), .int (nI a), .ref 15], XH tx (nI Z) (nI P, nI C, nI R, nI L, hs, ss, cs, gs, vs) dr rd (nI D, sm, nI N, nI K, ce, de, ke, se) i0 i1 kp dd tr m)
  refine zq_callV (av := [.int (nI a), .int (nI c)]) (rest := []) (by decide +kernel) k11_156 (c_act (p := a) (x := (nI c)) (by omega) (by omega) hP hC hK hce) rfl rfl rfl rfl ?_
  show zq_G _ _ _ _ _ 64 ([(0, .ref 0), (1, .int (nI a)), (2, .int (nI c))], [.int (zbit (zseen C cs D P hs sm cn) (nI a))], XH tx (nI Z) (nI P, nI C, nI R, nI L, hs, ss, cs, gs, vs) dr rd (nI D, sm, nI (N + 1), nI (zk9 K + 1), ce, zde N de (nI a) (nI c) (nI D) (ce a) (zbit (zseen C cs D P hs sm cn) (nI a)), ke, zse K se 2 (nI a) (nI N)) i0 i1 kp dd tr m)
  exact zq_iret (by decide +kernel) rfl rfl rfl
set_option maxHeartbeats 4000000 in
set_option maxRecDepth 100000 in
theorem x_day_st  (hD2 : D = 99) : zq_P l mX11_day 0 [.ref 0] (XH tx (nI Z) (nI P, nI C, nI R, nI L, hs, ss, cs, gs, vs) dr rd (nI D, sm, nI N, nI K, ce, de, ke, se) i0 i1 kp dd tr m) (some (.int (-2))) (XH tx (nI Z) (nI P, nI C, nI R, nI L, hs, ss, cs, gs, vs) dr rd (nI D, sm, nI N, nI K, ce, de, ke, se) i0 i1 kp dd tr m) := by
  refine zq_start (by decide +kernel) rfl (Nat.le_of_ble_eq_true rfl) ?_
  show zq_G _ _ _ _ _ 0 ([(0, .ref 0)], [], XH tx (nI Z) (nI P, nI C, nI R, nI L, hs, ss, cs, gs, vs) dr rd (nI D, sm, nI N, nI K, ce, de, ke, se) i0 i1 kp dd tr m)
  refine zq_b [zq_al 0, zq_get 11 5, zq_get 5 1, zq_k 99] [zq_alchk 0, zq_getchk 11 5, zq_getchk 5 1, zq_kchk 99] 9 rfl (by decide +kernel) ?_
  show zq_G _ _ _ _ _ 9 ([(0, .ref 0)], [.int 99, .int (nI D)], XH tx (nI Z) (nI P, nI C, nI R, nI L, hs, ss, cs, gs, vs) dr rd (nI D, sm, nI N, nI K, ce, de, ke, se) i0 i1 kp dd tr m)
  refine zq_if .lt 15 (D < 99) (by decide +kernel) (zq_clt (a := D) (b := 99) (by omega) (by omega)) (fun c9 => absurd c9 (by omega)) (fun c9 => ?_)
  show zq_G _ _ _ _ _ 12 ([(0, .ref 0)], [], XH tx (nI Z) (nI P, nI C, nI R, nI L, hs, ss, cs, gs, vs) dr rd (nI D, sm, nI N, nI K, ce, de, ke, se) i0 i1 kp dd tr m)
  refine zq_b [zq_k (-2)] [zq_kchk (-2)] 14 rfl (by decide +kernel) ?_
  show zq_G _ _ _ _ _ 14 ([(0, .ref 0)], [.int (-2)], XH tx (nI Z) (nI P, nI C, nI R, nI L, hs, ss, cs, gs, vs) dr rd (nI D, sm, nI N, nI K, ce, de, ke, se) i0 i1 kp dd tr m)
  exact zq_iret (by decide +kernel) rfl rfl rfl
set_option maxHeartbeats 4000000 in
set_option maxRecDepth 100000 in
theorem x_day  (hD2 : D < 99) (hP : P ≤ 6) (hC : C ≤ 8) (hK : K ≤ 10) (hce : ∀ j, j < P → ce j = nI (cn j) ∧ cn j ≤ 26) : zq_P l mX11_day 7 [.ref 0] (XH tx (nI Z) (nI P, nI C, nI R, nI L, hs, ss, cs, gs, vs) dr rd (nI D, sm, nI N, nI K, ce, de, ke, se) i0 i1 kp dd tr m) (some (.int (nI (D + 1)))) (XH tx (nI Z) (nI P, nI C, nI R, nI L, hs, ss, cs, gs, vs) dr rd (nI (D + 1), 0, nI N, nI (zk9 K + 1), ce, de, upd ke D (zseen C cs D P hs sm cn), zse K se 3 (-1) sm) i0 i1 kp dd tr m) := by
  refine zq_start (by decide +kernel) rfl (Nat.le_of_ble_eq_true rfl) ?_
  show zq_G _ _ _ _ _ 0 ([(0, .ref 0)], [], XH tx (nI Z) (nI P, nI C, nI R, nI L, hs, ss, cs, gs, vs) dr rd (nI D, sm, nI N, nI K, ce, de, ke, se) i0 i1 kp dd tr m)
  refine zq_b [zq_al 0, zq_get 11 5, zq_get 5 1, zq_k 99] [zq_alchk 0, zq_getchk 11 5, zq_getchk 5 1, zq_kchk 99] 9 rfl (by decide +kernel) ?_
  show zq_G _ _ _ _ _ 9 ([(0, .ref 0)], [.int 99, .int (nI D)], XH tx (nI Z) (nI P, nI C, nI R, nI L, hs, ss, cs, gs, vs) dr rd (nI D, sm, nI N, nI K, ce, de, ke, se) i0 i1 kp dd tr m)
  refine zq_if .lt 15 (D < 99) (by decide +kernel) (zq_clt (a := D) (b := 99) (by omega) (by omega)) (fun c9 => ?_) (fun c9 => absurd (by omega) c9)
  show zq_G _ _ _ _ _ 15 ([(0, .ref 0)], [], XH tx (nI Z) (nI P, nI C, nI R, nI L, hs, ss, cs, gs, vs) dr rd (nI D, sm, nI N, nI K, ce, de, ke, se) i0 i1 kp dd tr m)
  refine zq_b [zq_al 0, zq_get 11 5] [zq_alchk 0, zq_getchk 11 5] 19 rfl (by decide +kernel) ?_
  show zq_G _ _ _ _ _ 19 ([(0, .ref 0)], [.ref 15], XH tx (nI Z) (nI P, nI C, nI R, nI L, hs, ss, cs, gs, vs) dr rd (nI D, sm, nI N, nI K, ce, de, ke, se) i0 i1 kp dd tr m)
  refine zq_callV (av := []) (rest := []) (by decide +kernel) k11_159 (c_passDay (by omega) hP hC hK hce) rfl rfl rfl rfl ?_
  show zq_G _ _ _ _ _ 22 ([(0, .ref 0)], [], XH tx (nI Z) (nI P, nI C, nI R, nI L, hs, ss, cs, gs, vs) dr rd (nI (D + 1), 0, nI N, nI (zk9 K + 1), ce, de, upd ke D (zseen C cs D P hs sm cn), zse K se 3 (-1) sm) i0 i1 kp dd tr m)
  refine zq_b [zq_al 0, zq_get 11 5, zq_get 5 1] [zq_alchk 0, zq_getchk 11 5, zq_getchk 5 1] 29 rfl (by decide +kernel) ?_
  show zq_G _ _ _ _ _ 29 ([(0, .ref 0)], [.int (nI (D + 1))], XH tx (nI Z) (nI P, nI C, nI R, nI L, hs, ss, cs, gs, vs) dr rd (nI (D + 1), 0, nI N, nI (zk9 K + 1), ce, de, upd ke D (zseen C cs D P hs sm cn), zse K se 3 (-1) sm) i0 i1 kp dd tr m)
  exact zq_iret (by decide +kernel) rfl rfl rfl
set_option maxHeartbeats 4000000 in
set_option maxRecDepth 100000 in
theorem x_undo_st  (hK0 : K = 0) : zq_P l mX11_undo 0 [.ref 0] (XH tx (nI Z) (nI P, nI C, nI R, nI L, hs, ss, cs, gs, vs) dr rd (nI D, sm, nI N, nI K, ce, de, ke, se) i0 i1 kp dd tr m) (some (.int (-2))) (XH tx (nI Z) (nI P, nI C, nI R, nI L, hs, ss, cs, gs, vs) dr rd (nI D, sm, nI N, nI K, ce, de, ke, se) i0 i1 kp dd tr m) := by
  refine zq_start (by decide +kernel) rfl (Nat.le_of_ble_eq_true rfl) ?_
  show zq_G _ _ _ _ _ 0 ([(0, .ref 0)], [], XH tx (nI Z) (nI P, nI C, nI R, nI L, hs, ss, cs, gs, vs) dr rd (nI D, sm, nI N, nI K, ce, de, ke, se) i0 i1 kp dd tr m)
  refine zq_b [zq_al 0, zq_get 11 5, zq_get 5 4] [zq_alchk 0, zq_getchk 11 5, zq_getchk 5 4] 7 rfl (by decide +kernel) ?_
  show zq_G _ _ _ _ _ 7 ([(0, .ref 0)], [.int (nI K)], XH tx (nI Z) (nI P, nI C, nI R, nI L, hs, ss, cs, gs, vs) dr rd (nI D, sm, nI N, nI K, ce, de, ke, se) i0 i1 kp dd tr m)
  refine zq_ifz .gt 13 (0 < K) (by decide +kernel) (zq_cgt (a := K) (b := 0) (by omega) (by omega)) (fun c7 => absurd c7 (by omega)) (fun c7 => ?_)
  show zq_G _ _ _ _ _ 10 ([(0, .ref 0)], [], XH tx (nI Z) (nI P, nI C, nI R, nI L, hs, ss, cs, gs, vs) dr rd (nI D, sm, nI N, nI K, ce, de, ke, se) i0 i1 kp dd tr m)
  refine zq_b [zq_k (-2)] [zq_kchk (-2)] 12 rfl (by decide +kernel) ?_
  show zq_G _ _ _ _ _ 12 ([(0, .ref 0)], [.int (-2)], XH tx (nI Z) (nI P, nI C, nI R, nI L, hs, ss, cs, gs, vs) dr rd (nI D, sm, nI N, nI K, ce, de, ke, se) i0 i1 kp dd tr m)
  exact zq_iret (by decide +kernel) rfl rfl rfl
set_option maxHeartbeats 4000000 in
set_option maxRecDepth 100000 in
theorem x_undo_0 {q : Nat} (hK1 : 1 ≤ K) (hK : K ≤ 10) (hx : se ((K - 1) * 3) = 0) (hq : se ((K - 1) * 3 + 1) = nI q) (hq6 : q < 6) : zq_P l mX11_undo 1 [.ref 0] (XH tx (nI Z) (nI P, nI C, nI R, nI L, hs, ss, cs, gs, vs) dr rd (nI D, sm, nI N, nI K, ce, de, ke, se) i0 i1 kp dd tr m) (some (.int (nI (K - 1)))) (XH tx (nI Z) (nI P, nI C, nI R, nI L, hs, ss, cs, gs, vs) dr rd (nI D, sm, nI N, nI (K - 1), upd ce q (se ((K - 1) * 3 + 2)), de, ke, se) i0 i1 kp dd tr m) := by
  refine zq_start (by decide +kernel) rfl (Nat.le_of_ble_eq_true rfl) ?_
  show zq_G _ _ _ _ _ 0 ([(0, .ref 0)], [], XH tx (nI Z) (nI P, nI C, nI R, nI L, hs, ss, cs, gs, vs) dr rd (nI D, sm, nI N, nI K, ce, de, ke, se) i0 i1 kp dd tr m)
  refine zq_b [zq_al 0, zq_get 11 5, zq_get 5 4] [zq_alchk 0, zq_getchk 11 5, zq_getchk 5 4] 7 rfl (by decide +kernel) ?_
  show zq_G _ _ _ _ _ 7 ([(0, .ref 0)], [.int (nI K)], XH tx (nI Z) (nI P, nI C, nI R, nI L, hs, ss, cs, gs, vs) dr rd (nI D, sm, nI N, nI K, ce, de, ke, se) i0 i1 kp dd tr m)
  refine zq_ifz .gt 13 (0 < K) (by decide +kernel) (zq_cgt (a := K) (b := 0) (by omega) (by omega)) (fun c7 => ?_) (fun c7 => absurd (by omega) c7)
  show zq_G _ _ _ _ _ 13 ([(0, .ref 0)], [], XH tx (nI Z) (nI P, nI C, nI R, nI L, hs, ss, cs, gs, vs) dr rd (nI D, sm, nI N, nI K, ce, de, ke, se) i0 i1 kp dd tr m)
  refine zq_b [zq_al 0, zq_get 11 5] [zq_alchk 0, zq_getchk 11 5] 17 rfl (by decide +kernel) ?_
  show zq_G _ _ _ _ _ 17 ([(0, .ref 0)], [.ref 15], XH tx (nI Z) (nI P, nI C, nI R, nI L, hs, ss, cs, gs, vs) dr rd (nI D, sm, nI N, nI K, ce, de, ke, se) i0 i1 kp dd tr m)
  refine zq_callV (av := []) (rest := []) (by decide +kernel) k11_165 (c_takeBack_0 (q := _) (by omega) hK hx hq hq6) rfl rfl rfl rfl ?_
  show zq_G _ _ _ _ _ 20 ([(0, .ref 0)], [], XH tx (nI Z) (nI P, nI C, nI R, nI L, hs, ss, cs, gs, vs) dr rd (nI D, sm, nI N, nI (K - 1), upd ce q (se ((K - 1) * 3 + 2)), de, ke, se) i0 i1 kp dd tr m)
  refine zq_b [zq_al 0, zq_get 11 5, zq_get 5 4] [zq_alchk 0, zq_getchk 11 5, zq_getchk 5 4] 27 rfl (by decide +kernel) ?_
  show zq_G _ _ _ _ _ 27 ([(0, .ref 0)], [.int (nI (K - 1))], XH tx (nI Z) (nI P, nI C, nI R, nI L, hs, ss, cs, gs, vs) dr rd (nI D, sm, nI N, nI (K - 1), upd ce q (se ((K - 1) * 3 + 2)), de, ke, se) i0 i1 kp dd tr m)
  exact zq_iret (by decide +kernel) rfl rfl rfl
set_option maxHeartbeats 4000000 in
set_option maxRecDepth 100000 in
theorem x_undo_1  (hK1 : 1 ≤ K) (hK : K ≤ 10) (hx : se ((K - 1) * 3) = 1) : zq_P l mX11_undo 1 [.ref 0] (XH tx (nI Z) (nI P, nI C, nI R, nI L, hs, ss, cs, gs, vs) dr rd (nI D, sm, nI N, nI K, ce, de, ke, se) i0 i1 kp dd tr m) (some (.int (nI (K - 1)))) (XH tx (nI Z) (nI P, nI C, nI R, nI L, hs, ss, cs, gs, vs) dr rd (nI D, se ((K - 1) * 3 + 2), nI N, nI (K - 1), ce, de, ke, se) i0 i1 kp dd tr m) := by
  refine zq_start (by decide +kernel) rfl (Nat.le_of_ble_eq_true rfl) ?_
  show zq_G _ _ _ _ _ 0 ([(0, .ref 0)], [], XH tx (nI Z) (nI P, nI C, nI R, nI L, hs, ss, cs, gs, vs) dr rd (nI D, sm, nI N, nI K, ce, de, ke, se) i0 i1 kp dd tr m)
  refine zq_b [zq_al 0, zq_get 11 5, zq_get 5 4] [zq_alchk 0, zq_getchk 11 5, zq_getchk 5 4] 7 rfl (by decide +kernel) ?_
  show zq_G _ _ _ _ _ 7 ([(0, .ref 0)], [.int (nI K)], XH tx (nI Z) (nI P, nI C, nI R, nI L, hs, ss, cs, gs, vs) dr rd (nI D, sm, nI N, nI K, ce, de, ke, se) i0 i1 kp dd tr m)
  refine zq_ifz .gt 13 (0 < K) (by decide +kernel) (zq_cgt (a := K) (b := 0) (by omega) (by omega)) (fun c7 => ?_) (fun c7 => absurd (by omega) c7)
  show zq_G _ _ _ _ _ 13 ([(0, .ref 0)], [], XH tx (nI Z) (nI P, nI C, nI R, nI L, hs, ss, cs, gs, vs) dr rd (nI D, sm, nI N, nI K, ce, de, ke, se) i0 i1 kp dd tr m)
  refine zq_b [zq_al 0, zq_get 11 5] [zq_alchk 0, zq_getchk 11 5] 17 rfl (by decide +kernel) ?_
  show zq_G _ _ _ _ _ 17 ([(0, .ref 0)], [.ref 15], XH tx (nI Z) (nI P, nI C, nI R, nI L, hs, ss, cs, gs, vs) dr rd (nI D, sm, nI N, nI K, ce, de, ke, se) i0 i1 kp dd tr m)
  refine zq_callV (av := []) (rest := []) (by decide +kernel) k11_165 (c_takeBack_1 (by omega) hK hx) rfl rfl rfl rfl ?_
  show zq_G _ _ _ _ _ 20 ([(0, .ref 0)], [], XH tx (nI Z) (nI P, nI C, nI R, nI L, hs, ss, cs, gs, vs) dr rd (nI D, se ((K - 1) * 3 + 2), nI N, nI (K - 1), ce, de, ke, se) i0 i1 kp dd tr m)
  refine zq_b [zq_al 0, zq_get 11 5, zq_get 5 4] [zq_alchk 0, zq_getchk 11 5, zq_getchk 5 4] 27 rfl (by decide +kernel) ?_
  show zq_G _ _ _ _ _ 27 ([(0, .ref 0)], [.int (nI (K - 1))], XH tx (nI Z) (nI P, nI C, nI R, nI L, hs, ss, cs, gs, vs) dr rd (nI D, se ((K - 1) * 3 + 2), nI N, nI (K - 1), ce, de, ke, se) i0 i1 kp dd tr m)
  exact zq_iret (by decide +kernel) rfl rfl rfl
set_option maxHeartbeats 4000000 in
set_option maxRecDepth 100000 in
theorem x_undo_2 {q : Nat} (hK1 : 1 ≤ K) (hK : K ≤ 10) (hx : se ((K - 1) * 3) = 2) (hq : se ((K - 1) * 3 + 2) = nI q) : zq_P l mX11_undo 1 [.ref 0] (XH tx (nI Z) (nI P, nI C, nI R, nI L, hs, ss, cs, gs, vs) dr rd (nI D, sm, nI N, nI K, ce, de, ke, se) i0 i1 kp dd tr m) (some (.int (nI (K - 1)))) (XH tx (nI Z) (nI P, nI C, nI R, nI L, hs, ss, cs, gs, vs) dr rd (nI D, sm, nI q, nI (K - 1), ce, de, ke, se) i0 i1 kp dd tr m) := by
  refine zq_start (by decide +kernel) rfl (Nat.le_of_ble_eq_true rfl) ?_
  show zq_G _ _ _ _ _ 0 ([(0, .ref 0)], [], XH tx (nI Z) (nI P, nI C, nI R, nI L, hs, ss, cs, gs, vs) dr rd (nI D, sm, nI N, nI K, ce, de, ke, se) i0 i1 kp dd tr m)
  refine zq_b [zq_al 0, zq_get 11 5, zq_get 5 4] [zq_alchk 0, zq_getchk 11 5, zq_getchk 5 4] 7 rfl (by decide +kernel) ?_
  show zq_G _ _ _ _ _ 7 ([(0, .ref 0)], [.int (nI K)], XH tx (nI Z) (nI P, nI C, nI R, nI L, hs, ss, cs, gs, vs) dr rd (nI D, sm, nI N, nI K, ce, de, ke, se) i0 i1 kp dd tr m)
  refine zq_ifz .gt 13 (0 < K) (by decide +kernel) (zq_cgt (a := K) (b := 0) (by omega) (by omega)) (fun c7 => ?_) (fun c7 => absurd (by omega) c7)
  show zq_G _ _ _ _ _ 13 ([(0, .ref 0)], [], XH tx (nI Z) (nI P, nI C, nI R, nI L, hs, ss, cs, gs, vs) dr rd (nI D, sm, nI N, nI K, ce, de, ke, se) i0 i1 kp dd tr m)
  refine zq_b [zq_al 0, zq_get 11 5] [zq_alchk 0, zq_getchk 11 5] 17 rfl (by decide +kernel) ?_
  show zq_G _ _ _ _ _ 17 ([(0, .ref 0)], [.ref 15], XH tx (nI Z) (nI P, nI C, nI R, nI L, hs, ss, cs, gs, vs) dr rd (nI D, sm, nI N, nI K, ce, de, ke, se) i0 i1 kp dd tr m)
  refine zq_callV (av := []) (rest := []) (by decide +kernel) k11_165 (c_takeBack_2 (q := _) (by omega) hK hx hq) rfl rfl rfl rfl ?_
  show zq_G _ _ _ _ _ 20 ([(0, .ref 0)], [], XH tx (nI Z) (nI P, nI C, nI R, nI L, hs, ss, cs, gs, vs) dr rd (nI D, sm, nI q, nI (K - 1), ce, de, ke, se) i0 i1 kp dd tr m)
  refine zq_b [zq_al 0, zq_get 11 5, zq_get 5 4] [zq_alchk 0, zq_getchk 11 5, zq_getchk 5 4] 27 rfl (by decide +kernel) ?_
  show zq_G _ _ _ _ _ 27 ([(0, .ref 0)], [.int (nI (K - 1))], XH tx (nI Z) (nI P, nI C, nI R, nI L, hs, ss, cs, gs, vs) dr rd (nI D, sm, nI q, nI (K - 1), ce, de, ke, se) i0 i1 kp dd tr m)
  exact zq_iret (by decide +kernel) rfl rfl rfl
set_option maxHeartbeats 4000000 in
set_option maxRecDepth 100000 in
theorem x_undo_3  (hK1 : 1 ≤ K) (hK : K ≤ 10) (hx : se ((K - 1) * 3) = 3) (hD1 : 1 ≤ D) : zq_P l mX11_undo 1 [.ref 0] (XH tx (nI Z) (nI P, nI C, nI R, nI L, hs, ss, cs, gs, vs) dr rd (nI D, sm, nI N, nI K, ce, de, ke, se) i0 i1 kp dd tr m) (some (.int (nI (K - 1)))) (XH tx (nI Z) (nI P, nI C, nI R, nI L, hs, ss, cs, gs, vs) dr rd (nI (D - 1), se ((K - 1) * 3 + 2), nI N, nI (K - 1), ce, de, ke, se) i0 i1 kp dd tr m) := by
  refine zq_start (by decide +kernel) rfl (Nat.le_of_ble_eq_true rfl) ?_
  show zq_G _ _ _ _ _ 0 ([(0, .ref 0)], [], XH tx (nI Z) (nI P, nI C, nI R, nI L, hs, ss, cs, gs, vs) dr rd (nI D, sm, nI N, nI K, ce, de, ke, se) i0 i1 kp dd tr m)
  refine zq_b [zq_al 0, zq_get 11 5, zq_get 5 4] [zq_alchk 0, zq_getchk 11 5, zq_getchk 5 4] 7 rfl (by decide +kernel) ?_
  show zq_G _ _ _ _ _ 7 ([(0, .ref 0)], [.int (nI K)], XH tx (nI Z) (nI P, nI C, nI R, nI L, hs, ss, cs, gs, vs) dr rd (nI D, sm, nI N, nI K, ce, de, ke, se) i0 i1 kp dd tr m)
  refine zq_ifz .gt 13 (0 < K) (by decide +kernel) (zq_cgt (a := K) (b := 0) (by omega) (by omega)) (fun c7 => ?_) (fun c7 => absurd (by omega) c7)
  show zq_G _ _ _ _ _ 13 ([(0, .ref 0)], [], XH tx (nI Z) (nI P, nI C, nI R, nI L, hs, ss, cs, gs, vs) dr rd (nI D, sm, nI N, nI K, ce, de, ke, se) i0 i1 kp dd tr m)
  refine zq_b [zq_al 0, zq_get 11 5] [zq_alchk 0, zq_getchk 11 5] 17 rfl (by decide +kernel) ?_
  show zq_G _ _ _ _ _ 17 ([(0, .ref 0)], [.ref 15], XH tx (nI Z) (nI P, nI C, nI R, nI L, hs, ss, cs, gs, vs) dr rd (nI D, sm, nI N, nI K, ce, de, ke, se) i0 i1 kp dd tr m)
  refine zq_callV (av := []) (rest := []) (by decide +kernel) k11_165 (c_takeBack_3 (by omega) hK hx (by omega)) rfl rfl rfl rfl ?_
  show zq_G _ _ _ _ _ 20 ([(0, .ref 0)], [], XH tx (nI Z) (nI P, nI C, nI R, nI L, hs, ss, cs, gs, vs) dr rd (nI (D - 1), se ((K - 1) * 3 + 2), nI N, nI (K - 1), ce, de, ke, se) i0 i1 kp dd tr m)
  refine zq_b [zq_al 0, zq_get 11 5, zq_get 5 4] [zq_alchk 0, zq_getchk 11 5, zq_getchk 5 4] 27 rfl (by decide +kernel) ?_
  show zq_G _ _ _ _ _ 27 ([(0, .ref 0)], [.int (nI (K - 1))], XH tx (nI Z) (nI P, nI C, nI R, nI L, hs, ss, cs, gs, vs) dr rd (nI (D - 1), se ((K - 1) * 3 + 2), nI N, nI (K - 1), ce, de, ke, se) i0 i1 kp dd tr m)
  exact zq_iret (by decide +kernel) rfl rfl rfl
set_option maxHeartbeats 4000000 in
set_option maxRecDepth 100000 in
theorem x_done_bad {x : Int32} {y : Int32} (hN : N ≤ 12) (hb : ¬ (0 ≤ x.toInt ∧ x.toInt < (N : Int) ∧ 0 ≤ y.toInt ∧ y.toInt ≤ 4)) : zq_P l mX11_done 1 [.ref 0, .int x, .int y] (XH tx (nI Z) (nI P, nI C, nI R, nI L, hs, ss, cs, gs, vs) dr rd (nI D, sm, nI N, nI K, ce, de, ke, se) i0 i1 kp dd tr m) (some (.int (-1))) (XH tx (nI Z) (nI P, nI C, nI R, nI L, hs, ss, cs, gs, vs) dr rd (nI D, sm, nI N, nI K, ce, de, ke, se) i0 i1 kp dd tr m) := by
  refine zq_start (by decide +kernel) rfl (Nat.le_of_ble_eq_true rfl) ?_
  show zq_G _ _ _ _ _ 0 ([(0, .ref 0), (1, .int x), (2, .int y)], [], XH tx (nI Z) (nI P, nI C, nI R, nI L, hs, ss, cs, gs, vs) dr rd (nI D, sm, nI N, nI K, ce, de, ke, se) i0 i1 kp dd tr m)
  refine zq_b [zq_al 0, zq_get 11 5, zq_il 1] [zq_alchk 0, zq_getchk 11 5, zq_ilchk 1] 5 rfl (by decide +kernel) ?_
  show zq_G _ _ _ _ _ 5 ([(0, .ref 0), (1, .int x), (2, .int y)], [.int x, .ref 15], XH tx (nI Z) (nI P, nI C, nI R, nI L, hs, ss, cs, gs, vs) dr rd (nI D, sm, nI N, nI K, ce, de, ke, se) i0 i1 kp dd tr m)
  refine zq_callV (av := [.int x]) (rest := []) (by decide +kernel) k11_168 (x_hasDeed (i := x) hN) rfl rfl rfl rfl ?_
  show zq_G _ _ _ _ _ 8 ([(0, .ref 0), (1, .int x), (2, .int y)], [.int (zb (0 ≤ x.toInt ∧ x.toInt < (N : Int)))], XH tx (nI Z) (nI P, nI C, nI R, nI L, hs, ss, cs, gs, vs) dr rd (nI D, sm, nI N, nI K, ce, de, ke, se) i0 i1 kp dd tr m)
  refine zq_ifz .eq 19 (¬ (0 ≤ x.toInt ∧ x.toInt < (N : Int))) (by decide +kernel) (zb_eq _) (fun c8 => ?_) (fun c8 => ?_)
  · show zq_G _ _ _ _ _ 19 ([(0, .ref 0), (1, .int x), (2, .int y)], [], XH tx (nI Z) (nI P, nI C, nI R, nI L, hs, ss, cs, gs, vs) dr rd (nI D, sm, nI N, nI K, ce, de, ke, se) i0 i1 kp dd tr m)
    refine zq_b [zq_k (-1)] [zq_kchk (-1)] 20 rfl (by decide +kernel) ?_
    show zq_G _ _ _ _ _ 20 ([(0, .ref 0), (1, .int x), (2, .int y)], [.int (-1)], XH tx (nI Z) (nI P, nI C, nI R, nI L, hs, ss, cs, gs, vs) dr rd (nI D, sm, nI N, nI K, ce, de, ke, se) i0 i1 kp dd tr m)
    exact zq_iret (by decide +kernel) rfl rfl rfl
  · show zq_G _ _ _ _ _ 11 ([(0, .ref 0), (1, .int x), (2, .int y)], [], XH tx (nI Z) (nI P, nI C, nI R, nI L, hs, ss, cs, gs, vs) dr rd (nI D, sm, nI N, nI K, ce, de, ke, se) i0 i1 kp dd tr m)
    refine zq_b [zq_il 2, zq_k 4] [zq_ilchk 2, zq_kchk 4] 13 rfl (by decide +kernel) ?_
    show zq_G _ _ _ _ _ 13 ([(0, .ref 0), (1, .int x), (2, .int y)], [.int 4, .int y], XH tx (nI Z) (nI P, nI C, nI R, nI L, hs, ss, cs, gs, vs) dr rd (nI D, sm, nI N, nI K, ce, de, ke, se) i0 i1 kp dd tr m)
    refine zq_callS (av := [.int y, .int 4]) (rest := []) (by decide +kernel) k11_87 (x_isBeyond (x := y) (q := 4) (by omega)) rfl rfl ?_
    show zq_G _ _ _ _ _ 16 ([(0, .ref 0), (1, .int x), (2, .int y)], [.int (zb (y.toInt < 0 ∨ (4 : Int) < y.toInt))], XH tx (nI Z) (nI P, nI C, nI R, nI L, hs, ss, cs, gs, vs) dr rd (nI D, sm, nI N, nI K, ce, de, ke, se) i0 i1 kp dd tr m)
    refine zq_ifz .eq 21 (¬ (y.toInt < 0 ∨ (4 : Int) < y.toInt)) (by decide +kernel) (zb_eq _) (fun c16 => ?_) (fun c16 => ?_)
    · show zq_G _ _ _ _ _ 21 ([(0, .ref 0), (1, .int x), (2, .int y)], [], XH tx (nI Z) (nI P, nI C, nI R, nI L, hs, ss, cs, gs, vs) dr rd (nI D, sm, nI N, nI K, ce, de, ke, se) i0 i1 kp dd tr m)
      exact absurd hb (by omega)
    · show zq_G _ _ _ _ _ 19 ([(0, .ref 0), (1, .int x), (2, .int y)], [], XH tx (nI Z) (nI P, nI C, nI R, nI L, hs, ss, cs, gs, vs) dr rd (nI D, sm, nI N, nI K, ce, de, ke, se) i0 i1 kp dd tr m)
      refine zq_b [zq_k (-1)] [zq_kchk (-1)] 20 rfl (by decide +kernel) ?_
      show zq_G _ _ _ _ _ 20 ([(0, .ref 0), (1, .int x), (2, .int y)], [.int (-1)], XH tx (nI Z) (nI P, nI C, nI R, nI L, hs, ss, cs, gs, vs) dr rd (nI D, sm, nI N, nI K, ce, de, ke, se) i0 i1 kp dd tr m)
      exact zq_iret (by decide +kernel) rfl rfl rfl
set_option maxHeartbeats 4000000 in
set_option maxRecDepth 100000 in
theorem x_done {i : Nat} {k : Nat} (hN : N ≤ 12) (hi : i < N) (hk : k ≤ 4) : zq_P l mX11_done 1 [.ref 0, .int (nI i), .int (nI k)] (XH tx (nI Z) (nI P, nI C, nI R, nI L, hs, ss, cs, gs, vs) dr rd (nI D, sm, nI N, nI K, ce, de, ke, se) i0 i1 kp dd tr m) (some (.int (de (i * 5 + k)))) (XH tx (nI Z) (nI P, nI C, nI R, nI L, hs, ss, cs, gs, vs) dr rd (nI D, sm, nI N, nI K, ce, de, ke, se) i0 i1 kp dd tr m) := by
  refine zq_start (by decide +kernel) rfl (Nat.le_of_ble_eq_true rfl) ?_
  show zq_G _ _ _ _ _ 0 ([(0, .ref 0), (1, .int (nI i)), (2, .int (nI k))], [], XH tx (nI Z) (nI P, nI C, nI R, nI L, hs, ss, cs, gs, vs) dr rd (nI D, sm, nI N, nI K, ce, de, ke, se) i0 i1 kp dd tr m)
  refine zq_b [zq_al 0, zq_get 11 5, zq_il 1] [zq_alchk 0, zq_getchk 11 5, zq_ilchk 1] 5 rfl (by decide +kernel) ?_
  show zq_G _ _ _ _ _ 5 ([(0, .ref 0), (1, .int (nI i)), (2, .int (nI k))], [.int (nI i), .ref 15], XH tx (nI Z) (nI P, nI C, nI R, nI L, hs, ss, cs, gs, vs) dr rd (nI D, sm, nI N, nI K, ce, de, ke, se) i0 i1 kp dd tr m)
  refine zq_callV (av := [.int (nI i)]) (rest := []) (by decide +kernel) k11_168 (x_hasDeedN (i := i) hN (by omega)) rfl rfl rfl rfl ?_
  show zq_G _ _ _ _ _ 8 ([(0, .ref 0), (1, .int (nI i)), (2, .int (nI k))], [.int (zb (i < N))], XH tx (nI Z) (nI P, nI C, nI R, nI L, hs, ss, cs, gs, vs) dr rd (nI D, sm, nI N, nI K, ce, de, ke, se) i0 i1 kp dd tr m)
  refine zq_ifz .eq 19 (¬ (i < N)) (by decide +kernel) (zb_eq _) (fun c8 => absurd c8 (by omega)) (fun c8 => ?_)
  show zq_G _ _ _ _ _ 11 ([(0, .ref 0), (1, .int (nI i)), (2, .int (nI k))], [], XH tx (nI Z) (nI P, nI C, nI R, nI L, hs, ss, cs, gs, vs) dr rd (nI D, sm, nI N, nI K, ce, de, ke, se) i0 i1 kp dd tr m)
  refine zq_b [zq_il 2, zq_k 4] [zq_ilchk 2, zq_kchk 4] 13 rfl (by decide +kernel) ?_
  show zq_G _ _ _ _ _ 13 ([(0, .ref 0), (1, .int (nI i)), (2, .int (nI k))], [.int 4, .int (nI k)], XH tx (nI Z) (nI P, nI C, nI R, nI L, hs, ss, cs, gs, vs) dr rd (nI D, sm, nI N, nI K, ce, de, ke, se) i0 i1 kp dd tr m)
  refine zq_callS (av := [.int (nI k), .int 4]) (rest := []) (by decide +kernel) k11_87 (x_isBeyondN (p := k) (q := 4) (by omega) (by omega)) rfl rfl ?_
  show zq_G _ _ _ _ _ 16 ([(0, .ref 0), (1, .int (nI i)), (2, .int (nI k))], [.int (zb (4 < k))], XH tx (nI Z) (nI P, nI C, nI R, nI L, hs, ss, cs, gs, vs) dr rd (nI D, sm, nI N, nI K, ce, de, ke, se) i0 i1 kp dd tr m)
  refine zq_ifz .eq 21 (¬ (4 < k)) (by decide +kernel) (zb_eq _) (fun c16 => ?_) (fun c16 => absurd (by omega) c16)
  show zq_G _ _ _ _ _ 21 ([(0, .ref 0), (1, .int (nI i)), (2, .int (nI k))], [], XH tx (nI Z) (nI P, nI C, nI R, nI L, hs, ss, cs, gs, vs) dr rd (nI D, sm, nI N, nI K, ce, de, ke, se) i0 i1 kp dd tr m)
  refine zq_b [zq_al 0, zq_get 11 5, zq_il 1, zq_il 2] [zq_alchk 0, zq_getchk 11 5, zq_ilchk 1, zq_ilchk 2] 27 rfl (by decide +kernel) ?_
  show zq_G _ _ _ _ _ 27 ([(0, .ref 0), (1, .int (nI i)), (2, .int (nI k))], [.int (nI k), .int (nI i), .ref 15], XH tx (nI Z) (nI P, nI C, nI R, nI L, hs, ss, cs, gs, vs) dr rd (nI D, sm, nI N, nI K, ce, de, ke, se) i0 i1 kp dd tr m)
  refine zq_callV (av := [.int (nI i), .int (nI k)]) (rest := []) (by decide +kernel) k11_171 (c_ofDeed (i := i) (k := k) (by omega) (by omega)) rfl rfl rfl rfl ?_
  show zq_G _ _ _ _ _ 30 ([(0, .ref 0), (1, .int (nI i)), (2, .int (nI k))], [.int (de (i * 5 + k))], XH tx (nI Z) (nI P, nI C, nI R, nI L, hs, ss, cs, gs, vs) dr rd (nI D, sm, nI N, nI K, ce, de, ke, se) i0 i1 kp dd tr m)
  exact zq_iret (by decide +kernel) rfl rfl rfl
end XV4
