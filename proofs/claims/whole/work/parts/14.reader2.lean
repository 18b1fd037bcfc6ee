section XV7
variable {l : Launch} {tx : Nat → Int32} {n : Int32} {t : zT} {w i0 i1 : zN} {kp : Nat → Int32} {dd : Int32} {tr : Int64} {m : Nat → zq_C} {h h2 : zq_H}
variable {Z a : Nat} {bt : Nat → Nat} {lt rs rt rv : Int32} {P C R L : Nat} {hs ss cs gs vs : Nat → Int32} {q : Int32}
set_option maxHeartbeats 4000000 in
set_option maxRecDepth 100000 in
theorem rp_full  (hZ : Z ≤ 200) (hbt : ∀ j, j < Z → tx j = nI (bt j) ∧ bt j ≤ 255) (ha : a ≤ Z) (hP : P = 6) : zq_P l mX8_readPerson 4 [.ref 14] (XH tx n t (nI P, nI C, nI R, nI L, hs, ss, cs, gs, vs) (nI Z, nI a, lt, rs, rt, rv) w i0 i1 kp dd tr m) (some (.int 0)) (XH tx n t (nI P, nI C, nI R, nI L, hs, ss, cs, gs, vs) (nI Z, nI a, lt, rs, rt, rv) w i0 i1 kp dd tr m) := by
  refine zq_start (by decide +kernel) rfl (Nat.le_of_ble_eq_true rfl) ?_
  show zq_G _ _ _ _ _ 0 ([(0, .ref 14)], [], XH tx n t (nI P, nI C, nI R, nI L, hs, ss, cs, gs, vs) (nI Z, nI a, lt, rs, rt, rv) w i0 i1 kp dd tr m)
  refine zq_b [zq_al 0, zq_get 8 1, zq_get 9 0, zq_is1 1, zq_il 1, zq_k 6] [zq_alchk 0, zq_getchk 8 1, zq_getchk 9 0, zq_is1chk 1, zq_ilchk 1, zq_kchk 6] 11 rfl (by decide +kernel) ?_
  show zq_G _ _ _ _ _ 11 ([(0, .ref 14), (1, .int (nI P))], [.int 6, .int (nI P)], XH tx n t (nI P, nI C, nI R, nI L, hs, ss, cs, gs, vs) (nI Z, nI a, lt, rs, rt, rv) w i0 i1 kp dd tr m)
  refine zq_if .ge 24 (6 ≤ P) (by decide +kernel) (zq_cge (a := P) (b := 6) (by omega) (by omega)) (fun c11 => ?_) (fun c11 => absurd (by omega) c11)
  show zq_G _ _ _ _ _ 24 ([(0, .ref 14), (1, .int (nI P))], [], XH tx n t (nI P, nI C, nI R, nI L, hs, ss, cs, gs, vs) (nI Z, nI a, lt, rs, rt, rv) w i0 i1 kp dd tr m)
  refine zq_b [zq_k 0] [zq_kchk 0] 25 rfl (by decide +kernel) ?_
  show zq_G _ _ _ _ _ 25 ([(0, .ref 14), (1, .int (nI P))], [.int 0], XH tx n t (nI P, nI C, nI R, nI L, hs, ss, cs, gs, vs) (nI Z, nI a, lt, rs, rt, rv) w i0 i1 kp dd tr m)
  exact zq_zret (by decide +kernel) rfl (Or.inl rfl) rfl rfl
set_option maxHeartbeats 4000000 in
set_option maxRecDepth 100000 in
theorem rp_n1  (hZ : Z ≤ 200) (hbt : ∀ j, j < Z → tx j = nI (bt j) ∧ bt j ≤ 255) (ha : a ≤ Z) (hP : P < 6) (hkA : ¬ (tkK bt Z a = 2 ∧ 1 ≤ tkV bt Z a ∧ tkV bt Z a ≤ 9)) : zq_P l mX8_readPerson 4 [.ref 14] (XH tx n t (nI P, nI C, nI R, nI L, hs, ss, cs, gs, vs) (nI Z, nI a, lt, rs, rt, rv) w i0 i1 kp dd tr m) (some (.int 0)) (XH tx n t (nI P, nI C, nI R, nI L, hs, ss, cs, gs, vs) (nI Z, nI (tkE bt Z a), lt, nI (tkS bt Z a), nI (tkK bt Z a), nxV bt Z rv a) w i0 i1 kp dd tr m) := by
  refine zq_start (by decide +kernel) rfl (Nat.le_of_ble_eq_true rfl) ?_
  show zq_G _ _ _ _ _ 0 ([(0, .ref 14)], [], XH tx n t (nI P, nI C, nI R, nI L, hs, ss, cs, gs, vs) (nI Z, nI a, lt, rs, rt, rv) w i0 i1 kp dd tr m)
  have hE1 := tkE_max (bt := bt) ha
  have hE2 := tkE_max (bt := bt) hE1
  have hE3 := tkE_max (bt := bt) hE2
  refine zq_b [zq_al 0, zq_get 8 1, zq_get 9 0, zq_is1 1, zq_il 1, zq_k 6] [zq_alchk 0, zq_getchk 8 1, zq_getchk 9 0, zq_is1chk 1, zq_ilchk 1, zq_kchk 6] 11 rfl (by decide +kernel) ?_
  show zq_G _ _ _ _ _ 11 ([(0, .ref 14), (1, .int (nI P))], [.int 6, .int (nI P)], XH tx n t (nI P, nI C, nI R, nI L, hs, ss, cs, gs, vs) (nI Z, nI a, lt, rs, rt, rv) w i0 i1 kp dd tr m)
  refine zq_if .ge 24 (6 ≤ P) (by decide +kernel) (zq_cge (a := P) (b := 6) (by omega) (by omega)) (fun c11 => absurd c11 (by omega)) (fun c11 => ?_)
  show zq_G _ _ _ _ _ 14 ([(0, .ref 14), (1, .int (nI P))], [], XH tx n t (nI P, nI C, nI R, nI L, hs, ss, cs, gs, vs) (nI Z, nI a, lt, rs, rt, rv) w i0 i1 kp dd tr m)
  refine zq_b [zq_al 0, zq_k 1, zq_k 9] [zq_alchk 0, zq_kchk 1, zq_kchk 9] 18 rfl (by decide +kernel) ?_
  show zq_G _ _ _ _ _ 18 ([(0, .ref 14), (1, .int (nI P))], [.int 9, .int 1, .ref 14], XH tx n t (nI P, nI C, nI R, nI L, hs, ss, cs, gs, vs) (nI Z, nI a, lt, rs, rt, rv) w i0 i1 kp dd tr m)
  refine zq_callV (av := [.int 1, .int 9]) (rest := []) (by decide +kernel) k8_72 (c_num_f (lo := 1) (hi := 9) hZ hbt (by omega) hkA (by decide)) rfl rfl rfl rfl ?_
  show zq_G _ _ _ _ _ 21 ([(0, .ref 14), (1, .int (nI P))], [.int 0], XH tx n t (nI P, nI C, nI R, nI L, hs, ss, cs, gs, vs) (nI Z, nI (tkE bt Z a), lt, nI (tkS bt Z a), nI (tkK bt Z a), nxV bt Z rv a) w i0 i1 kp dd tr m)
  refine zq_ifz .ne 26 (¬ 0 = 0) (by decide +kernel) (zq_cne (a := 0) (b := 0) (by omega) (by omega)) (fun c21 => absurd c21 (fun q => q rfl)) (fun c21 => ?_)
  show zq_G _ _ _ _ _ 24 ([(0, .ref 14), (1, .int (nI P))], [], XH tx n t (nI P, nI C, nI R, nI L, hs, ss, cs, gs, vs) (nI Z, nI (tkE bt Z a), lt, nI (tkS bt Z a), nI (tkK bt Z a), nxV bt Z rv a) w i0 i1 kp dd tr m)
  refine zq_b [zq_k 0] [zq_kchk 0] 25 rfl (by decide +kernel) ?_
  show zq_G _ _ _ _ _ 25 ([(0, .ref 14), (1, .int (nI P))], [.int 0], XH tx n t (nI P, nI C, nI R, nI L, hs, ss, cs, gs, vs) (nI Z, nI (tkE bt Z a), lt, nI (tkS bt Z a), nI (tkK bt Z a), nxV bt Z rv a) w i0 i1 kp dd tr m)
  exact zq_zret (by decide +kernel) rfl (Or.inl rfl) rfl rfl
set_option maxHeartbeats 4000000 in
set_option maxRecDepth 100000 in
theorem rp_n2  (hZ : Z ≤ 200) (hbt : ∀ j, j < Z → tx j = nI (bt j) ∧ bt j ≤ 255) (ha : a ≤ Z) (hP : P < 6) (hkA : tkK bt Z a = 2) (hlA : 1 ≤ tkV bt Z a) (hhA : tkV bt Z a ≤ 9) (hkB : ¬ (tkK bt Z (tkE bt Z a) = 2 ∧ 0 ≤ tkV bt Z (tkE bt Z a) ∧ tkV bt Z (tkE bt Z a) ≤ 25)) : zq_P l mX8_readPerson 4 [.ref 14] (XH tx n t (nI P, nI C, nI R, nI L, hs, ss, cs, gs, vs) (nI Z, nI a, lt, rs, rt, rv) w i0 i1 kp dd tr m) (some (.int 0)) (XH tx n t (nI P, nI C, nI R, nI L, upd hs P (nI (tkV bt Z a)), ss, cs, gs, vs) (nI Z, nI (tkE bt Z (tkE bt Z a)), lt, nI (tkS bt Z (tkE bt Z a)), nI (tkK bt Z (tkE bt Z a)), nxV bt Z (nI (tkV bt Z a)) (tkE bt Z a)) w i0 i1 kp dd tr m) := by
  refine zq_start (by decide +kernel) rfl (Nat.le_of_ble_eq_true rfl) ?_
  show zq_G _ _ _ _ _ 0 ([(0, .ref 14)], [], XH tx n t (nI P, nI C, nI R, nI L, hs, ss, cs, gs, vs) (nI Z, nI a, lt, rs, rt, rv) w i0 i1 kp dd tr m)
  have hE1 := tkE_max (bt := bt) ha
  have hE2 := tkE_max (bt := bt) hE1
  have hE3 := tkE_max (bt := bt) hE2
  refine zq_b [zq_al 0, zq_get 8 1, zq_get 9 0, zq_is1 1, zq_il 1, zq_k 6] [zq_alchk 0, zq_getchk 8 1, zq_getchk 9 0, zq_is1chk 1, zq_ilchk 1, zq_kchk 6] 11 rfl (by decide +kernel) ?_
  show zq_G _ _ _ _ _ 11 ([(0, .ref 14), (1, .int (nI P))], [.int 6, .int (nI P)], XH tx n t (nI P, nI C, nI R, nI L, hs, ss, cs, gs, vs) (nI Z, nI a, lt, rs, rt, rv) w i0 i1 kp dd tr m)
  refine zq_if .ge 24 (6 ≤ P) (by decide +kernel) (zq_cge (a := P) (b := 6) (by omega) (by omega)) (fun c11 => absurd c11 (by omega)) (fun c11 => ?_)
  show zq_G _ _ _ _ _ 14 ([(0, .ref 14), (1, .int (nI P))], [], XH tx n t (nI P, nI C, nI R, nI L, hs, ss, cs, gs, vs) (nI Z, nI a, lt, rs, rt, rv) w i0 i1 kp dd tr m)
  refine zq_b [zq_al 0, zq_k 1, zq_k 9] [zq_alchk 0, zq_kchk 1, zq_kchk 9] 18 rfl (by decide +kernel) ?_
  show zq_G _ _ _ _ _ 18 ([(0, .ref 14), (1, .int (nI P))], [.int 9, .int 1, .ref 14], XH tx n t (nI P, nI C, nI R, nI L, hs, ss, cs, gs, vs) (nI Z, nI a, lt, rs, rt, rv) w i0 i1 kp dd tr m)
  refine zq_callV (av := [.int 1, .int 9]) (rest := []) (by decide +kernel) k8_72 (c_num_t (lo := 1) (hi := 9) hZ hbt (by omega) hkA hlA hhA (by decide)) rfl rfl rfl rfl ?_
  show zq_G _ _ _ _ _ 21 ([(0, .ref 14), (1, .int (nI P))], [.int 1], XH tx n t (nI P, nI C, nI R, nI L, hs, ss, cs, gs, vs) (nI Z, nI (tkE bt Z a), lt, nI (tkS bt Z a), 2, nI (tkV bt Z a)) w i0 i1 kp dd tr m)
  refine zq_ifz .ne 26 (¬ 1 = 0) (by decide +kernel) (zq_cne (a := 1) (b := 0) (by omega) (by omega)) (fun c21 => ?_) (fun c21 => absurd (by decide) c21)
  show zq_G _ _ _ _ _ 26 ([(0, .ref 14), (1, .int (nI P))], [], XH tx n t (nI P, nI C, nI R, nI L, hs, ss, cs, gs, vs) (nI Z, nI (tkE bt Z a), lt, nI (tkS bt Z a), 2, nI (tkV bt Z a)) w i0 i1 kp dd tr m)
  refine zq_b [zq_al 0, zq_get 8 1, zq_get 9 4, zq_il 1, zq_al 0, zq_get 8 7, zq_iast P, zq_al 0, zq_k 0, zq_k 25] [zq_alchk 0, zq_getchk 8 1, zq_getchk 9 4, zq_ilchk 1, zq_alchk 0, zq_getchk 8 7, zq_is .iastore 1, zq_alchk 0, zq_kchk 0, zq_kchk 25] 43 rfl (by decide +kernel) ?_
  refine ⟨rfl, (by omega), (by omega), ?_⟩
  show zq_G _ _ _ _ _ 43 ([(0, .ref 14), (1, .int (nI P))], [.int 25, .int 0, .ref 14], XH tx n t (nI P, nI C, nI R, nI L, upd hs P (nI (tkV bt Z a)), ss, cs, gs, vs) (nI Z, nI (tkE bt Z a), lt, nI (tkS bt Z a), 2, nI (tkV bt Z a)) w i0 i1 kp dd tr m)
  refine zq_callV (av := [.int 0, .int 25]) (rest := []) (by decide +kernel) k8_72 (c_num_f (lo := 0) (hi := 25) hZ hbt (by omega) hkB (by decide)) rfl rfl rfl rfl ?_
  show zq_G _ _ _ _ _ 46 ([(0, .ref 14), (1, .int (nI P))], [.int 0], XH tx n t (nI P, nI C, nI R, nI L, upd hs P (nI (tkV bt Z a)), ss, cs, gs, vs) (nI Z, nI (tkE bt Z (tkE bt Z a)), lt, nI (tkS bt Z (tkE bt Z a)), nI (tkK bt Z (tkE bt Z a)), nxV bt Z (nI (tkV bt Z a)) (tkE bt Z a)) w i0 i1 kp dd tr m)
  refine zq_ifz .ne 51 (¬ 0 = 0) (by decide +kernel) (zq_cne (a := 0) (b := 0) (by omega) (by omega)) (fun c46 => absurd c46 (fun q => q rfl)) (fun c46 => ?_)
  show zq_G _ _ _ _ _ 49 ([(0, .ref 14), (1, .int (nI P))], [], XH tx n t (nI P, nI C, nI R, nI L, upd hs P (nI (tkV bt Z a)), ss, cs, gs, vs) (nI Z, nI (tkE bt Z (tkE bt Z a)), lt, nI (tkS bt Z (tkE bt Z a)), nI (tkK bt Z (tkE bt Z a)), nxV bt Z (nI (tkV bt Z a)) (tkE bt Z a)) w i0 i1 kp dd tr m)
  refine zq_b [zq_k 0] [zq_kchk 0] 50 rfl (by decide +kernel) ?_
  show zq_G _ _ _ _ _ 50 ([(0, .ref 14), (1, .int (nI P))], [.int 0], XH tx n t (nI P, nI C, nI R, nI L, upd hs P (nI (tkV bt Z a)), ss, cs, gs, vs) (nI Z, nI (tkE bt Z (tkE bt Z a)), lt, nI (tkS bt Z (tkE bt Z a)), nI (tkK bt Z (tkE bt Z a)), nxV bt Z (nI (tkV bt Z a)) (tkE bt Z a)) w i0 i1 kp dd tr m)
  exact zq_zret (by decide +kernel) rfl (Or.inl rfl) rfl rfl
set_option maxHeartbeats 4000000 in
set_option maxRecDepth 100000 in
theorem rp_go  (hZ : Z ≤ 200) (hbt : ∀ j, j < Z → tx j = nI (bt j) ∧ bt j ≤ 255) (ha : a ≤ Z) (hP : P < 6) (hkA : tkK bt Z a = 2) (hlA : 1 ≤ tkV bt Z a) (hhA : tkV bt Z a ≤ 9) (hkB : tkK bt Z (tkE bt Z a) = 2) (hlB : 0 ≤ tkV bt Z (tkE bt Z a)) (hhB : tkV bt Z (tkE bt Z a) ≤ 25) : zq_P l mX8_readPerson 4 [.ref 14] (XH tx n t (nI P, nI C, nI R, nI L, hs, ss, cs, gs, vs) (nI Z, nI a, lt, rs, rt, rv) w i0 i1 kp dd tr m) (some (.int (zb (tkK bt Z (tkE bt Z (tkE bt Z a)) = 3)))) (XH tx n t (nI (P + 1), nI C, nI R, nI L, upd hs P (nI (tkV bt Z a)), upd ss P (nI (tkV bt Z (tkE bt Z a))), cs, gs, vs) (nI Z, nI (tkE bt Z (tkE bt Z (tkE bt Z a))), lt, nI (tkS bt Z (tkE bt Z (tkE bt Z a))), nI (tkK bt Z (tkE bt Z (tkE bt Z a))), nxV bt Z (nI (tkV bt Z (tkE bt Z a))) (tkE bt Z (tkE bt Z a))) w i0 i1 kp dd tr m) := by
  refine zq_start (by decide +kernel) rfl (Nat.le_of_ble_eq_true rfl) ?_
  show zq_G _ _ _ _ _ 0 ([(0, .ref 14)], [], XH tx n t (nI P, nI C, nI R, nI L, hs, ss, cs, gs, vs) (nI Z, nI a, lt, rs, rt, rv) w i0 i1 kp dd tr m)
  have hE1 := tkE_max (bt := bt) ha
  have hE2 := tkE_max (bt := bt) hE1
  have hE3 := tkE_max (bt := bt) hE2
  refine zq_b [zq_al 0, zq_get 8 1, zq_get 9 0, zq_is1 1, zq_il 1, zq_k 6] [zq_alchk 0, zq_getchk 8 1, zq_getchk 9 0, zq_is1chk 1, zq_ilchk 1, zq_kchk 6] 11 rfl (by decide +kernel) ?_
  show zq_G _ _ _ _ _ 11 ([(0, .ref 14), (1, .int (nI P))], [.int 6, .int (nI P)], XH tx n t (nI P, nI C, nI R, nI L, hs, ss, cs, gs, vs) (nI Z, nI a, lt, rs, rt, rv) w i0 i1 kp dd tr m)
  refine zq_if .ge 24 (6 ≤ P) (by decide +kernel) (zq_cge (a := P) (b := 6) (by omega) (by omega)) (fun c11 => absurd c11 (by omega)) (fun c11 => ?_)
  show zq_G _ _ _ _ _ 14 ([(0, .ref 14), (1, .int (nI P))], [], XH tx n t (nI P, nI C, nI R, nI L, hs, ss, cs, gs, vs) (nI Z, nI a, lt, rs, rt, rv) w i0 i1 kp dd tr m)
  refine zq_b [zq_al 0, zq_k 1, zq_k 9] [zq_alchk 0, zq_kchk 1, zq_kchk 9] 18 rfl (by decide +kernel) ?_
  show zq_G _ _ _ _ _ 18 ([(0, .ref 14), (1, .int (nI P))], [.int 9, .int 1, .ref 14], XH tx n t (nI P, nI C, nI R, nI L, hs, ss, cs, gs, vs) (nI Z, nI a, lt, rs, rt, rv) w i0 i1 kp dd tr m)
  refine zq_callV (av := [.int 1, .int 9]) (rest := []) (by decide +kernel) k8_72 (c_num_t (lo := 1) (hi := 9) hZ hbt (by omega) hkA hlA hhA (by decide)) rfl rfl rfl rfl ?_
  show zq_G _ _ _ _ _ 21 ([(0, .ref 14), (1, .int (nI P))], [.int 1], XH tx n t (nI P, nI C, nI R, nI L, hs, ss, cs, gs, vs) (nI Z, nI (tkE bt Z a), lt, nI (tkS bt Z a), 2, nI (tkV bt Z a)) w i0 i1 kp dd tr m)
  refine zq_ifz .ne 26 (¬ 1 = 0) (by decide +kernel) (zq_cne (a := 1) (b := 0) (by omega) (by omega)) (fun c21 => ?_) (fun c21 => absurd (by decide) c21)
  show zq_G _ _ _ _ _ 26 ([(0, .ref 14), (1, .int (nI P))], [], XH tx n t (nI P, nI C, nI R, nI L, hs, ss, cs, gs, vs) (nI Z, nI (tkE bt Z a), lt, nI (tkS bt Z a), 2, nI (tkV bt Z a)) w i0 i1 kp dd tr m)
  refine zq_b [zq_al 0, zq_get 8 1, zq_get 9 4, zq_il 1, zq_al 0, zq_get 8 7, zq_iast P, zq_al 0, zq_k 0, zq_k 25] [zq_alchk 0, zq_getchk 8 1, zq_getchk 9 4, zq_ilchk 1, zq_alchk 0, zq_getchk 8 7, zq_is .iastore 1, zq_alchk 0, zq_kchk 0, zq_kchk 25] 43 rfl (by decide +kernel) ?_
  refine ⟨rfl, (by omega), (by omega), ?_⟩
  show zq_G _ _ _ _ _ 43 ([(0, .ref 14), (1, .int (nI P))], [.int 25, .int 0, .ref 14], XH tx n t (nI P, nI C, nI R, nI L, upd hs P (nI (tkV bt Z a)), ss, cs, gs, vs) (nI Z, nI (tkE bt Z a), lt, nI (tkS bt Z a), 2, nI (tkV bt Z a)) w i0 i1 kp dd tr m)
  refine zq_callV (av := [.int 0, .int 25]) (rest := []) (by decide +kernel) k8_72 (c_num_t (lo := 0) (hi := 25) hZ hbt (by omega) hkB hlB hhB (by decide)) rfl rfl rfl rfl ?_
  show zq_G _ _ _ _ _ 46 ([(0, .ref 14), (1, .int (nI P))], [.int 1], XH tx n t (nI P, nI C, nI R, nI L, upd hs P (nI (tkV bt Z a)), ss, cs, gs, vs) (nI Z, nI (tkE bt Z (tkE bt Z a)), lt, nI (tkS bt Z (tkE bt Z a)), 2, nI (tkV bt Z (tkE bt Z a))) w i0 i1 kp dd tr m)
  refine zq_ifz .ne 51 (¬ 1 = 0) (by decide +kernel) (zq_cne (a := 1) (b := 0) (by omega) (by omega)) (fun c46 => ?_) (fun c46 => absurd (by decide) c46)
  show zq_G _ _ _ _ _ 51 ([(0, .ref 14), (1, .int (nI P))], [], XH tx n t (nI P, nI C, nI R, nI L, upd hs P (nI (tkV bt Z a)), ss, cs, gs, vs) (nI Z, nI (tkE bt Z (tkE bt Z a)), lt, nI (tkS bt Z (tkE bt Z a)), 2, nI (tkV bt Z (tkE bt Z a))) w i0 i1 kp dd tr m)
  refine zq_b [zq_al 0, zq_get 8 1, zq_get 9 5, zq_il 1, zq_al 0, zq_get 8 7, zq_iast P, zq_al 0, zq_get 8 1, zq_dup, zq_get 9 0, zq_k 1, zq_iadd (nI (P + 1)), zq_puti 9 0, zq_al 0] [zq_alchk 0, zq_getchk 8 1, zq_getchk 9 5, zq_ilchk 1, zq_alchk 0, zq_getchk 8 7, zq_is .iastore 1, zq_alchk 0, zq_getchk 8 1, zq_is .dup 1, zq_getchk 9 0, zq_kchk 1, zq_is .iadd 1, zq_putchk 9 0 .int, zq_alchk 0] 78 rfl (by decide +kernel) ?_
  refine ⟨rfl, (by omega), (by omega), (nI_add P 1), ?_⟩
  show zq_G _ _ _ _ _ 78 ([(0, .ref 14), (1, .int (nI P))], [.ref 14], XH tx n t (nI (P + 1), nI C, nI R, nI L, upd hs P (nI (tkV bt Z a)), upd ss P (nI (tkV bt Z (tkE bt Z a))), cs, gs, vs) (nI Z, nI (tkE bt Z (tkE bt Z a)), lt, nI (tkS bt Z (tkE bt Z a)), 2, nI (tkV bt Z (tkE bt Z a))) w i0 i1 kp dd tr m)
  refine zq_callV (av := []) (rest := []) (by decide +kernel) k8_82 (c_stop hZ hbt (by omega)) rfl rfl rfl rfl ?_
  show zq_G _ _ _ _ _ 81 ([(0, .ref 14), (1, .int (nI P))], [.int (zb (tkK bt Z (tkE bt Z (tkE bt Z a)) = 3))], XH tx n t (nI (P + 1), nI C, nI R, nI L, upd hs P (nI (tkV bt Z a)), upd ss P (nI (tkV bt Z (tkE bt Z a))), cs, gs, vs) (nI Z, nI (tkE bt Z (tkE bt Z (tkE bt Z a))), lt, nI (tkS bt Z (tkE bt Z (tkE bt Z a))), nI (tkK bt Z (tkE bt Z (tkE bt Z a))), nxV bt Z (nI (tkV bt Z (tkE bt Z a))) (tkE bt Z (tkE bt Z a))) w i0 i1 kp dd tr m)
  exact zq_zret (by decide +kernel) rfl (zb_01 _) rfl rfl
set_option maxHeartbeats 4000000 in
set_option maxRecDepth 100000 in
theorem rl_told  (hZ : Z ≤ 200) (hbt : ∀ j, j < Z → tx j = nI (bt j) ∧ bt j ≤ 255) (ha : a ≤ Z) : zq_P l mX8_readLate 4 [.ref 14] (XH tx n t (nI P, nI C, nI R, nI L, hs, ss, cs, gs, vs) (nI Z, nI a, 1, rs, rt, rv) w i0 i1 kp dd tr m) (some (.int 0)) (XH tx n t (nI P, nI C, nI R, nI L, hs, ss, cs, gs, vs) (nI Z, nI a, 1, rs, rt, rv) w i0 i1 kp dd tr m) := by
  refine zq_start (by decide +kernel) rfl (Nat.le_of_ble_eq_true rfl) ?_
  show zq_G _ _ _ _ _ 0 ([(0, .ref 14)], [], XH tx n t (nI P, nI C, nI R, nI L, hs, ss, cs, gs, vs) (nI Z, nI a, 1, rs, rt, rv) w i0 i1 kp dd tr m)
  refine zq_b [zq_al 0, zq_get 8 4] [zq_alchk 0, zq_getchk 8 4] 4 rfl (by decide +kernel) ?_
  show zq_G _ _ _ _ _ 4 ([(0, .ref 14)], [.int 1], XH tx n t (nI P, nI C, nI R, nI L, hs, ss, cs, gs, vs) (nI Z, nI a, 1, rs, rt, rv) w i0 i1 kp dd tr m)
  refine zq_ifz .ne 17 (¬ 1 = 0) (by decide +kernel) (zq_cne (a := 1) (b := 0) (by omega) (by omega)) (fun c4 => ?_) (fun c4 => absurd (by decide) c4)
  show zq_G _ _ _ _ _ 17 ([(0, .ref 14)], [], XH tx n t (nI P, nI C, nI R, nI L, hs, ss, cs, gs, vs) (nI Z, nI a, 1, rs, rt, rv) w i0 i1 kp dd tr m)
  refine zq_b [zq_k 0] [zq_kchk 0] 18 rfl (by decide +kernel) ?_
  show zq_G _ _ _ _ _ 18 ([(0, .ref 14)], [.int 0], XH tx n t (nI P, nI C, nI R, nI L, hs, ss, cs, gs, vs) (nI Z, nI a, 1, rs, rt, rv) w i0 i1 kp dd tr m)
  exact zq_zret (by decide +kernel) rfl (Or.inl rfl) rfl rfl
set_option maxHeartbeats 4000000 in
set_option maxRecDepth 100000 in
theorem rl_n  (hZ : Z ≤ 200) (hbt : ∀ j, j < Z → tx j = nI (bt j) ∧ bt j ≤ 255) (ha : a ≤ Z) (hkA : ¬ (tkK bt Z a = 2 ∧ 1 ≤ tkV bt Z a ∧ tkV bt Z a ≤ 30)) : zq_P l mX8_readLate 4 [.ref 14] (XH tx n t (nI P, nI C, nI R, nI L, hs, ss, cs, gs, vs) (nI Z, nI a, 0, rs, rt, rv) w i0 i1 kp dd tr m) (some (.int 0)) (XH tx n t (nI P, nI C, nI R, nI L, hs, ss, cs, gs, vs) (nI Z, nI (tkE bt Z a), 0, nI (tkS bt Z a), nI (tkK bt Z a), nxV bt Z rv a) w i0 i1 kp dd tr m) := by
  refine zq_start (by decide +kernel) rfl (Nat.le_of_ble_eq_true rfl) ?_
  show zq_G _ _ _ _ _ 0 ([(0, .ref 14)], [], XH tx n t (nI P, nI C, nI R, nI L, hs, ss, cs, gs, vs) (nI Z, nI a, 0, rs, rt, rv) w i0 i1 kp dd tr m)
  have hE1 := tkE_max (bt := bt) ha
  have hE2 := tkE_max (bt := bt) hE1
  have hE3 := tkE_max (bt := bt) hE2
  refine zq_b [zq_al 0, zq_get 8 4] [zq_alchk 0, zq_getchk 8 4] 4 rfl (by decide +kernel) ?_
  show zq_G _ _ _ _ _ 4 ([(0, .ref 14)], [.int 0], XH tx n t (nI P, nI C, nI R, nI L, hs, ss, cs, gs, vs) (nI Z, nI a, 0, rs, rt, rv) w i0 i1 kp dd tr m)
  refine zq_ifz .ne 17 (¬ 0 = 0) (by decide +kernel) (zq_cne (a := 0) (b := 0) (by omega) (by omega)) (fun c4 => absurd c4 (fun q => q rfl)) (fun c4 => ?_)
  show zq_G _ _ _ _ _ 7 ([(0, .ref 14)], [], XH tx n t (nI P, nI C, nI R, nI L, hs, ss, cs, gs, vs) (nI Z, nI a, 0, rs, rt, rv) w i0 i1 kp dd tr m)
  refine zq_b [zq_al 0, zq_k 1, zq_k 30] [zq_alchk 0, zq_kchk 1, zq_kchk 30] 11 rfl (by decide +kernel) ?_
  show zq_G _ _ _ _ _ 11 ([(0, .ref 14)], [.int 30, .int 1, .ref 14], XH tx n t (nI P, nI C, nI R, nI L, hs, ss, cs, gs, vs) (nI Z, nI a, 0, rs, rt, rv) w i0 i1 kp dd tr m)
  refine zq_callV (av := [.int 1, .int 30]) (rest := []) (by decide +kernel) k8_72 (c_num_f (lo := 1) (hi := 30) hZ hbt (by omega) hkA (by decide)) rfl rfl rfl rfl ?_
  show zq_G _ _ _ _ _ 14 ([(0, .ref 14)], [.int 0], XH tx n t (nI P, nI C, nI R, nI L, hs, ss, cs, gs, vs) (nI Z, nI (tkE bt Z a), 0, nI (tkS bt Z a), nI (tkK bt Z a), nxV bt Z rv a) w i0 i1 kp dd tr m)
  refine zq_ifz .ne 19 (¬ 0 = 0) (by decide +kernel) (zq_cne (a := 0) (b := 0) (by omega) (by omega)) (fun c14 => absurd c14 (fun q => q rfl)) (fun c14 => ?_)
  show zq_G _ _ _ _ _ 17 ([(0, .ref 14)], [], XH tx n t (nI P, nI C, nI R, nI L, hs, ss, cs, gs, vs) (nI Z, nI (tkE bt Z a), 0, nI (tkS bt Z a), nI (tkK bt Z a), nxV bt Z rv a) w i0 i1 kp dd tr m)
  refine zq_b [zq_k 0] [zq_kchk 0] 18 rfl (by decide +kernel) ?_
  show zq_G _ _ _ _ _ 18 ([(0, .ref 14)], [.int 0], XH tx n t (nI P, nI C, nI R, nI L, hs, ss, cs, gs, vs) (nI Z, nI (tkE bt Z a), 0, nI (tkS bt Z a), nI (tkK bt Z a), nxV bt Z rv a) w i0 i1 kp dd tr m)
  exact zq_zret (by decide +kernel) rfl (Or.inl rfl) rfl rfl
set_option maxHeartbeats 4000000 in
set_option maxRecDepth 100000 in
theorem rl_go  (hZ : Z ≤ 200) (hbt : ∀ j, j < Z → tx j = nI (bt j) ∧ bt j ≤ 255) (ha : a ≤ Z) (hkA : tkK bt Z a = 2) (hlA : 1 ≤ tkV bt Z a) (hhA : tkV bt Z a ≤ 30) : zq_P l mX8_readLate 4 [.ref 14] (XH tx n t (nI P, nI C, nI R, nI L, hs, ss, cs, gs, vs) (nI Z, nI a, 0, rs, rt, rv) w i0 i1 kp dd tr m) (some (.int (zb (tkK bt Z (tkE bt Z a) = 3)))) (XH tx n t (nI P, nI C, nI R, nI (tkV bt Z a), hs, ss, cs, gs, vs) (nI Z, nI (tkE bt Z (tkE bt Z a)), 1, nI (tkS bt Z (tkE bt Z a)), nI (tkK bt Z (tkE bt Z a)), nxV bt Z (nI (tkV bt Z a)) (tkE bt Z a)) w i0 i1 kp dd tr m) := by
  refine zq_start (by decide +kernel) rfl (Nat.le_of_ble_eq_true rfl) ?_
  show zq_G _ _ _ _ _ 0 ([(0, .ref 14)], [], XH tx n t (nI P, nI C, nI R, nI L, hs, ss, cs, gs, vs) (nI Z, nI a, 0, rs, rt, rv) w i0 i1 kp dd tr m)
  have hE1 := tkE_max (bt := bt) ha
  have hE2 := tkE_max (bt := bt) hE1
  have hE3 := tkE_max (bt := bt) hE2
  refine zq_b [zq_al 0, zq_get 8 4] [zq_alchk 0, zq_getchk 8 4] 4 rfl (by decide +kernel) ?_
  show zq_G _ _ _ _ _ 4 ([(0, .ref 14)], [.int 0], XH tx n t (nI P, nI C, nI R, nI L, hs, ss, cs, gs, vs) (nI Z, nI a, 0, rs, rt, rv) w i0 i1 kp dd tr m)
  refine zq_ifz .ne 17 (¬ 0 = 0) (by decide +kernel) (zq_cne (a := 0) (b := 0) (by omega) (by omega)) (fun c4 => absurd c4 (fun q => q rfl)) (fun c4 => ?_)
  show zq_G _ _ _ _ _ 7 ([(0, .ref 14)], [], XH tx n t (nI P, nI C, nI R, nI L, hs, ss, cs, gs, vs) (nI Z, nI a, 0, rs, rt, rv) w i0 i1 kp dd tr m)
  refine zq_b [zq_al 0, zq_k 1, zq_k 30] [zq_alchk 0, zq_kchk 1, zq_kchk 30] 11 rfl (by decide +kernel) ?_
  show zq_G _ _ _ _ _ 11 ([(0, .ref 14)], [.int 30, .int 1, .ref 14], XH tx n t (nI P, nI C, nI R, nI L, hs, ss, cs, gs, vs) (nI Z, nI a, 0, rs, rt, rv) w i0 i1 kp dd tr m)
  refine zq_callV (av := [.int 1, .int 30]) (rest := []) (by decide +kernel) k8_72 (c_num_t (lo := 1) (hi := 30) hZ hbt (by omega) hkA hlA hhA (by decide)) rfl rfl rfl rfl ?_
  show zq_G _ _ _ _ _ 14 ([(0, .ref 14)], [.int 1], XH tx n t (nI P, nI C, nI R, nI L, hs, ss, cs, gs, vs) (nI Z, nI (tkE bt Z a), 0, nI (tkS bt Z a), 2, nI (tkV bt Z a)) w i0 i1 kp dd tr m)
  refine zq_ifz .ne 19 (¬ 1 = 0) (by decide +kernel) (zq_cne (a := 1) (b := 0) (by omega) (by omega)) (fun c14 => ?_) (fun c14 => absurd (by decide) c14)
  show zq_G _ _ _ _ _ 19 ([(0, .ref 14)], [], XH tx n t (nI P, nI C, nI R, nI L, hs, ss, cs, gs, vs) (nI Z, nI (tkE bt Z a), 0, nI (tkS bt Z a), 2, nI (tkV bt Z a)) w i0 i1 kp dd tr m)
  refine zq_b [zq_al 0, zq_k 1, zq_putz 8 4, zq_al 0, zq_get 8 1, zq_al 0, zq_get 8 7, zq_puti 9 3, zq_al 0] [zq_alchk 0, zq_kchk 1, zq_putchk 8 4 .boolean, zq_alchk 0, zq_getchk 8 1, zq_alchk 0, zq_getchk 8 7, zq_putchk 9 3 .int, zq_alchk 0] 36 rfl (by decide +kernel) ?_
  refine ⟨(Or.inr rfl), ?_⟩
  show zq_G _ _ _ _ _ 36 ([(0, .ref 14)], [.ref 14], XH tx n t (nI P, nI C, nI R, nI (tkV bt Z a), hs, ss, cs, gs, vs) (nI Z, nI (tkE bt Z a), 1, nI (tkS bt Z a), 2, nI (tkV bt Z a)) w i0 i1 kp dd tr m)
  refine zq_callV (av := []) (rest := []) (by decide +kernel) k8_82 (c_stop hZ hbt (by omega)) rfl rfl rfl rfl ?_
  show zq_G _ _ _ _ _ 39 ([(0, .ref 14)], [.int (zb (tkK bt Z (tkE bt Z a) = 3))], XH tx n t (nI P, nI C, nI R, nI (tkV bt Z a), hs, ss, cs, gs, vs) (nI Z, nI (tkE bt Z (tkE bt Z a)), 1, nI (tkS bt Z (tkE bt Z a)), nI (tkK bt Z (tkE bt Z a)), nxV bt Z (nI (tkV bt Z a)) (tkE bt Z a)) w i0 i1 kp dd tr m)
  exact zq_zret (by decide +kernel) rfl (zb_01 _) rfl rfl
set_option maxHeartbeats 4000000 in
set_option maxRecDepth 100000 in
theorem c_hasCloud_d {day : Int32} (hC : C ≤ 8) : zq_P l mX9_hasCloud 0 [.ref 8, .int day] (XH tx n t (nI P, nI C, nI R, nI L, hs, ss, cs, gs, vs) (nI Z, nI a, lt, rs, rt, rv) w i0 i1 kp dd tr m) (some (.int (zb (zany (fun i => decide (cs i = day)) C = true)))) (XH tx n t (nI P, nI C, nI R, nI L, hs, ss, cs, gs, vs) (nI Z, nI a, lt, rs, rt, rv) w i0 i1 kp dd tr m) := by
  refine zq_start (by decide +kernel) rfl (Nat.le_of_ble_eq_true rfl) ?_
  show zq_G _ _ _ _ _ 0 ([(0, .ref 8), (1, .int day)], [], XH tx n t (nI P, nI C, nI R, nI L, hs, ss, cs, gs, vs) (nI Z, nI a, lt, rs, rt, rv) w i0 i1 kp dd tr m)
  refine zq_b [zq_k 0, zq_is1 2] [zq_kchk 0, zq_is1chk 2] 2 rfl (by decide +kernel) ?_
  show zq_G _ _ _ _ _ 2 ([(0, .ref 8), (1, .int day), (2, .int 0)], [], XH tx n t (nI P, nI C, nI R, nI L, hs, ss, cs, gs, vs) (nI Z, nI a, lt, rs, rt, rv) w i0 i1 kp dd tr m)
  refine zq_loop (fun i => ([(0, .ref 8), (1, .int day), (2, .int (nI i))], [], XH tx n t (nI P, nI C, nI R, nI L, hs, ss, cs, gs, vs) (nI Z, nI a, lt, rs, rt, rv) w i0 i1 kp dd tr m)) (fun i => ∀ j, j < i → decide (cs j = day) = false) (C) (0) (by omega) ((fun j hj => absurd hj (by omega))) (fun i hl2 hi2 hI2 ih2 => ?_) (fun hI2 => ?_)
  · show zq_G _ _ _ _ _ 2 ([(0, .ref 8), (1, .int day), (2, .int (nI i))], [], XH tx n t (nI P, nI C, nI R, nI L, hs, ss, cs, gs, vs) (nI Z, nI a, lt, rs, rt, rv) w i0 i1 kp dd tr m)
    refine zq_b [zq_il 2, zq_al 0, zq_get 9 1] [zq_ilchk 2, zq_alchk 0, zq_getchk 9 1] 7 rfl (by decide +kernel) ?_
    show zq_G _ _ _ _ _ 7 ([(0, .ref 8), (1, .int day), (2, .int (nI i))], [.int (nI C), .int (nI i)], XH tx n t (nI P, nI C, nI R, nI L, hs, ss, cs, gs, vs) (nI Z, nI a, lt, rs, rt, rv) w i0 i1 kp dd tr m)
    refine zq_if .ge 28 (C ≤ i) (by decide +kernel) (zq_cge (a := i) (b := C) (by omega) (by omega)) (fun c7 => absurd c7 (by omega)) (fun c7 => ?_)
    show zq_G _ _ _ _ _ 10 ([(0, .ref 8), (1, .int day), (2, .int (nI i))], [], XH tx n t (nI P, nI C, nI R, nI L, hs, ss, cs, gs, vs) (nI Z, nI a, lt, rs, rt, rv) w i0 i1 kp dd tr m)
    refine zq_b [zq_al 0, zq_get 9 6, zq_il 2, zq_iald i (cs i), zq_il 1] [zq_alchk 0, zq_getchk 9 6, zq_ilchk 2, zq_is .iaload 1, zq_ilchk 1] 17 rfl (by decide +kernel) ?_
    refine ⟨rfl, (by omega), (by omega), rfl, ?_⟩
    show zq_G _ _ _ _ _ 17 ([(0, .ref 8), (1, .int day), (2, .int (nI i))], [.int day, .int (cs i)], XH tx n t (nI P, nI C, nI R, nI L, hs, ss, cs, gs, vs) (nI Z, nI a, lt, rs, rt, rv) w i0 i1 kp dd tr m)
    refine zq_if .ne 22 (¬ (cs i) = day) (by decide +kernel) (Iff.rfl) (fun c17 => ?_) (fun c17 => ?_)
    · show zq_G _ _ _ _ _ 22 ([(0, .ref 8), (1, .int day), (2, .int (nI i))], [], XH tx n t (nI P, nI C, nI R, nI L, hs, ss, cs, gs, vs) (nI Z, nI a, lt, rs, rt, rv) w i0 i1 kp dd tr m)
      refine zq_b [zq_inc 2 1 (nI (i + 1)), zq_go] [zq_incchk 2 1, zq_gochk] 2 rfl (by decide +kernel) ?_
      refine ⟨nI_add i 1, ?_⟩
      show zq_G _ _ _ _ _ 2 ([(0, .ref 8), (1, .int day), (2, .int (nI (i + 1)))], [], XH tx n t (nI P, nI C, nI R, nI L, hs, ss, cs, gs, vs) (nI Z, nI a, lt, rs, rt, rv) w i0 i1 kp dd tr m)
      exact ih2 (lt_ext hI2 (decide_eq_false c17))
    · show zq_G _ _ _ _ _ 20 ([(0, .ref 8), (1, .int day), (2, .int (nI i))], [], XH tx n t (nI P, nI C, nI R, nI L, hs, ss, cs, gs, vs) (nI Z, nI a, lt, rs, rt, rv) w i0 i1 kp dd tr m)
      refine zq_b [zq_k 1] [zq_kchk 1] 21 rfl (by decide +kernel) ?_
      show zq_G _ _ _ _ _ 21 ([(0, .ref 8), (1, .int day), (2, .int (nI i))], [.int 1], XH tx n t (nI P, nI C, nI R, nI L, hs, ss, cs, gs, vs) (nI Z, nI a, lt, rs, rt, rv) w i0 i1 kp dd tr m)
      exact zq_zret (by decide +kernel) rfl (Or.inr rfl) (zb_r (zb_t (zany_i hi2 (by simpa using c17)))) rfl
  · show zq_G _ _ _ _ _ 2 ([(0, .ref 8), (1, .int day), (2, .int (nI C))], [], XH tx n t (nI P, nI C, nI R, nI L, hs, ss, cs, gs, vs) (nI Z, nI a, lt, rs, rt, rv) w i0 i1 kp dd tr m)
    refine zq_b [zq_il 2, zq_al 0, zq_get 9 1] [zq_ilchk 2, zq_alchk 0, zq_getchk 9 1] 7 rfl (by decide +kernel) ?_
    show zq_G _ _ _ _ _ 7 ([(0, .ref 8), (1, .int day), (2, .int (nI C))], [.int (nI C), .int (nI C)], XH tx n t (nI P, nI C, nI R, nI L, hs, ss, cs, gs, vs) (nI Z, nI a, lt, rs, rt, rv) w i0 i1 kp dd tr m)
    refine zq_if .ge 28 (C ≤ C) (by decide +kernel) (zq_cge (a := C) (b := C) (by omega) (by omega)) (fun c7 => ?_) (fun c7 => absurd (by omega) c7)
    show zq_G _ _ _ _ _ 28 ([(0, .ref 8), (1, .int day), (2, .int (nI C))], [], XH tx n t (nI P, nI C, nI R, nI L, hs, ss, cs, gs, vs) (nI Z, nI a, lt, rs, rt, rv) w i0 i1 kp dd tr m)
    refine zq_b [zq_k 0] [zq_kchk 0] 29 rfl (by decide +kernel) ?_
    show zq_G _ _ _ _ _ 29 ([(0, .ref 8), (1, .int day), (2, .int (nI C))], [.int 0], XH tx n t (nI P, nI C, nI R, nI L, hs, ss, cs, gs, vs) (nI Z, nI a, lt, rs, rt, rv) w i0 i1 kp dd tr m)
    exact zq_zret (by decide +kernel) rfl (Or.inl rfl) (zb_r (zb_f (by rw [zany_f hI2]; exact Bool.false_ne_true))) rfl
set_option maxHeartbeats 4000000 in
set_option maxRecDepth 100000 in
theorem rc_full  (hZ : Z ≤ 200) (hbt : ∀ j, j < Z → tx j = nI (bt j) ∧ bt j ≤ 255) (ha : a ≤ Z) (hC : C = 8) : zq_P l mX8_readCloud 4 [.ref 14] (XH tx n t (nI P, nI C, nI R, nI L, hs, ss, cs, gs, vs) (nI Z, nI a, lt, rs, rt, rv) w i0 i1 kp dd tr m) (some (.int 0)) (XH tx n t (nI P, nI C, nI R, nI L, hs, ss, cs, gs, vs) (nI Z, nI a, lt, rs, rt, rv) w i0 i1 kp dd tr m) := by
  refine zq_start (by decide +kernel) rfl (Nat.le_of_ble_eq_true rfl) ?_
  show zq_G _ _ _ _ _ 0 ([(0, .ref 14)], [], XH tx n t (nI P, nI C, nI R, nI L, hs, ss, cs, gs, vs) (nI Z, nI a, lt, rs, rt, rv) w i0 i1 kp dd tr m)
  refine zq_b [zq_al 0, zq_get 8 1, zq_get 9 1, zq_is1 1, zq_il 1, zq_k 8] [zq_alchk 0, zq_getchk 8 1, zq_getchk 9 1, zq_is1chk 1, zq_ilchk 1, zq_kchk 8] 11 rfl (by decide +kernel) ?_
  show zq_G _ _ _ _ _ 11 ([(0, .ref 14), (1, .int (nI C))], [.int 8, .int (nI C)], XH tx n t (nI P, nI C, nI R, nI L, hs, ss, cs, gs, vs) (nI Z, nI a, lt, rs, rt, rv) w i0 i1 kp dd tr m)
  refine zq_if .ge 38 (8 ≤ C) (by decide +kernel) (zq_cge (a := C) (b := 8) (by omega) (by omega)) (fun c11 => ?_) (fun c11 => absurd (by omega) c11)
  show zq_G _ _ _ _ _ 38 ([(0, .ref 14), (1, .int (nI C))], [], XH tx n t (nI P, nI C, nI R, nI L, hs, ss, cs, gs, vs) (nI Z, nI a, lt, rs, rt, rv) w i0 i1 kp dd tr m)
  refine zq_b [zq_k 0] [zq_kchk 0] 39 rfl (by decide +kernel) ?_
  show zq_G _ _ _ _ _ 39 ([(0, .ref 14), (1, .int (nI C))], [.int 0], XH tx n t (nI P, nI C, nI R, nI L, hs, ss, cs, gs, vs) (nI Z, nI a, lt, rs, rt, rv) w i0 i1 kp dd tr m)
  exact zq_zret (by decide +kernel) rfl (Or.inl rfl) rfl rfl
set_option maxHeartbeats 4000000 in
set_option maxRecDepth 100000 in
theorem rc_n  (hZ : Z ≤ 200) (hbt : ∀ j, j < Z → tx j = nI (bt j) ∧ bt j ≤ 255) (ha : a ≤ Z) (hC : C < 8) (hkA : ¬ (tkK bt Z a = 2 ∧ 0 ≤ tkV bt Z a ∧ tkV bt Z a ≤ 99)) : zq_P l mX8_readCloud 4 [.ref 14] (XH tx n t (nI P, nI C, nI R, nI L, hs, ss, cs, gs, vs) (nI Z, nI a, lt, rs, rt, rv) w i0 i1 kp dd tr m) (some (.int 0)) (XH tx n t (nI P, nI C, nI R, nI L, hs, ss, cs, gs, vs) (nI Z, nI (tkE bt Z a), lt, nI (tkS bt Z a), nI (tkK bt Z a), nxV bt Z rv a) w i0 i1 kp dd tr m) := by
  refine zq_start (by decide +kernel) rfl (Nat.le_of_ble_eq_true rfl) ?_
  show zq_G _ _ _ _ _ 0 ([(0, .ref 14)], [], XH tx n t (nI P, nI C, nI R, nI L, hs, ss, cs, gs, vs) (nI Z, nI a, lt, rs, rt, rv) w i0 i1 kp dd tr m)
  have hE1 := tkE_max (bt := bt) ha
  have hE2 := tkE_max (bt := bt) hE1
  have hE3 := tkE_max (bt := bt) hE2
  refine zq_b [zq_al 0, zq_get 8 1, zq_get 9 1, zq_is1 1, zq_il 1, zq_k 8] [zq_alchk 0, zq_getchk 8 1, zq_getchk 9 1, zq_is1chk 1, zq_ilchk 1, zq_kchk 8] 11 rfl (by decide +kernel) ?_
  show zq_G _ _ _ _ _ 11 ([(0, .ref 14), (1, .int (nI C))], [.int 8, .int (nI C)], XH tx n t (nI P, nI C, nI R, nI L, hs, ss, cs, gs, vs) (nI Z, nI a, lt, rs, rt, rv) w i0 i1 kp dd tr m)
  refine zq_if .ge 38 (8 ≤ C) (by decide +kernel) (zq_cge (a := C) (b := 8) (by omega) (by omega)) (fun c11 => absurd c11 (by omega)) (fun c11 => ?_)
  show zq_G _ _ _ _ _ 14 ([(0, .ref 14), (1, .int (nI C))], [], XH tx n t (nI P, nI C, nI R, nI L, hs, ss, cs, gs, vs) (nI Z, nI a, lt, rs, rt, rv) w i0 i1 kp dd tr m)
  refine zq_b [zq_al 0, zq_k 0, zq_k 99] [zq_alchk 0, zq_kchk 0, zq_kchk 99] 18 rfl (by decide +kernel) ?_
  show zq_G _ _ _ _ _ 18 ([(0, .ref 14), (1, .int (nI C))], [.int 99, .int 0, .ref 14], XH tx n t (nI P, nI C, nI R, nI L, hs, ss, cs, gs, vs) (nI Z, nI a, lt, rs, rt, rv) w i0 i1 kp dd tr m)
  refine zq_callV (av := [.int 0, .int 99]) (rest := []) (by decide +kernel) k8_72 (c_num_f (lo := 0) (hi := 99) hZ hbt (by omega) hkA (by decide)) rfl rfl rfl rfl ?_
  show zq_G _ _ _ _ _ 21 ([(0, .ref 14), (1, .int (nI C))], [.int 0], XH tx n t (nI P, nI C, nI R, nI L, hs, ss, cs, gs, vs) (nI Z, nI (tkE bt Z a), lt, nI (tkS bt Z a), nI (tkK bt Z a), nxV bt Z rv a) w i0 i1 kp dd tr m)
  refine zq_ifz .eq 38 (0 = 0) (by decide +kernel) (zq_ceq (a := 0) (b := 0) (by omega) (by omega)) (fun c21 => ?_) (fun c21 => absurd rfl c21)
  show zq_G _ _ _ _ _ 38 ([(0, .ref 14), (1, .int (nI C))], [], XH tx n t (nI P, nI C, nI R, nI L, hs, ss, cs, gs, vs) (nI Z, nI (tkE bt Z a), lt, nI (tkS bt Z a), nI (tkK bt Z a), nxV bt Z rv a) w i0 i1 kp dd tr m)
  refine zq_b [zq_k 0] [zq_kchk 0] 39 rfl (by decide +kernel) ?_
  show zq_G _ _ _ _ _ 39 ([(0, .ref 14), (1, .int (nI C))], [.int 0], XH tx n t (nI P, nI C, nI R, nI L, hs, ss, cs, gs, vs) (nI Z, nI (tkE bt Z a), lt, nI (tkS bt Z a), nI (tkK bt Z a), nxV bt Z rv a) w i0 i1 kp dd tr m)
  exact zq_zret (by decide +kernel) rfl (Or.inl rfl) rfl rfl
set_option maxHeartbeats 4000000 in
set_option maxRecDepth 100000 in
theorem rc_dup  (hZ : Z ≤ 200) (hbt : ∀ j, j < Z → tx j = nI (bt j) ∧ bt j ≤ 255) (ha : a ≤ Z) (hC : C < 8) (hkA : tkK bt Z a = 2) (hlA : 0 ≤ tkV bt Z a) (hhA : tkV bt Z a ≤ 99) (hd : zany (fun i => decide (cs i = nI (tkV bt Z a))) C = true) : zq_P l mX8_readCloud 4 [.ref 14] (XH tx n t (nI P, nI C, nI R, nI L, hs, ss, cs, gs, vs) (nI Z, nI a, lt, rs, rt, rv) w i0 i1 kp dd tr m) (some (.int 0)) (XH tx n t (nI P, nI C, nI R, nI L, hs, ss, cs, gs, vs) (nI Z, nI (tkE bt Z a), lt, nI (tkS bt Z a), 2, nI (tkV bt Z a)) w i0 i1 kp dd tr m) := by
  refine zq_start (by decide +kernel) rfl (Nat.le_of_ble_eq_true rfl) ?_
  show zq_G _ _ _ _ _ 0 ([(0, .ref 14)], [], XH tx n t (nI P, nI C, nI R, nI L, hs, ss, cs, gs, vs) (nI Z, nI a, lt, rs, rt, rv) w i0 i1 kp dd tr m)
  have hE1 := tkE_max (bt := bt) ha
  have hE2 := tkE_max (bt := bt) hE1
  have hE3 := tkE_max (bt := bt) hE2
  refine zq_b [zq_al 0, zq_get 8 1, zq_get 9 1, zq_is1 1, zq_il 1, zq_k 8] [zq_alchk 0, zq_getchk 8 1, zq_getchk 9 1, zq_is1chk 1, zq_ilchk 1, zq_kchk 8] 11 rfl (by decide +kernel) ?_
  show zq_G _ _ _ _ _ 11 ([(0, .ref 14), (1, .int (nI C))], [.int 8, .int (nI C)], XH tx n t (nI P, nI C, nI R, nI L, hs, ss, cs, gs, vs) (nI Z, nI a, lt, rs, rt, rv) w i0 i1 kp dd tr m)
  refine zq_if .ge 38 (8 ≤ C) (by decide +kernel) (zq_cge (a := C) (b := 8) (by omega) (by omega)) (fun c11 => absurd c11 (by omega)) (fun c11 => ?_)
  show zq_G _ _ _ _ _ 14 ([(0, .ref 14), (1, .int (nI C))], [], XH tx n t (nI P, nI C, nI R, nI L, hs, ss, cs, gs, vs) (nI Z, nI a, lt, rs, rt, rv) w i0 i1 kp dd tr m)
  refine zq_b [zq_al 0, zq_k 0, zq_k 99] [zq_alchk 0, zq_kchk 0, zq_kchk 99] 18 rfl (by decide +kernel) ?_
  show zq_G _ _ _ _ _ 18 ([(0, .ref 14), (1, .int (nI C))], [.int 99, .int 0, .ref 14], XH tx n t (nI P, nI C, nI R, nI L, hs, ss, cs, gs, vs) (nI Z, nI a, lt, rs, rt, rv) w i0 i1 kp dd tr m)
  refine zq_callV (av := [.int 0, .int 99]) (rest := []) (by decide +kernel) k8_72 (c_num_t (lo := 0) (hi := 99) hZ hbt (by omega) hkA hlA hhA (by decide)) rfl rfl rfl rfl ?_
  show zq_G _ _ _ _ _ 21 ([(0, .ref 14), (1, .int (nI C))], [.int 1], XH tx n t (nI P, nI C, nI R, nI L, hs, ss, cs, gs, vs) (nI Z, nI (tkE bt Z a), lt, nI (tkS bt Z a), 2, nI (tkV bt Z a)) w i0 i1 kp dd tr m)
  refine zq_ifz .eq 38 (1 = 0) (by decide +kernel) (zq_ceq (a := 1) (b := 0) (by omega) (by omega)) (fun c21 => absurd c21 (by decide)) (fun c21 => ?_)
  show zq_G _ _ _ _ _ 24 ([(0, .ref 14), (1, .int (nI C))], [], XH tx n t (nI P, nI C, nI R, nI L, hs, ss, cs, gs, vs) (nI Z, nI (tkE bt Z a), lt, nI (tkS bt Z a), 2, nI (tkV bt Z a)) w i0 i1 kp dd tr m)
  refine zq_b [zq_al 0, zq_get 8 1, zq_al 0, zq_get 8 7] [zq_alchk 0, zq_getchk 8 1, zq_alchk 0, zq_getchk 8 7] 32 rfl (by decide +kernel) ?_
  show zq_G _ _ _ _ _ 32 ([(0, .ref 14), (1, .int (nI C))], [.int (nI (tkV bt Z a)), .ref 8], XH tx n t (nI P, nI C, nI R, nI L, hs, ss, cs, gs, vs) (nI Z, nI (tkE bt Z a), lt, nI (tkS bt Z a), 2, nI (tkV bt Z a)) w i0 i1 kp dd tr m)
  refine zq_callV (av := [.int (nI (tkV bt Z a))]) (rest := []) (by decide +kernel) k8_91 (c_hasCloud_d (day := (nI (tkV bt Z a))) (by omega)) rfl rfl rfl rfl ?_
  show zq_G _ _ _ _ _ 35 ([(0, .ref 14), (1, .int (nI C))], [.int (zb (zany (fun i => decide (cs i = (nI (tkV bt Z a)))) C = true))], XH tx n t (nI P, nI C, nI R, nI L, hs, ss, cs, gs, vs) (nI Z, nI (tkE bt Z a), lt, nI (tkS bt Z a), 2, nI (tkV bt Z a)) w i0 i1 kp dd tr m)
  refine zq_ifz .eq 40 (¬ (zany (fun i => decide (cs i = (nI (tkV bt Z a)))) C = true)) (by decide +kernel) (zb_eq _) (fun c35 => absurd c35 (fun q => q hd)) (fun c35 => ?_)
  show zq_G _ _ _ _ _ 38 ([(0, .ref 14), (1, .int (nI C))], [], XH tx n t (nI P, nI C, nI R, nI L, hs, ss, cs, gs, vs) (nI Z, nI (tkE bt Z a), lt, nI (tkS bt Z a), 2, nI (tkV bt Z a)) w i0 i1 kp dd tr m)
  refine zq_b [zq_k 0] [zq_kchk 0] 39 rfl (by decide +kernel) ?_
  show zq_G _ _ _ _ _ 39 ([(0, .ref 14), (1, .int (nI C))], [.int 0], XH tx n t (nI P, nI C, nI R, nI L, hs, ss, cs, gs, vs) (nI Z, nI (tkE bt Z a), lt, nI (tkS bt Z a), 2, nI (tkV bt Z a)) w i0 i1 kp dd tr m)
  exact zq_zret (by decide +kernel) rfl (Or.inl rfl) rfl rfl
set_option maxHeartbeats 4000000 in
set_option maxRecDepth 100000 in
theorem rc_go  (hZ : Z ≤ 200) (hbt : ∀ j, j < Z → tx j = nI (bt j) ∧ bt j ≤ 255) (ha : a ≤ Z) (hC : C < 8) (hkA : tkK bt Z a = 2) (hlA : 0 ≤ tkV bt Z a) (hhA : tkV bt Z a ≤ 99) (hd : ¬ zany (fun i => decide (cs i = nI (tkV bt Z a))) C = true) : zq_P l mX8_readCloud 4 [.ref 14] (XH tx n t (nI P, nI C, nI R, nI L, hs, ss, cs, gs, vs) (nI Z, nI a, lt, rs, rt, rv) w i0 i1 kp dd tr m) (some (.int (zb (tkK bt Z (tkE bt Z a) = 3)))) (XH tx n t (nI P, nI (C + 1), nI R, nI L, hs, ss, upd cs C (nI (tkV bt Z a)), gs, vs) (nI Z, nI (tkE bt Z (tkE bt Z a)), lt, nI (tkS bt Z (tkE bt Z a)), nI (tkK bt Z (tkE bt Z a)), nxV bt Z (nI (tkV bt Z a)) (tkE bt Z a)) w i0 i1 kp dd tr m) := by
  refine zq_start (by decide +kernel) rfl (Nat.le_of_ble_eq_true rfl) ?_
  show zq_G _ _ _ _ _ 0 ([(0, .ref 14)], [], XH tx n t (nI P, nI C, nI R, nI L, hs, ss, cs, gs, vs) (nI Z, nI a, lt, rs, rt, rv) w i0 i1 kp dd tr m)
  have hE1 := tkE_max (bt := bt) ha
  have hE2 := tkE_max (bt := bt) hE1
  have hE3 := tkE_max (bt := bt) hE2
  refine zq_b [zq_al 0, zq_get 8 1, zq_get 9 1, zq_is1 1, zq_il 1, zq_k 8] [zq_alchk 0, zq_getchk 8 1, zq_getchk 9 1, zq_is1chk 1, zq_ilchk 1, zq_kchk 8] 11 rfl (by decide +kernel) ?_
  show zq_G _ _ _ _ _ 11 ([(0, .ref 14), (1, .int (nI C))], [.int 8, .int (nI C)], XH tx n t (nI P, nI C, nI R, nI L, hs, ss, cs, gs, vs) (nI Z, nI a, lt, rs, rt, rv) w i0 i1 kp dd tr m)
  refine zq_if .ge 38 (8 ≤ C) (by decide +kernel) (zq_cge (a := C) (b := 8) (by omega) (by omega)) (fun c11 => absurd c11 (by omega)) (fun c11 => ?_)
  show zq_G _ _ _ _ _ 14 ([(0, .ref 14), (1, .int (nI C))], [], XH tx n t (nI P, nI C, nI R, nI L, hs, ss, cs, gs, vs) (nI Z, nI a, lt, rs, rt, rv) w i0 i1 kp dd tr m)
  refine zq_b [zq_al 0, zq_k 0, zq_k 99] [zq_alchk 0, zq_kchk 0, zq_kchk 99] 18 rfl (by decide +kernel) ?_
  show zq_G _ _ _ _ _ 18 ([(0, .ref 14), (1, .int (nI C))], [.int 99, .int 0, .ref 14], XH tx n t (nI P, nI C, nI R, nI L, hs, ss, cs, gs, vs) (nI Z, nI a, lt, rs, rt, rv) w i0 i1 kp dd tr m)
  refine zq_callV (av := [.int 0, .int 99]) (rest := []) (by decide +kernel) k8_72 (c_num_t (lo := 0) (hi := 99) hZ hbt (by omega) hkA hlA hhA (by decide)) rfl rfl rfl rfl ?_
  show zq_G _ _ _ _ _ 21 ([(0, .ref 14), (1, .int (nI C))], [.int 1], XH tx n t (nI P, nI C, nI R, nI L, hs, ss, cs, gs, vs) (nI Z, nI (tkE bt Z a), lt, nI (tkS bt Z a), 2, nI (tkV bt Z a)) w i0 i1 kp dd tr m)
  refine zq_ifz .eq 38 (1 = 0) (by decide +kernel) (zq_ceq (a := 1) (b := 0) (by omega) (by omega)) (fun c21 => absurd c21 (by decide)) (fun c21 => ?_)
  show zq_G _ _ _ _ _ 24 ([(0, .ref 14), (1, .int (nI C))], [], XH tx n t (nI P, nI C, nI R, nI L, hs, ss, cs, gs, vs) (nI Z, nI (tkE bt Z a), lt, nI (tkS bt Z a), 2, nI (tkV bt Z a)) w i0 i1 kp dd tr m)
  refine zq_b [zq_al 0, zq_get 8 1, zq_al 0, zq_get 8 7] [zq_alchk 0, zq_getchk 8 1, zq_alchk 0, zq_getchk 8 7] 32 rfl (by decide +kernel) ?_
  show zq_G _ _ _ _ _ 32 ([(0, .ref 14), (1, .int (nI C))], [.int (nI (tkV bt Z a)), .ref 8], XH tx n t (nI P, nI C, nI R, nI L, hs, ss, cs, gs, vs) (nI Z, nI (tkE bt Z a), lt, nI (tkS bt Z a), 2, nI (tkV bt Z a)) w i0 i1 kp dd tr m)
  refine zq_callV (av := [.int (nI (tkV bt Z a))]) (rest := []) (by decide +kernel) k8_91 (c_hasCloud_d (day := (nI (tkV bt Z a))) (by omega)) rfl rfl rfl rfl ?_
  show zq_G _ _ _ _ _ 35 ([(0, .ref 14), (1, .int (nI C))], [.int (zb (zany (fun i => decide (cs i = (nI (tkV bt Z a)))) C = true))], XH tx n t (nI P, nI C, nI R, nI L, hs, ss, cs, gs, vs) (nI Z, nI (tkE bt Z a), lt, nI (tkS bt Z a), 2, nI (tkV bt Z a)) w i0 i1 kp dd tr m)
  refine zq_ifz .eq 40 (¬ (zany (fun i => decide (cs i = (nI (tkV bt Z a)))) C = true)) (by decide +kernel) (zb_eq _) (fun c35 => ?_) (fun c35 => absurd hd c35)
  show zq_G _ _ _ _ _ 40 ([(0, .ref 14), (1, .int (nI C))], [], XH tx n t (nI P, nI C, nI R, nI L, hs, ss, cs, gs, vs) (nI Z, nI (tkE bt Z a), lt, nI (tkS bt Z a), 2, nI (tkV bt Z a)) w i0 i1 kp dd tr m)
  refine zq_b [zq_al 0, zq_get 8 1, zq_get 9 6, zq_il 1, zq_al 0, zq_get 8 7, zq_iast C, zq_al 0, zq_get 8 1, zq_dup, zq_get 9 1, zq_k 1, zq_iadd (nI (C + 1)), zq_puti 9 1, zq_al 0] [zq_alchk 0, zq_getchk 8 1, zq_getchk 9 6, zq_ilchk 1, zq_alchk 0, zq_getchk 8 7, zq_is .iastore 1, zq_alchk 0, zq_getchk 8 1, zq_is .dup 1, zq_getchk 9 1, zq_kchk 1, zq_is .iadd 1, zq_putchk 9 1 .int, zq_alchk 0] 67 rfl (by decide +kernel) ?_
  refine ⟨rfl, (by omega), (by omega), (nI_add C 1), ?_⟩
  show zq_G _ _ _ _ _ 67 ([(0, .ref 14), (1, .int (nI C))], [.ref 14], XH tx n t (nI P, nI (C + 1), nI R, nI L, hs, ss, upd cs C (nI (tkV bt Z a)), gs, vs) (nI Z, nI (tkE bt Z a), lt, nI (tkS bt Z a), 2, nI (tkV bt Z a)) w i0 i1 kp dd tr m)
  refine zq_callV (av := []) (rest := []) (by decide +kernel) k8_82 (c_stop hZ hbt (by omega)) rfl rfl rfl rfl ?_
  show zq_G _ _ _ _ _ 70 ([(0, .ref 14), (1, .int (nI C))], [.int (zb (tkK bt Z (tkE bt Z a) = 3))], XH tx n t (nI P, nI (C + 1), nI R, nI L, hs, ss, upd cs C (nI (tkV bt Z a)), gs, vs) (nI Z, nI (tkE bt Z (tkE bt Z a)), lt, nI (tkS bt Z (tkE bt Z a)), nI (tkK bt Z (tkE bt Z a)), nxV bt Z (nI (tkV bt Z a)) (tkE bt Z a)) w i0 i1 kp dd tr m)
  exact zq_zret (by decide +kernel) rfl (zb_01 _) rfl rfl
set_option maxHeartbeats 4000000 in
set_option maxRecDepth 100000 in
theorem rr_full  (hZ : Z ≤ 200) (hbt : ∀ j, j < Z → tx j = nI (bt j) ∧ bt j ≤ 255) (ha : a ≤ Z) (hR : R = 6) : zq_P l mX8_readRule 4 [.ref 14] (XH tx n t (nI P, nI C, nI R, nI L, hs, ss, cs, gs, vs) (nI Z, nI a, lt, rs, rt, rv) w i0 i1 kp dd tr m) (some (.int 0)) (XH tx n t (nI P, nI C, nI R, nI L, hs, ss, cs, gs, vs) (nI Z, nI a, lt, rs, rt, rv) w i0 i1 kp dd tr m) := by
  refine zq_start (by decide +kernel) rfl (Nat.le_of_ble_eq_true rfl) ?_
  show zq_G _ _ _ _ _ 0 ([(0, .ref 14)], [], XH tx n t (nI P, nI C, nI R, nI L, hs, ss, cs, gs, vs) (nI Z, nI a, lt, rs, rt, rv) w i0 i1 kp dd tr m)
  refine zq_b [zq_al 0, zq_get 8 1, zq_get 9 2, zq_is1 1, zq_il 1, zq_k 6] [zq_alchk 0, zq_getchk 8 1, zq_getchk 9 2, zq_is1chk 1, zq_ilchk 1, zq_kchk 6] 11 rfl (by decide +kernel) ?_
  show zq_G _ _ _ _ _ 11 ([(0, .ref 14), (1, .int (nI R))], [.int 6, .int (nI R)], XH tx n t (nI P, nI C, nI R, nI L, hs, ss, cs, gs, vs) (nI Z, nI a, lt, rs, rt, rv) w i0 i1 kp dd tr m)
  refine zq_if .ge 24 (6 ≤ R) (by decide +kernel) (zq_cge (a := R) (b := 6) (by omega) (by omega)) (fun c11 => ?_) (fun c11 => absurd (by omega) c11)
  show zq_G _ _ _ _ _ 24 ([(0, .ref 14), (1, .int (nI R))], [], XH tx n t (nI P, nI C, nI R, nI L, hs, ss, cs, gs, vs) (nI Z, nI a, lt, rs, rt, rv) w i0 i1 kp dd tr m)
  refine zq_b [zq_k 0] [zq_kchk 0] 25 rfl (by decide +kernel) ?_
  show zq_G _ _ _ _ _ 25 ([(0, .ref 14), (1, .int (nI R))], [.int 0], XH tx n t (nI P, nI C, nI R, nI L, hs, ss, cs, gs, vs) (nI Z, nI a, lt, rs, rt, rv) w i0 i1 kp dd tr m)
  exact zq_zret (by decide +kernel) rfl (Or.inl rfl) rfl rfl
set_option maxHeartbeats 4000000 in
set_option maxRecDepth 100000 in
theorem rr_n1  (hZ : Z ≤ 200) (hbt : ∀ j, j < Z → tx j = nI (bt j) ∧ bt j ≤ 255) (ha : a ≤ Z) (hR : R < 6) (hkA : ¬ (tkK bt Z a = 2 ∧ 0 ≤ tkV bt Z a ∧ tkV bt Z a ≤ 7)) : zq_P l mX8_readRule 4 [.ref 14] (XH tx n t (nI P, nI C, nI R, nI L, hs, ss, cs, gs, vs) (nI Z, nI a, lt, rs, rt, rv) w i0 i1 kp dd tr m) (some (.int 0)) (XH tx n t (nI P, nI C, nI R, nI L, hs, ss, cs, gs, vs) (nI Z, nI (tkE bt Z a), lt, nI (tkS bt Z a), nI (tkK bt Z a), nxV bt Z rv a) w i0 i1 kp dd tr m) := by
  refine zq_start (by decide +kernel) rfl (Nat.le_of_ble_eq_true rfl) ?_
  show zq_G _ _ _ _ _ 0 ([(0, .ref 14)], [], XH tx n t (nI P, nI C, nI R, nI L, hs, ss, cs, gs, vs) (nI Z, nI a, lt, rs, rt, rv) w i0 i1 kp dd tr m)
  have hE1 := tkE_max (bt := bt) ha
  have hE2 := tkE_max (bt := bt) hE1
  have hE3 := tkE_max (bt := bt) hE2
  refine zq_b [zq_al 0, zq_get 8 1, zq_get 9 2, zq_is1 1, zq_il 1, zq_k 6] [zq_alchk 0, zq_getchk 8 1, zq_getchk 9 2, zq_is1chk 1, zq_ilchk 1, zq_kchk 6] 11 rfl (by decide +kernel) ?_
  show zq_G _ _ _ _ _ 11 ([(0, .ref 14), (1, .int (nI R))], [.int 6, .int (nI R)], XH tx n t (nI P, nI C, nI R, nI L, hs, ss, cs, gs, vs) (nI Z, nI a, lt, rs, rt, rv) w i0 i1 kp dd tr m)
  refine zq_if .ge 24 (6 ≤ R) (by decide +kernel) (zq_cge (a := R) (b := 6) (by omega) (by omega)) (fun c11 => absurd c11 (by omega)) (fun c11 => ?_)
  show zq_G _ _ _ _ _ 14 ([(0, .ref 14), (1, .int (nI R))], [], XH tx n t (nI P, nI C, nI R, nI L, hs, ss, cs, gs, vs) (nI Z, nI a, lt, rs, rt, rv) w i0 i1 kp dd tr m)
  refine zq_b [zq_al 0, zq_k 0, zq_k 7] [zq_alchk 0, zq_kchk 0, zq_kchk 7] 18 rfl (by decide +kernel) ?_
  show zq_G _ _ _ _ _ 18 ([(0, .ref 14), (1, .int (nI R))], [.int 7, .int 0, .ref 14], XH tx n t (nI P, nI C, nI R, nI L, hs, ss, cs, gs, vs) (nI Z, nI a, lt, rs, rt, rv) w i0 i1 kp dd tr m)
  refine zq_callV (av := [.int 0, .int 7]) (rest := []) (by decide +kernel) k8_72 (c_num_f (lo := 0) (hi := 7) hZ hbt (by omega) hkA (by decide)) rfl rfl rfl rfl ?_
  show zq_G _ _ _ _ _ 21 ([(0, .ref 14), (1, .int (nI R))], [.int 0], XH tx n t (nI P, nI C, nI R, nI L, hs, ss, cs, gs, vs) (nI Z, nI (tkE bt Z a), lt, nI (tkS bt Z a), nI (tkK bt Z a), nxV bt Z rv a) w i0 i1 kp dd tr m)
  refine zq_ifz .ne 26 (¬ 0 = 0) (by decide +kernel) (zq_cne (a := 0) (b := 0) (by omega) (by omega)) (fun c21 => absurd c21 (fun q => q rfl)) (fun c21 => ?_)
  show zq_G _ _ _ _ _ 24 ([(0, .ref 14), (1, .int (nI R))], [], XH tx n t (nI P, nI C, nI R, nI L, hs, ss, cs, gs, vs) (nI Z, nI (tkE bt Z a), lt, nI (tkS bt Z a), nI (tkK bt Z a), nxV bt Z rv a) w i0 i1 kp dd tr m)
  refine zq_b [zq_k 0] [zq_kchk 0] 25 rfl (by decide +kernel) ?_
  show zq_G _ _ _ _ _ 25 ([(0, .ref 14), (1, .int (nI R))], [.int 0], XH tx n t (nI P, nI C, nI R, nI L, hs, ss, cs, gs, vs) (nI Z, nI (tkE bt Z a), lt, nI (tkS bt Z a), nI (tkK bt Z a), nxV bt Z rv a) w i0 i1 kp dd tr m)
  exact zq_zret (by decide +kernel) rfl (Or.inl rfl) rfl rfl
set_option maxHeartbeats 4000000 in
set_option maxRecDepth 100000 in
theorem rr_n2  (hZ : Z ≤ 200) (hbt : ∀ j, j < Z → tx j = nI (bt j) ∧ bt j ≤ 255) (ha : a ≤ Z) (hR : R < 6) (hkA : tkK bt Z a = 2) (hlA : 0 ≤ tkV bt Z a) (hhA : tkV bt Z a ≤ 7) (hkB : ¬ (tkK bt Z (tkE bt Z a) = 2 ∧ 0 ≤ tkV bt Z (tkE bt Z a) ∧ tkV bt Z (tkE bt Z a) ≤ 7)) : zq_P l mX8_readRule 4 [.ref 14] (XH tx n t (nI P, nI C, nI R, nI L, hs, ss, cs, gs, vs) (nI Z, nI a, lt, rs, rt, rv) w i0 i1 kp dd tr m) (some (.int 0)) (XH tx n t (nI P, nI C, nI R, nI L, hs, ss, cs, upd gs R (nI (tkV bt Z a)), vs) (nI Z, nI (tkE bt Z (tkE bt Z a)), lt, nI (tkS bt Z (tkE bt Z a)), nI (tkK bt Z (tkE bt Z a)), nxV bt Z (nI (tkV bt Z a)) (tkE bt Z a)) w i0 i1 kp dd tr m) := by
  refine zq_start (by decide +kernel) rfl (Nat.le_of_ble_eq_true rfl) ?_
  show zq_G _ _ _ _ _ 0 ([(0, .ref 14)], [], XH tx n t (nI P, nI C, nI R, nI L, hs, ss, cs, gs, vs) (nI Z, nI a, lt, rs, rt, rv) w i0 i1 kp dd tr m)
  have hE1 := tkE_max (bt := bt) ha
  have hE2 := tkE_max (bt := bt) hE1
  have hE3 := tkE_max (bt := bt) hE2
  refine zq_b [zq_al 0, zq_get 8 1, zq_get 9 2, zq_is1 1, zq_il 1, zq_k 6] [zq_alchk 0, zq_getchk 8 1, zq_getchk 9 2, zq_is1chk 1, zq_ilchk 1, zq_kchk 6] 11 rfl (by decide +kernel) ?_
  show zq_G _ _ _ _ _ 11 ([(0, .ref 14), (1, .int (nI R))], [.int 6, .int (nI R)], XH tx n t (nI P, nI C, nI R, nI L, hs, ss, cs, gs, vs) (nI Z, nI a, lt, rs, rt, rv) w i0 i1 kp dd tr m)
  refine zq_if .ge 24 (6 ≤ R) (by decide +kernel) (zq_cge (a := R) (b := 6) (by omega) (by omega)) (fun c11 => absurd c11 (by omega)) (fun c11 => ?_)
  show zq_G _ _ _ _ _ 14 ([(0, .ref 14), (1, .int (nI R))], [], XH tx n t (nI P, nI C, nI R, nI L, hs, ss, cs, gs, vs) (nI Z, nI a, lt, rs, rt, rv) w i0 i1 kp dd tr m)
  refine zq_b [zq_al 0, zq_k 0, zq_k 7] [zq_alchk 0, zq_kchk 0, zq_kchk 7] 18 rfl (by decide +kernel) ?_
  show zq_G _ _ _ _ _ 18 ([(0, .ref 14), (1, .int (nI R))], [.int 7, .int 0, .ref 14], XH tx n t (nI P, nI C, nI R, nI L, hs, ss, cs, gs, vs) (nI Z, nI a, lt, rs, rt, rv) w i0 i1 kp dd tr m)
  refine zq_callV (av := [.int 0, .int 7]) (rest := []) (by decide +kernel) k8_72 (c_num_t (lo := 0) (hi := 7) hZ hbt (by omega) hkA hlA hhA (by decide)) rfl rfl rfl rfl ?_
  show zq_G _ _ _ _ _ 21 ([(0, .ref 14), (1, .int (nI R))], [.int 1], XH tx n t (nI P, nI C, nI R, nI L, hs, ss, cs, gs, vs) (nI Z, nI (tkE bt Z a), lt, nI (tkS bt Z a), 2, nI (tkV bt Z a)) w i0 i1 kp dd tr m)
  refine zq_ifz .ne 26 (¬ 1 = 0) (by decide +kernel) (zq_cne (a := 1) (b := 0) (by omega) (by omega)) (fun c21 => ?_) (fun c21 => absurd (by decide) c21)
  show zq_G _ _ _ _ _ 26 ([(0, .ref 14), (1, .int (nI R))], [], XH tx n t (nI P, nI C, nI R, nI L, hs, ss, cs, gs, vs) (nI Z, nI (tkE bt Z a), lt, nI (tkS bt Z a), 2, nI (tkV bt Z a)) w i0 i1 kp dd tr m)
  refine zq_b [zq_al 0, zq_get 8 1, zq_get 9 7, zq_il 1, zq_al 0, zq_get 8 7, zq_iast R, zq_al 0, zq_k 0, zq_k 7] [zq_alchk 0, zq_getchk 8 1, zq_getchk 9 7, zq_ilchk 1, zq_alchk 0, zq_getchk 8 7, zq_is .iastore 1, zq_alchk 0, zq_kchk 0, zq_kchk 7] 43 rfl (by decide +kernel) ?_
  refine ⟨rfl, (by omega), (by omega), ?_⟩
  show zq_G _ _ _ _ _ 43 ([(0, .ref 14), (1, .int (nI R))], [.int 7, .int 0, .ref 14], XH tx n t (nI P, nI C, nI R, nI L, hs, ss, cs, upd gs R (nI (tkV bt Z a)), vs) (nI Z, nI (tkE bt Z a), lt, nI (tkS bt Z a), 2, nI (tkV bt Z a)) w i0 i1 kp dd tr m)
  refine zq_callV (av := [.int 0, .int 7]) (rest := []) (by decide +kernel) k8_72 (c_num_f (lo := 0) (hi := 7) hZ hbt (by omega) hkB (by decide)) rfl rfl rfl rfl ?_
  show zq_G _ _ _ _ _ 46 ([(0, .ref 14), (1, .int (nI R))], [.int 0], XH tx n t (nI P, nI C, nI R, nI L, hs, ss, cs, upd gs R (nI (tkV bt Z a)), vs) (nI Z, nI (tkE bt Z (tkE bt Z a)), lt, nI (tkS bt Z (tkE bt Z a)), nI (tkK bt Z (tkE bt Z a)), nxV bt Z (nI (tkV bt Z a)) (tkE bt Z a)) w i0 i1 kp dd tr m)
  refine zq_ifz .eq 65 (0 = 0) (by decide +kernel) (zq_ceq (a := 0) (b := 0) (by omega) (by omega)) (fun c46 => ?_) (fun c46 => absurd rfl c46)
  show zq_G _ _ _ _ _ 65 ([(0, .ref 14), (1, .int (nI R))], [], XH tx n t (nI P, nI C, nI R, nI L, hs, ss, cs, upd gs R (nI (tkV bt Z a)), vs) (nI Z, nI (tkE bt Z (tkE bt Z a)), lt, nI (tkS bt Z (tkE bt Z a)), nI (tkK bt Z (tkE bt Z a)), nxV bt Z (nI (tkV bt Z a)) (tkE bt Z a)) w i0 i1 kp dd tr m)
  refine zq_b [zq_k 0] [zq_kchk 0] 66 rfl (by decide +kernel) ?_
  show zq_G _ _ _ _ _ 66 ([(0, .ref 14), (1, .int (nI R))], [.int 0], XH tx n t (nI P, nI C, nI R, nI L, hs, ss, cs, upd gs R (nI (tkV bt Z a)), vs) (nI Z, nI (tkE bt Z (tkE bt Z a)), lt, nI (tkS bt Z (tkE bt Z a)), nI (tkK bt Z (tkE bt Z a)), nxV bt Z (nI (tkV bt Z a)) (tkE bt Z a)) w i0 i1 kp dd tr m)
  exact zq_zret (by decide +kernel) rfl (Or.inl rfl) rfl rfl
set_option maxHeartbeats 4000000 in
set_option maxRecDepth 100000 in
theorem rr_eq  (hZ : Z ≤ 200) (hbt : ∀ j, j < Z → tx j = nI (bt j) ∧ bt j ≤ 255) (ha : a ≤ Z) (hR : R < 6) (hkA : tkK bt Z a = 2) (hlA : 0 ≤ tkV bt Z a) (hhA : tkV bt Z a ≤ 7) (hkB : tkK bt Z (tkE bt Z a) = 2) (hlB : 0 ≤ tkV bt Z (tkE bt Z a)) (hhB : tkV bt Z (tkE bt Z a) ≤ 7) (he : tkV bt Z (tkE bt Z a) = tkV bt Z a) : zq_P l mX8_readRule 4 [.ref 14] (XH tx n t (nI P, nI C, nI R, nI L, hs, ss, cs, gs, vs) (nI Z, nI a, lt, rs, rt, rv) w i0 i1 kp dd tr m) (some (.int 0)) (XH tx n t (nI P, nI C, nI R, nI L, hs, ss, cs, upd gs R (nI (tkV bt Z a)), vs) (nI Z, nI (tkE bt Z (tkE bt Z a)), lt, nI (tkS bt Z (tkE bt Z a)), 2, nI (tkV bt Z (tkE bt Z a))) w i0 i1 kp dd tr m) := by
  refine zq_start (by decide +kernel) rfl (Nat.le_of_ble_eq_true rfl) ?_
  show zq_G _ _ _ _ _ 0 ([(0, .ref 14)], [], XH tx n t (nI P, nI C, nI R, nI L, hs, ss, cs, gs, vs) (nI Z, nI a, lt, rs, rt, rv) w i0 i1 kp dd tr m)
  have hE1 := tkE_max (bt := bt) ha
  have hE2 := tkE_max (bt := bt) hE1
  have hE3 := tkE_max (bt := bt) hE2
  refine zq_b [zq_al 0, zq_get 8 1, zq_get 9 2, zq_is1 1, zq_il 1, zq_k 6] [zq_alchk 0, zq_getchk 8 1, zq_getchk 9 2, zq_is1chk 1, zq_ilchk 1, zq_kchk 6] 11 rfl (by decide +kernel) ?_
  show zq_G _ _ _ _ _ 11 ([(0, .ref 14), (1, .int (nI R))], [.int 6, .int (nI R)], XH tx n t (nI P, nI C, nI R, nI L, hs, ss, cs, gs, vs) (nI Z, nI a, lt, rs, rt, rv) w i0 i1 kp dd tr m)
  refine zq_if .ge 24 (6 ≤ R) (by decide +kernel) (zq_cge (a := R) (b := 6) (by omega) (by omega)) (fun c11 => absurd c11 (by omega)) (fun c11 => ?_)
  show zq_G _ _ _ _ _ 14 ([(0, .ref 14), (1, .int (nI R))], [], XH tx n t (nI P, nI C, nI R, nI L, hs, ss, cs, gs, vs) (nI Z, nI a, lt, rs, rt, rv) w i0 i1 kp dd tr m)
  refine zq_b [zq_al 0, zq_k 0, zq_k 7] [zq_alchk 0, zq_kchk 0, zq_kchk 7] 18 rfl (by decide +kernel) ?_
  show zq_G _ _ _ _ _ 18 ([(0, .ref 14), (1, .int (nI R))], [.int 7, .int 0, .ref 14], XH tx n t (nI P, nI C, nI R, nI L, hs, ss, cs, gs, vs) (nI Z, nI a, lt, rs, rt, rv) w i0 i1 kp dd tr m)
  refine zq_callV (av := [.int 0, .int 7]) (rest := []) (by decide +kernel) k8_72 (c_num_t (lo := 0) (hi := 7) hZ hbt (by omega) hkA hlA hhA (by decide)) rfl rfl rfl rfl ?_
  show zq_G _ _ _ _ _ 21 ([(0, .ref 14), (1, .int (nI R))], [.int 1], XH tx n t (nI P, nI C, nI R, nI L, hs, ss, cs, gs, vs) (nI Z, nI (tkE bt Z a), lt, nI (tkS bt Z a), 2, nI (tkV bt Z a)) w i0 i1 kp dd tr m)
  refine zq_ifz .ne 26 (¬ 1 = 0) (by decide +kernel) (zq_cne (a := 1) (b := 0) (by omega) (by omega)) (fun c21 => ?_) (fun c21 => absurd (by decide) c21)
  show zq_G _ _ _ _ _ 26 ([(0, .ref 14), (1, .int (nI R))], [], XH tx n t (nI P, nI C, nI R, nI L, hs, ss, cs, gs, vs) (nI Z, nI (tkE bt Z a), lt, nI (tkS bt Z a), 2, nI (tkV bt Z a)) w i0 i1 kp dd tr m)
  refine zq_b [zq_al 0, zq_get 8 1, zq_get 9 7, zq_il 1, zq_al 0, zq_get 8 7, zq_iast R, zq_al 0, zq_k 0, zq_k 7] [zq_alchk 0, zq_getchk 8 1, zq_getchk 9 7, zq_ilchk 1, zq_alchk 0, zq_getchk 8 7, zq_is .iastore 1, zq_alchk 0, zq_kchk 0, zq_kchk 7] 43 rfl (by decide +kernel) ?_
  refine ⟨rfl, (by omega), (by omega), ?_⟩
  show zq_G _ _ _ _ _ 43 ([(0, .ref 14), (1, .int (nI R))], [.int 7, .int 0, .ref 14], XH tx n t (nI P, nI C, nI R, nI L, hs, ss, cs, upd gs R (nI (tkV bt Z a)), vs) (nI Z, nI (tkE bt Z a), lt, nI (tkS bt Z a), 2, nI (tkV bt Z a)) w i0 i1 kp dd tr m)
  refine zq_callV (av := [.int 0, .int 7]) (rest := []) (by decide +kernel) k8_72 (c_num_t (lo := 0) (hi := 7) hZ hbt (by omega) hkB hlB hhB (by decide)) rfl rfl rfl rfl ?_
  show zq_G _ _ _ _ _ 46 ([(0, .ref 14), (1, .int (nI R))], [.int 1], XH tx n t (nI P, nI C, nI R, nI L, hs, ss, cs, upd gs R (nI (tkV bt Z a)), vs) (nI Z, nI (tkE bt Z (tkE bt Z a)), lt, nI (tkS bt Z (tkE bt Z a)), 2, nI (tkV bt Z (tkE bt Z a))) w i0 i1 kp dd tr m)
  refine zq_ifz .eq 65 (1 = 0) (by decide +kernel) (zq_ceq (a := 1) (b := 0) (by omega) (by omega)) (fun c46 => absurd c46 (by decide)) (fun c46 => ?_)
  show zq_G _ _ _ _ _ 49 ([(0, .ref 14), (1, .int (nI R))], [], XH tx n t (nI P, nI C, nI R, nI L, hs, ss, cs, upd gs R (nI (tkV bt Z a)), vs) (nI Z, nI (tkE bt Z (tkE bt Z a)), lt, nI (tkS bt Z (tkE bt Z a)), 2, nI (tkV bt Z (tkE bt Z a))) w i0 i1 kp dd tr m)
  refine zq_b [zq_al 0, zq_get 8 7, zq_al 0, zq_get 8 1, zq_get 9 7, zq_il 1, zq_iald R (nI (tkV bt Z a))] [zq_alchk 0, zq_getchk 8 7, zq_alchk 0, zq_getchk 8 1, zq_getchk 9 7, zq_ilchk 1, zq_is .iaload 1] 62 rfl (by decide +kernel) ?_
  refine ⟨rfl, (by omega), (by omega), pk_us, ?_⟩
  show zq_G _ _ _ _ _ 62 ([(0, .ref 14), (1, .int (nI R))], [.int (nI (tkV bt Z a)), .int (nI (tkV bt Z (tkE bt Z a)))], XH tx n t (nI P, nI C, nI R, nI L, hs, ss, cs, upd gs R (nI (tkV bt Z a)), vs) (nI Z, nI (tkE bt Z (tkE bt Z a)), lt, nI (tkS bt Z (tkE bt Z a)), 2, nI (tkV bt Z (tkE bt Z a))) w i0 i1 kp dd tr m)
  refine zq_if .ne 67 (¬ (tkV bt Z (tkE bt Z a)) = (tkV bt Z a)) (by decide +kernel) (zq_cne (a := tkV bt Z (tkE bt Z a)) (b := tkV bt Z a) (by omega) (by omega)) (fun c62 => absurd c62 (by omega)) (fun c62 => ?_)
  show zq_G _ _ _ _ _ 65 ([(0, .ref 14), (1, .int (nI R))], [], XH tx n t (nI P, nI C, nI R, nI L, hs, ss, cs, upd gs R (nI (tkV bt Z a)), vs) (nI Z, nI (tkE bt Z (tkE bt Z a)), lt, nI (tkS bt Z (tkE bt Z a)), 2, nI (tkV bt Z (tkE bt Z a))) w i0 i1 kp dd tr m)
  refine zq_b [zq_k 0] [zq_kchk 0] 66 rfl (by decide +kernel) ?_
  show zq_G _ _ _ _ _ 66 ([(0, .ref 14), (1, .int (nI R))], [.int 0], XH tx n t (nI P, nI C, nI R, nI L, hs, ss, cs, upd gs R (nI (tkV bt Z a)), vs) (nI Z, nI (tkE bt Z (tkE bt Z a)), lt, nI (tkS bt Z (tkE bt Z a)), 2, nI (tkV bt Z (tkE bt Z a))) w i0 i1 kp dd tr m)
  exact zq_zret (by decide +kernel) rfl (Or.inl rfl) rfl rfl
set_option maxHeartbeats 4000000 in
set_option maxRecDepth 100000 in
theorem rr_go  (hZ : Z ≤ 200) (hbt : ∀ j, j < Z → tx j = nI (bt j) ∧ bt j ≤ 255) (ha : a ≤ Z) (hR : R < 6) (hkA : tkK bt Z a = 2) (hlA : 0 ≤ tkV bt Z a) (hhA : tkV bt Z a ≤ 7) (hkB : tkK bt Z (tkE bt Z a) = 2) (hlB : 0 ≤ tkV bt Z (tkE bt Z a)) (hhB : tkV bt Z (tkE bt Z a) ≤ 7) (he : ¬ tkV bt Z (tkE bt Z a) = tkV bt Z a) : zq_P l mX8_readRule 4 [.ref 14] (XH tx n t (nI P, nI C, nI R, nI L, hs, ss, cs, gs, vs) (nI Z, nI a, lt, rs, rt, rv) w i0 i1 kp dd tr m) (some (.int (zb (tkK bt Z (tkE bt Z (tkE bt Z a)) = 3)))) (XH tx n t (nI P, nI C, nI (R + 1), nI L, hs, ss, cs, upd gs R (nI (tkV bt Z a)), upd vs R (nI (tkV bt Z (tkE bt Z a)))) (nI Z, nI (tkE bt Z (tkE bt Z (tkE bt Z a))), lt, nI (tkS bt Z (tkE bt Z (tkE bt Z a))), nI (tkK bt Z (tkE bt Z (tkE bt Z a))), nxV bt Z (nI (tkV bt Z (tkE bt Z a))) (tkE bt Z (tkE bt Z a))) w i0 i1 kp dd tr m) := by
  refine zq_start (by decide +kernel) rfl (Nat.le_of_ble_eq_true rfl) ?_
  show zq_G _ _ _ _ _ 0 ([(0, .ref 14)], [], XH tx n t (nI P, nI C, nI R, nI L, hs, ss, cs, gs, vs) (nI Z, nI a, lt, rs, rt, rv) w i0 i1 kp dd tr m)
  have hE1 := tkE_max (bt := bt) ha
  have hE2 := tkE_max (bt := bt) hE1
  have hE3 := tkE_max (bt := bt) hE2
  refine zq_b [zq_al 0, zq_get 8 1, zq_get 9 2, zq_is1 1, zq_il 1, zq_k 6] [zq_alchk 0, zq_getchk 8 1, zq_getchk 9 2, zq_is1chk 1, zq_ilchk 1, zq_kchk 6] 11 rfl (by decide +kernel) ?_
  show zq_G _ _ _ _ _ 11 ([(0, .ref 14), (1, .int (nI R))], [.int 6, .int (nI R)], XH tx n t (nI P, nI C, nI R, nI L, hs, ss, cs, gs, vs) (nI Z, nI a, lt, rs, rt, rv) w i0 i1 kp dd tr m)
  refine zq_if .ge 24 (6 ≤ R) (by decide +kernel) (zq_cge (a := R) (b := 6) (by omega) (by omega)) (fun c11 => absurd c11 (by omega)) (fun c11 => ?_)
  show zq_G _ _ _ _ _ 14 ([(0, .ref 14), (1, .int (nI R))], [], XH tx n t (nI P, nI C, nI R, nI L, hs, ss, cs, gs, vs) (nI Z, nI a, lt, rs, rt, rv) w i0 i1 kp dd tr m)
  refine zq_b [zq_al 0, zq_k 0, zq_k 7] [zq_alchk 0, zq_kchk 0, zq_kchk 7] 18 rfl (by decide +kernel) ?_
  show zq_G _ _ _ _ _ 18 ([(0, .ref 14), (1, .int (nI R))], [.int 7, .int 0, .ref 14], XH tx n t (nI P, nI C, nI R, nI L, hs, ss, cs, gs, vs) (nI Z, nI a, lt, rs, rt, rv) w i0 i1 kp dd tr m)
  refine zq_callV (av := [.int 0, .int 7]) (rest := []) (by decide +kernel) k8_72 (c_num_t (lo := 0) (hi := 7) hZ hbt (by omega) hkA hlA hhA (by decide)) rfl rfl rfl rfl ?_
  show zq_G _ _ _ _ _ 21 ([(0, .ref 14), (1, .int (nI R))], [.int 1], XH tx n t (nI P, nI C, nI R, nI L, hs, ss, cs, gs, vs) (nI Z, nI (tkE bt Z a), lt, nI (tkS bt Z a), 2, nI (tkV bt Z a)) w i0 i1 kp dd tr m)
  refine zq_ifz .ne 26 (¬ 1 = 0) (by decide +kernel) (zq_cne (a := 1) (b := 0) (by omega) (by omega)) (fun c21 => ?_) (fun c21 => absurd (by decide) c21)
  show zq_G _ _ _ _ _ 26 ([(0, .ref 14), (1, .int (nI R))], [], XH tx n t (nI P, nI C, nI R, nI L, hs, ss, cs, gs, vs) (nI Z, nI (tkE bt Z a), lt, nI (tkS bt Z a), 2, nI (tkV bt Z a)) w i0 i1 kp dd tr m)
  refine zq_b [zq_al 0, zq_get 8 1, zq_get 9 7, zq_il 1, zq_al 0, zq_get 8 7, zq_iast R, zq_al 0, zq_k 0, zq_k 7] [zq_alchk 0, zq_getchk 8 1, zq_getchk 9 7, zq_ilchk 1, zq_alchk 0, zq_getchk 8 7, zq_is .iastore 1, zq_alchk 0, zq_kchk 0, zq_kchk 7] 43 rfl (by decide +kernel) ?_
  refine ⟨rfl, (by omega), (by omega), ?_⟩
  show zq_G _ _ _ _ _ 43 ([(0, .ref 14), (1, .int (nI R))], [.int 7, .int 0, .ref 14], XH tx n t (nI P, nI C, nI R, nI L, hs, ss, cs, upd gs R (nI (tkV bt Z a)), vs) (nI Z, nI (tkE bt Z a), lt, nI (tkS bt Z a), 2, nI (tkV bt Z a)) w i0 i1 kp dd tr m)
  refine zq_callV (av := [.int 0, .int 7]) (rest := []) (by decide +kernel) k8_72 (c_num_t (lo := 0) (hi := 7) hZ hbt (by omega) hkB hlB hhB (by decide)) rfl rfl rfl rfl ?_
  show zq_G _ _ _ _ _ 46 ([(0, .ref 14), (1, .int (nI R))], [.int 1], XH tx n t (nI P, nI C, nI R, nI L, hs, ss, cs, upd gs R (nI (tkV bt Z a)), vs) (nI Z, nI (tkE bt Z (tkE bt Z a)), lt, nI (tkS bt Z (tkE bt Z a)), 2, nI (tkV bt Z (tkE bt Z a))) w i0 i1 kp dd tr m)
  refine zq_ifz .eq 65 (1 = 0) (by decide +kernel) (zq_ceq (a := 1) (b := 0) (by omega) (by omega)) (fun c46 => absurd c46 (by decide)) (fun c46 => ?_)
  show zq_G _ _ _ _ _ 49 ([(0, .ref 14), (1, .int (nI R))], [], XH tx n t (nI P, nI C, nI R, nI L, hs, ss, cs, upd gs R (nI (tkV bt Z a)), vs) (nI Z, nI (tkE bt Z (tkE bt Z a)), lt, nI (tkS bt Z (tkE bt Z a)), 2, nI (tkV bt Z (tkE bt Z a))) w i0 i1 kp dd tr m)
  refine zq_b [zq_al 0, zq_get 8 7, zq_al 0, zq_get 8 1, zq_get 9 7, zq_il 1, zq_iald R (nI (tkV bt Z a))] [zq_alchk 0, zq_getchk 8 7, zq_alchk 0, zq_getchk 8 1, zq_getchk 9 7, zq_ilchk 1, zq_is .iaload 1] 62 rfl (by decide +kernel) ?_
  refine ⟨rfl, (by omega), (by omega), pk_us, ?_⟩
  show zq_G _ _ _ _ _ 62 ([(0, .ref 14), (1, .int (nI R))], [.int (nI (tkV bt Z a)), .int (nI (tkV bt Z (tkE bt Z a)))], XH tx n t (nI P, nI C, nI R, nI L, hs, ss, cs, upd gs R (nI (tkV bt Z a)), vs) (nI Z, nI (tkE bt Z (tkE bt Z a)), lt, nI (tkS bt Z (tkE bt Z a)), 2, nI (tkV bt Z (tkE bt Z a))) w i0 i1 kp dd tr m)
  refine zq_if .ne 67 (¬ (tkV bt Z (tkE bt Z a)) = (tkV bt Z a)) (by decide +kernel) (zq_cne (a := tkV bt Z (tkE bt Z a)) (b := tkV bt Z a) (by omega) (by omega)) (fun c62 => ?_) (fun c62 => absurd (by omega) c62)
  show zq_G _ _ _ _ _ 67 ([(0, .ref 14), (1, .int (nI R))], [], XH tx n t (nI P, nI C, nI R, nI L, hs, ss, cs, upd gs R (nI (tkV bt Z a)), vs) (nI Z, nI (tkE bt Z (tkE bt Z a)), lt, nI (tkS bt Z (tkE bt Z a)), 2, nI (tkV bt Z (tkE bt Z a))) w i0 i1 kp dd tr m)
  refine zq_b [zq_al 0, zq_get 8 1, zq_get 9 8, zq_il 1, zq_al 0, zq_get 8 7, zq_iast R, zq_al 0, zq_get 8 1, zq_dup, zq_get 9 2, zq_k 1, zq_iadd (nI (R + 1)), zq_puti 9 2, zq_al 0] [zq_alchk 0, zq_getchk 8 1, zq_getchk 9 8, zq_ilchk 1, zq_alchk 0, zq_getchk 8 7, zq_is .iastore 1, zq_alchk 0, zq_getchk 8 1, zq_is .dup 1, zq_getchk 9 2, zq_kchk 1, zq_is .iadd 1, zq_putchk 9 2 .int, zq_alchk 0] 94 rfl (by decide +kernel) ?_
  refine ⟨rfl, (by omega), (by omega), (nI_add R 1), ?_⟩
  show zq_G _ _ _ _ _ 94 ([(0, .ref 14), (1, .int (nI R))], [.ref 14], XH tx n t (nI P, nI C, nI (R + 1), nI L, hs, ss, cs, upd gs R (nI (tkV bt Z a)), upd vs R (nI (tkV bt Z (tkE bt Z a)))) (nI Z, nI (tkE bt Z (tkE bt Z a)), lt, nI (tkS bt Z (tkE bt Z a)), 2, nI (tkV bt Z (tkE bt Z a))) w i0 i1 kp dd tr m)
  refine zq_callV (av := []) (rest := []) (by decide +kernel) k8_82 (c_stop hZ hbt (by omega)) rfl rfl rfl rfl ?_
  show zq_G _ _ _ _ _ 97 ([(0, .ref 14), (1, .int (nI R))], [.int (zb (tkK bt Z (tkE bt Z (tkE bt Z a)) = 3))], XH tx n t (nI P, nI C, nI (R + 1), nI L, hs, ss, cs, upd gs R (nI (tkV bt Z a)), upd vs R (nI (tkV bt Z (tkE bt Z a)))) (nI Z, nI (tkE bt Z (tkE bt Z (tkE bt Z a))), lt, nI (tkS bt Z (tkE bt Z (tkE bt Z a))), nI (tkK bt Z (tkE bt Z (tkE bt Z a))), nxV bt Z (nI (tkV bt Z (tkE bt Z a))) (tkE bt Z (tkE bt Z a))) w i0 i1 kp dd tr m)
  exact zq_zret (by decide +kernel) rfl (zb_01 _) rfl rfl
set_option maxHeartbeats 4000000 in
set_option maxRecDepth 100000 in
theorem ri_tok {tk : Nat} (htk : ¬ tk = 1) (htk4 : tk ≤ 4) : zq_P l mX8_readItem 5 [.ref 14] (XH tx n t (nI P, nI C, nI R, nI L, hs, ss, cs, gs, vs) (nI Z, nI a, lt, rs, nI tk, rv) w i0 i1 kp dd tr m) (some (.int 0)) (XH tx n t (nI P, nI C, nI R, nI L, hs, ss, cs, gs, vs) (nI Z, nI a, lt, rs, nI tk, rv) w i0 i1 kp dd tr m) := by
  refine zq_start (by decide +kernel) rfl (Nat.le_of_ble_eq_true rfl) ?_
  show zq_G _ _ _ _ _ 0 ([(0, .ref 14)], [], XH tx n t (nI P, nI C, nI R, nI L, hs, ss, cs, gs, vs) (nI Z, nI a, lt, rs, nI tk, rv) w i0 i1 kp dd tr m)
  refine zq_b [zq_al 0, zq_get 8 6, zq_k 1] [zq_alchk 0, zq_getchk 8 6, zq_kchk 1] 5 rfl (by decide +kernel) ?_
  show zq_G _ _ _ _ _ 5 ([(0, .ref 14)], [.int 1, .int (nI tk)], XH tx n t (nI P, nI C, nI R, nI L, hs, ss, cs, gs, vs) (nI Z, nI a, lt, rs, nI tk, rv) w i0 i1 kp dd tr m)
  refine zq_if .eq 10 (tk = 1) (by decide +kernel) (zq_ceq (a := tk) (b := 1) (by omega) (by omega)) (fun c5 => absurd c5 (by omega)) (fun c5 => ?_)
  show zq_G _ _ _ _ _ 8 ([(0, .ref 14)], [], XH tx n t (nI P, nI C, nI R, nI L, hs, ss, cs, gs, vs) (nI Z, nI a, lt, rs, nI tk, rv) w i0 i1 kp dd tr m)
  refine zq_b [zq_k 0] [zq_kchk 0] 9 rfl (by decide +kernel) ?_
  show zq_G _ _ _ _ _ 9 ([(0, .ref 14)], [.int 0], XH tx n t (nI P, nI C, nI R, nI L, hs, ss, cs, gs, vs) (nI Z, nI a, lt, rs, nI tk, rv) w i0 i1 kp dd tr m)
  exact zq_zret (by decide +kernel) rfl (Or.inl rfl) rfl rfl
set_option maxHeartbeats 4000000 in
set_option maxRecDepth 100000 in
theorem ri_other {v : Nat} (hv : v ≤ 255) (h1 : ¬ v = 112) (h2 : ¬ v = 108) (h3 : ¬ v = 99) (h4 : ¬ v = 114) : zq_P l mX8_readItem 5 [.ref 14] (XH tx n t (nI P, nI C, nI R, nI L, hs, ss, cs, gs, vs) (nI Z, nI a, lt, rs, 1, nI v) w i0 i1 kp dd tr m) (some (.int 0)) (XH tx n t (nI P, nI C, nI R, nI L, hs, ss, cs, gs, vs) (nI Z, nI a, lt, rs, 1, nI v) w i0 i1 kp dd tr m) := by
  refine zq_start (by decide +kernel) rfl (Nat.le_of_ble_eq_true rfl) ?_
  show zq_G _ _ _ _ _ 0 ([(0, .ref 14)], [], XH tx n t (nI P, nI C, nI R, nI L, hs, ss, cs, gs, vs) (nI Z, nI a, lt, rs, 1, nI v) w i0 i1 kp dd tr m)
  refine zq_b [zq_al 0, zq_get 8 6, zq_k 1] [zq_alchk 0, zq_getchk 8 6, zq_kchk 1] 5 rfl (by decide +kernel) ?_
  show zq_G _ _ _ _ _ 5 ([(0, .ref 14)], [.int 1, .int 1], XH tx n t (nI P, nI C, nI R, nI L, hs, ss, cs, gs, vs) (nI Z, nI a, lt, rs, 1, nI v) w i0 i1 kp dd tr m)
  refine zq_if .eq 10 (1 = 1) (by decide +kernel) (zq_ceq (a := 1) (b := 1) (by omega) (by omega)) (fun c5 => ?_) (fun c5 => absurd rfl c5)
  show zq_G _ _ _ _ _ 10 ([(0, .ref 14)], [], XH tx n t (nI P, nI C, nI R, nI L, hs, ss, cs, gs, vs) (nI Z, nI a, lt, rs, 1, nI v) w i0 i1 kp dd tr m)
  refine zq_b [zq_al 0, zq_get 8 7] [zq_alchk 0, zq_getchk 8 7] 14 rfl (by decide +kernel) ?_
  show zq_G _ _ _ _ _ 14 ([(0, .ref 14)], [.int (nI v)], XH tx n t (nI P, nI C, nI R, nI L, hs, ss, cs, gs, vs) (nI Z, nI a, lt, rs, 1, nI v) w i0 i1 kp dd tr m)
  refine zq_swc [(99, 66), (108, 61), (112, 56), (114, 71)] 76 (by decide +kernel) ⟨fun c => absurd c (by rw [nI_toInt (by omega)]; omega), fun c => absurd c (by rw [nI_toInt (by omega)]; omega), fun c => absurd c (by rw [nI_toInt (by omega)]; omega), fun c => absurd c (by rw [nI_toInt (by omega)]; omega), trivial⟩ (fun _ => ?_)
  show zq_G _ _ _ _ _ 76 ([(0, .ref 14)], [], XH tx n t (nI P, nI C, nI R, nI L, hs, ss, cs, gs, vs) (nI Z, nI a, lt, rs, 1, nI v) w i0 i1 kp dd tr m)
  refine zq_b [zq_k 0] [zq_kchk 0] 77 rfl (by decide +kernel) ?_
  show zq_G _ _ _ _ _ 77 ([(0, .ref 14)], [.int 0], XH tx n t (nI P, nI C, nI R, nI L, hs, ss, cs, gs, vs) (nI Z, nI a, lt, rs, 1, nI v) w i0 i1 kp dd tr m)
  exact zq_zret (by decide +kernel) rfl (Or.inl rfl) rfl rfl
set_option maxHeartbeats 4000000 in
set_option maxRecDepth 100000 in
theorem ri_p  (hq : q = 0 ∨ q = 1) (hM : zq_P l mX8_readPerson 4 [.ref 14] (XH tx n t (nI P, nI C, nI R, nI L, hs, ss, cs, gs, vs) (nI Z, nI a, lt, rs, 1, 112) w i0 i1 kp dd tr m) (some (.int q)) h2) : zq_P l mX8_readItem 5 [.ref 14] (XH tx n t (nI P, nI C, nI R, nI L, hs, ss, cs, gs, vs) (nI Z, nI a, lt, rs, 1, 112) w i0 i1 kp dd tr m) (some (.int q)) (h2) := by
  refine zq_start (by decide +kernel) rfl (Nat.le_of_ble_eq_true rfl) ?_
  show zq_G _ _ _ _ _ 0 ([(0, .ref 14)], [], XH tx n t (nI P, nI C, nI R, nI L, hs, ss, cs, gs, vs) (nI Z, nI a, lt, rs, 1, 112) w i0 i1 kp dd tr m)
  refine zq_b [zq_al 0, zq_get 8 6, zq_k 1] [zq_alchk 0, zq_getchk 8 6, zq_kchk 1] 5 rfl (by decide +kernel) ?_
  show zq_G _ _ _ _ _ 5 ([(0, .ref 14)], [.int 1, .int 1], XH tx n t (nI P, nI C, nI R, nI L, hs, ss, cs, gs, vs) (nI Z, nI a, lt, rs, 1, 112) w i0 i1 kp dd tr m)
  refine zq_if .eq 10 (1 = 1) (by decide +kernel) (zq_ceq (a := 1) (b := 1) (by omega) (by omega)) (fun c5 => ?_) (fun c5 => absurd rfl c5)
  show zq_G _ _ _ _ _ 10 ([(0, .ref 14)], [], XH tx n t (nI P, nI C, nI R, nI L, hs, ss, cs, gs, vs) (nI Z, nI a, lt, rs, 1, 112) w i0 i1 kp dd tr m)
  refine zq_b [zq_al 0, zq_get 8 7] [zq_alchk 0, zq_getchk 8 7] 14 rfl (by decide +kernel) ?_
  show zq_G _ _ _ _ _ 14 ([(0, .ref 14)], [.int 112], XH tx n t (nI P, nI C, nI R, nI L, hs, ss, cs, gs, vs) (nI Z, nI a, lt, rs, 1, 112) w i0 i1 kp dd tr m)
  refine zq_swc [(99, 66), (108, 61), (112, 56), (114, 71)] 76 (by decide +kernel) ⟨fun c => absurd c (by decide), fun c => absurd c (by decide), fun _ => ?_, fun c => absurd c (by decide), trivial⟩ (fun c => absurd (by decide) c.2.2.1)
  show zq_G _ _ _ _ _ 56 ([(0, .ref 14)], [], XH tx n t (nI P, nI C, nI R, nI L, hs, ss, cs, gs, vs) (nI Z, nI a, lt, rs, 1, 112) w i0 i1 kp dd tr m)
  refine zq_b [zq_al 0] [zq_alchk 0] 57 rfl (by decide +kernel) ?_
  show zq_G _ _ _ _ _ 57 ([(0, .ref 14)], [.ref 14], XH tx n t (nI P, nI C, nI R, nI L, hs, ss, cs, gs, vs) (nI Z, nI a, lt, rs, 1, 112) w i0 i1 kp dd tr m)
  refine zq_callV (av := []) (rest := []) (by decide +kernel) k8_57 (hM) rfl rfl rfl rfl ?_
  show zq_G _ _ _ _ _ 60 ([(0, .ref 14)], [.int q], h2)
  exact zq_zret (by decide +kernel) rfl hq rfl rfl
set_option maxHeartbeats 4000000 in
set_option maxRecDepth 100000 in
theorem ri_l  (hq : q = 0 ∨ q = 1) (hM : zq_P l mX8_readLate 4 [.ref 14] (XH tx n t (nI P, nI C, nI R, nI L, hs, ss, cs, gs, vs) (nI Z, nI a, lt, rs, 1, 108) w i0 i1 kp dd tr m) (some (.int q)) h2) : zq_P l mX8_readItem 5 [.ref 14] (XH tx n t (nI P, nI C, nI R, nI L, hs, ss, cs, gs, vs) (nI Z, nI a, lt, rs, 1, 108) w i0 i1 kp dd tr m) (some (.int q)) (h2) := by
  refine zq_start (by decide +kernel) rfl (Nat.le_of_ble_eq_true rfl) ?_
  show zq_G _ _ _ _ _ 0 ([(0, .ref 14)], [], XH tx n t (nI P, nI C, nI R, nI L, hs, ss, cs, gs, vs) (nI Z, nI a, lt, rs, 1, 108) w i0 i1 kp dd tr m)
  refine zq_b [zq_al 0, zq_get 8 6, zq_k 1] [zq_alchk 0, zq_getchk 8 6, zq_kchk 1] 5 rfl (by decide +kernel) ?_
  show zq_G _ _ _ _ _ 5 ([(0, .ref 14)], [.int 1, .int 1], XH tx n t (nI P, nI C, nI R, nI L, hs, ss, cs, gs, vs) (nI Z, nI a, lt, rs, 1, 108) w i0 i1 kp dd tr m)
  refine zq_if .eq 10 (1 = 1) (by decide +kernel) (zq_ceq (a := 1) (b := 1) (by omega) (by omega)) (fun c5 => ?_) (fun c5 => absurd rfl c5)
  show zq_G _ _ _ _ _ 10 ([(0, .ref 14)], [], XH tx n t (nI P, nI C, nI R, nI L, hs, ss, cs, gs, vs) (nI Z, nI a, lt, rs, 1, 108) w i0 i1 kp dd tr m)
  refine zq_b [zq_al 0, zq_get 8 7] [zq_alchk 0, zq_getchk 8 7] 14 rfl (by decide +kernel) ?_
  show zq_G _ _ _ _ _ 14 ([(0, .ref 14)], [.int 108], XH tx n t (nI P, nI C, nI R, nI L, hs, ss, cs, gs, vs) (nI Z, nI a, lt, rs, 1, 108) w i0 i1 kp dd tr m)
  refine zq_swc [(99, 66), (108, 61), (112, 56), (114, 71)] 76 (by decide +kernel) ⟨fun c => absurd c (by decide), fun _ => ?_, fun c => absurd c (by decide), fun c => absurd c (by decide), trivial⟩ (fun c => absurd (by decide) c.2.1)
  show zq_G _ _ _ _ _ 61 ([(0, .ref 14)], [], XH tx n t (nI P, nI C, nI R, nI L, hs, ss, cs, gs, vs) (nI Z, nI a, lt, rs, 1, 108) w i0 i1 kp dd tr m)
  refine zq_b [zq_al 0] [zq_alchk 0] 62 rfl (by decide +kernel) ?_
  show zq_G _ _ _ _ _ 62 ([(0, .ref 14)], [.ref 14], XH tx n t (nI P, nI C, nI R, nI L, hs, ss, cs, gs, vs) (nI Z, nI a, lt, rs, 1, 108) w i0 i1 kp dd tr m)
  refine zq_callV (av := []) (rest := []) (by decide +kernel) k8_60 (hM) rfl rfl rfl rfl ?_
  show zq_G _ _ _ _ _ 65 ([(0, .ref 14)], [.int q], h2)
  exact zq_zret (by decide +kernel) rfl hq rfl rfl
set_option maxHeartbeats 4000000 in
set_option maxRecDepth 100000 in
theorem ri_c  (hq : q = 0 ∨ q = 1) (hM : zq_P l mX8_readCloud 4 [.ref 14] (XH tx n t (nI P, nI C, nI R, nI L, hs, ss, cs, gs, vs) (nI Z, nI a, lt, rs, 1, 99) w i0 i1 kp dd tr m) (some (.int q)) h2) : zq_P l mX8_readItem 5 [.ref 14] (XH tx n t (nI P, nI C, nI R, nI L, hs, ss, cs, gs, vs) (nI Z, nI a, lt, rs, 1, 99) w i0 i1 kp dd tr m) (some (.int q)) (h2) := by
  refine zq_start (by decide +kernel) rfl (Nat.le_of_ble_eq_true rfl) ?_
  show zq_G _ _ _ _ _ 0 ([(0, .ref 14)], [], XH tx n t (nI P, nI C, nI R, nI L, hs, ss, cs, gs, vs) (nI Z, nI a, lt, rs, 1, 99) w i0 i1 kp dd tr m)
  refine zq_b [zq_al 0, zq_get 8 6, zq_k 1] [zq_alchk 0, zq_getchk 8 6, zq_kchk 1] 5 rfl (by decide +kernel) ?_
  show zq_G _ _ _ _ _ 5 ([(0, .ref 14)], [.int 1, .int 1], XH tx n t (nI P, nI C, nI R, nI L, hs, ss, cs, gs, vs) (nI Z, nI a, lt, rs, 1, 99) w i0 i1 kp dd tr m)
  refine zq_if .eq 10 (1 = 1) (by decide +kernel) (zq_ceq (a := 1) (b := 1) (by omega) (by omega)) (fun c5 => ?_) (fun c5 => absurd rfl c5)
  show zq_G _ _ _ _ _ 10 ([(0, .ref 14)], [], XH tx n t (nI P, nI C, nI R, nI L, hs, ss, cs, gs, vs) (nI Z, nI a, lt, rs, 1, 99) w i0 i1 kp dd tr m)
  refine zq_b [zq_al 0, zq_get 8 7] [zq_alchk 0, zq_getchk 8 7] 14 rfl (by decide +kernel) ?_
  show zq_G _ _ _ _ _ 14 ([(0, .ref 14)], [.int 99], XH tx n t (nI P, nI C, nI R, nI L, hs, ss, cs, gs, vs) (nI Z, nI a, lt, rs, 1, 99) w i0 i1 kp dd tr m)
  refine zq_swc [(99, 66), (108, 61), (112, 56), (114, 71)] 76 (by decide +kernel) ⟨fun _ => ?_, fun c => absurd c (by decide), fun c => absurd c (by decide), fun c => absurd c (by decide), trivial⟩ (fun c => absurd (by decide) c.1)
  show zq_G _ _ _ _ _ 66 ([(0, .ref 14)], [], XH tx n t (nI P, nI C, nI R, nI L, hs, ss, cs, gs, vs) (nI Z, nI a, lt, rs, 1, 99) w i0 i1 kp dd tr m)
  refine zq_b [zq_al 0] [zq_alchk 0] 67 rfl (by decide +kernel) ?_
  show zq_G _ _ _ _ _ 67 ([(0, .ref 14)], [.ref 14], XH tx n t (nI P, nI C, nI R, nI L, hs, ss, cs, gs, vs) (nI Z, nI a, lt, rs, 1, 99) w i0 i1 kp dd tr m)
  refine zq_callV (av := []) (rest := []) (by decide +kernel) k8_63 (hM) rfl rfl rfl rfl ?_
  show zq_G _ _ _ _ _ 70 ([(0, .ref 14)], [.int q], h2)
  exact zq_zret (by decide +kernel) rfl hq rfl rfl
set_option maxHeartbeats 4000000 in
set_option maxRecDepth 100000 in
theorem ri_r  (hq : q = 0 ∨ q = 1) (hM : zq_P l mX8_readRule 4 [.ref 14] (XH tx n t (nI P, nI C, nI R, nI L, hs, ss, cs, gs, vs) (nI Z, nI a, lt, rs, 1, 114) w i0 i1 kp dd tr m) (some (.int q)) h2) : zq_P l mX8_readItem 5 [.ref 14] (XH tx n t (nI P, nI C, nI R, nI L, hs, ss, cs, gs, vs) (nI Z, nI a, lt, rs, 1, 114) w i0 i1 kp dd tr m) (some (.int q)) (h2) := by
  refine zq_start (by decide +kernel) rfl (Nat.le_of_ble_eq_true rfl) ?_
  show zq_G _ _ _ _ _ 0 ([(0, .ref 14)], [], XH tx n t (nI P, nI C, nI R, nI L, hs, ss, cs, gs, vs) (nI Z, nI a, lt, rs, 1, 114) w i0 i1 kp dd tr m)
  refine zq_b [zq_al 0, zq_get 8 6, zq_k 1] [zq_alchk 0, zq_getchk 8 6, zq_kchk 1] 5 rfl (by decide +kernel) ?_
  show zq_G _ _ _ _ _ 5 ([(0, .ref 14)], [.int 1, .int 1], XH tx n t (nI P, nI C, nI R, nI L, hs, ss, cs, gs, vs) (nI Z, nI a, lt, rs, 1, 114) w i0 i1 kp dd tr m)
  refine zq_if .eq 10 (1 = 1) (by decide +kernel) (zq_ceq (a := 1) (b := 1) (by omega) (by omega)) (fun c5 => ?_) (fun c5 => absurd rfl c5)
  show zq_G _ _ _ _ _ 10 ([(0, .ref 14)], [], XH tx n t (nI P, nI C, nI R, nI L, hs, ss, cs, gs, vs) (nI Z, nI a, lt, rs, 1, 114) w i0 i1 kp dd tr m)
  refine zq_b [zq_al 0, zq_get 8 7] [zq_alchk 0, zq_getchk 8 7] 14 rfl (by decide +kernel) ?_
  show zq_G _ _ _ _ _ 14 ([(0, .ref 14)], [.int 114], XH tx n t (nI P, nI C, nI R, nI L, hs, ss, cs, gs, vs) (nI Z, nI a, lt, rs, 1, 114) w i0 i1 kp dd tr m)
  refine zq_swc [(99, 66), (108, 61), (112, 56), (114, 71)] 76 (by decide +kernel) ⟨fun c => absurd c (by decide), fun c => absurd c (by decide), fun c => absurd c (by decide), fun _ => ?_, trivial⟩ (fun c => absurd (by decide) c.2.2.2.1)
  show zq_G _ _ _ _ _ 71 ([(0, .ref 14)], [], XH tx n t (nI P, nI C, nI R, nI L, hs, ss, cs, gs, vs) (nI Z, nI a, lt, rs, 1, 114) w i0 i1 kp dd tr m)
  refine zq_b [zq_al 0] [zq_alchk 0] 72 rfl (by decide +kernel) ?_
  show zq_G _ _ _ _ _ 72 ([(0, .ref 14)], [.ref 14], XH tx n t (nI P, nI C, nI R, nI L, hs, ss, cs, gs, vs) (nI Z, nI a, lt, rs, 1, 114) w i0 i1 kp dd tr m)
  refine zq_callV (av := []) (rest := []) (by decide +kernel) k8_66 (hM) rfl rfl rfl rfl ?_
  show zq_G _ _ _ _ _ 75 ([(0, .ref 14)], [.int q], h2)
  exact zq_zret (by decide +kernel) rfl hq rfl rfl
end XV7
