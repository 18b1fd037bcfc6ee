section XV8
variable {l : Launch} {tx : Nat → Int32} {n : Int32} {t dr dr2 : zT} {rd rd2 : zR} {w i0 i1 : zN} {kp : Nat → Int32} {dd : Int32} {tr : Int64} {m : Nat → zq_C} {h h2 : zq_H}
variable {Z a k s : Nat} {bt : Nat → Nat} {lt rs rt rv : Int32} {q : Int32} {r : Option Value}
theorem zi_m10 (s : Nat) : (-10 : Int32) - nI s = zi (-10 - (s : Int)) := by
  have e : (-10 : Int32) = Int32.ofInt (-10) := by decide
  rw [← zi_nat (z := (s : Int)) rfl, e]
  unfold zi
  rw [← Int32.ofInt_sub]
set_option maxHeartbeats 4000000 in
set_option maxRecDepth 100000 in
theorem ra_end (hZ : Z ≤ 200) (hbt : ∀ j, j < Z → tx j = nI (bt j) ∧ bt j ≤ 255) (ha : a ≤ Z) (hk : k ≤ 200) (h0 : tkK bt Z a = 0) : zq_G l mX8_readAll 6 (some (.int (nI k))) (XH tx n t dr (nI Z, nI (tkE bt Z a), lt, nI (tkS bt Z a), nI (tkK bt Z a), nxV bt Z rv a) w i0 i1 kp dd tr m) 34 ([(0, .ref 14), (1, .int (nI Z)), (2, .int (nI k)), (3, .int (nI k))], [], XH tx n t dr (nI Z, nI a, lt, rs, rt, rv) w i0 i1 kp dd tr m) := by
  have hk4 := tkK_le bt Z a
  refine zq_b [zq_il 3, zq_k 200] [zq_ilchk 3, zq_kchk 200] 38 rfl (by decide +kernel) ?_
  show zq_G _ _ _ _ _ 38 ([(0, .ref 14), (1, .int (nI Z)), (2, .int (nI k)), (3, .int (nI k))], [.int 200, .int (nI k)], XH tx n t dr (nI Z, nI a, lt, rs, rt, rv) w i0 i1 kp dd tr m)
  refine zq_if .gt 78 (200 < k) (by decide +kernel) (zq_cgt (a := k) (b := 200) (by omega) (by omega)) (fun c38 => absurd c38 (by omega)) (fun c38 => ?_)
  show zq_G _ _ _ _ _ 41 ([(0, .ref 14), (1, .int (nI Z)), (2, .int (nI k)), (3, .int (nI k))], [], XH tx n t dr (nI Z, nI a, lt, rs, rt, rv) w i0 i1 kp dd tr m)
  refine zq_b [zq_al 0] [zq_alchk 0] 42 rfl (by decide +kernel) ?_
  show zq_G _ _ _ _ _ 42 ([(0, .ref 14), (1, .int (nI Z)), (2, .int (nI k)), (3, .int (nI k))], [.ref 14], XH tx n t dr (nI Z, nI a, lt, rs, rt, rv) w i0 i1 kp dd tr m)
  refine zq_callV (av := []) (rest := []) (by decide +kernel) k8_41 (c_next hZ hbt (by omega)) rfl rfl rfl rfl ?_
  show zq_G _ _ _ _ _ 45 ([(0, .ref 14), (1, .int (nI Z)), (2, .int (nI k)), (3, .int (nI k))], [], XH tx n t dr (nI Z, nI (tkE bt Z a), lt, nI (tkS bt Z a), nI (tkK bt Z a), nxV bt Z rv a) w i0 i1 kp dd tr m)
  refine zq_b [zq_al 0, zq_get 8 6] [zq_alchk 0, zq_getchk 8 6] 49 rfl (by decide +kernel) ?_
  show zq_G _ _ _ _ _ 49 ([(0, .ref 14), (1, .int (nI Z)), (2, .int (nI k)), (3, .int (nI k))], [.int (nI (tkK bt Z a))], XH tx n t dr (nI Z, nI (tkE bt Z a), lt, nI (tkS bt Z a), nI (tkK bt Z a), nxV bt Z rv a) w i0 i1 kp dd tr m)
  refine zq_ifz .ne 54 (¬ (tkK bt Z a) = 0) (by decide +kernel) (zq_cne (a := tkK bt Z a) (b := 0) (by omega) (by omega)) (fun c49 => absurd c49 (fun q => q h0)) (fun c49 => ?_)
  show zq_G _ _ _ _ _ 52 ([(0, .ref 14), (1, .int (nI Z)), (2, .int (nI k)), (3, .int (nI k))], [], XH tx n t dr (nI Z, nI (tkE bt Z a), lt, nI (tkS bt Z a), nI (tkK bt Z a), nxV bt Z rv a) w i0 i1 kp dd tr m)
  refine zq_b [zq_il 2] [zq_ilchk 2] 53 rfl (by decide +kernel) ?_
  show zq_G _ _ _ _ _ 53 ([(0, .ref 14), (1, .int (nI Z)), (2, .int (nI k)), (3, .int (nI k))], [.int (nI k)], XH tx n t dr (nI Z, nI (tkE bt Z a), lt, nI (tkS bt Z a), nI (tkK bt Z a), nxV bt Z rv a) w i0 i1 kp dd tr m)
  exact zq_iret (by decide +kernel) rfl rfl rfl
set_option maxHeartbeats 4000000 in
set_option maxRecDepth 100000 in
theorem ra_bad (hZ : Z ≤ 200) (hbt : ∀ j, j < Z → tx j = nI (bt j) ∧ bt j ≤ 255) (ha : a ≤ Z) (hk : k ≤ 200) (h0 : ¬ tkK bt Z a = 0) (hs2 : rd2.2.2.2.1 = nI s) (hM : zq_P l mX8_readItem 5 [.ref 14] (XH tx n t dr (nI Z, nI (tkE bt Z a), lt, nI (tkS bt Z a), nI (tkK bt Z a), nxV bt Z rv a) w i0 i1 kp dd tr m) (some (.int 0)) (XH tx n t dr2 rd2 w i0 i1 kp dd tr m)) : zq_G l mX8_readAll 6 (some (.int (zi (-10 - (s : Int))))) (XH tx n t dr2 rd2 w i0 i1 kp dd tr m) 34 ([(0, .ref 14), (1, .int (nI Z)), (2, .int (nI k)), (3, .int (nI k))], [], XH tx n t dr (nI Z, nI a, lt, rs, rt, rv) w i0 i1 kp dd tr m) := by
  have hk4 := tkK_le bt Z a
  refine zq_b [zq_il 3, zq_k 200] [zq_ilchk 3, zq_kchk 200] 38 rfl (by decide +kernel) ?_
  show zq_G _ _ _ _ _ 38 ([(0, .ref 14), (1, .int (nI Z)), (2, .int (nI k)), (3, .int (nI k))], [.int 200, .int (nI k)], XH tx n t dr (nI Z, nI a, lt, rs, rt, rv) w i0 i1 kp dd tr m)
  refine zq_if .gt 78 (200 < k) (by decide +kernel) (zq_cgt (a := k) (b := 200) (by omega) (by omega)) (fun c38 => absurd c38 (by omega)) (fun c38 => ?_)
  show zq_G _ _ _ _ _ 41 ([(0, .ref 14), (1, .int (nI Z)), (2, .int (nI k)), (3, .int (nI k))], [], XH tx n t dr (nI Z, nI a, lt, rs, rt, rv) w i0 i1 kp dd tr m)
  refine zq_b [zq_al 0] [zq_alchk 0] 42 rfl (by decide +kernel) ?_
  show zq_G _ _ _ _ _ 42 ([(0, .ref 14), (1, .int (nI Z)), (2, .int (nI k)), (3, .int (nI k))], [.ref 14], XH tx n t dr (nI Z, nI a, lt, rs, rt, rv) w i0 i1 kp dd tr m)
  refine zq_callV (av := []) (rest := []) (by decide +kernel) k8_41 (c_next hZ hbt (by omega)) rfl rfl rfl rfl ?_
  show zq_G _ _ _ _ _ 45 ([(0, .ref 14), (1, .int (nI Z)), (2, .int (nI k)), (3, .int (nI k))], [], XH tx n t dr (nI Z, nI (tkE bt Z a), lt, nI (tkS bt Z a), nI (tkK bt Z a), nxV bt Z rv a) w i0 i1 kp dd tr m)
  refine zq_b [zq_al 0, zq_get 8 6] [zq_alchk 0, zq_getchk 8 6] 49 rfl (by decide +kernel) ?_
  show zq_G _ _ _ _ _ 49 ([(0, .ref 14), (1, .int (nI Z)), (2, .int (nI k)), (3, .int (nI k))], [.int (nI (tkK bt Z a))], XH tx n t dr (nI Z, nI (tkE bt Z a), lt, nI (tkS bt Z a), nI (tkK bt Z a), nxV bt Z rv a) w i0 i1 kp dd tr m)
  refine zq_ifz .ne 54 (¬ (tkK bt Z a) = 0) (by decide +kernel) (zq_cne (a := tkK bt Z a) (b := 0) (by omega) (by omega)) (fun c49 => ?_) (fun c49 => absurd h0 c49)
  show zq_G _ _ _ _ _ 54 ([(0, .ref 14), (1, .int (nI Z)), (2, .int (nI k)), (3, .int (nI k))], [], XH tx n t dr (nI Z, nI (tkE bt Z a), lt, nI (tkS bt Z a), nI (tkK bt Z a), nxV bt Z rv a) w i0 i1 kp dd tr m)
  refine zq_b [zq_al 0] [zq_alchk 0] 55 rfl (by decide +kernel) ?_
  show zq_G _ _ _ _ _ 55 ([(0, .ref 14), (1, .int (nI Z)), (2, .int (nI k)), (3, .int (nI k))], [.ref 14], XH tx n t dr (nI Z, nI (tkE bt Z a), lt, nI (tkS bt Z a), nI (tkK bt Z a), nxV bt Z rv a) w i0 i1 kp dd tr m)
  refine zq_callV (av := []) (rest := []) (by decide +kernel) k8_47 (hM) rfl rfl rfl rfl ?_
  show zq_G _ _ _ _ _ 58 ([(0, .ref 14), (1, .int (nI Z)), (2, .int (nI k)), (3, .int (nI k))], [.int 0], XH tx n t dr2 rd2 w i0 i1 kp dd tr m)
  refine zq_ifz .ne 69 (¬ 0 = 0) (by decide +kernel) (zq_cne (a := 0) (b := 0) (by omega) (by omega)) (fun c58 => absurd c58 (fun q => q rfl)) (fun c58 => ?_)
  show zq_G _ _ _ _ _ 61 ([(0, .ref 14), (1, .int (nI Z)), (2, .int (nI k)), (3, .int (nI k))], [], XH tx n t dr2 rd2 w i0 i1 kp dd tr m)
  refine zq_b [zq_k (-10), zq_al 0, zq_get 8 5, zq_isub (zi (-10 - (s : Int)))] [zq_kchk (-10), zq_alchk 0, zq_getchk 8 5, zq_is .isub 1] 68 rfl (by decide +kernel) ?_
  refine ⟨(by rw [hs2]; exact zi_m10 s), ?_⟩
  show zq_G _ _ _ _ _ 68 ([(0, .ref 14), (1, .int (nI Z)), (2, .int (nI k)), (3, .int (nI k))], [.int (zi (-10 - (s : Int)))], XH tx n t dr2 rd2 w i0 i1 kp dd tr m)
  exact zq_iret (by decide +kernel) rfl rfl rfl
set_option maxHeartbeats 4000000 in
set_option maxRecDepth 100000 in
theorem ra_go (hZ : Z ≤ 200) (hbt : ∀ j, j < Z → tx j = nI (bt j) ∧ bt j ≤ 255) (ha : a ≤ Z) (hk : k ≤ 200) (h0 : ¬ tkK bt Z a = 0) (hM : zq_P l mX8_readItem 5 [.ref 14] (XH tx n t dr (nI Z, nI (tkE bt Z a), lt, nI (tkS bt Z a), nI (tkK bt Z a), nxV bt Z rv a) w i0 i1 kp dd tr m) (some (.int 1)) (XH tx n t dr2 rd2 w i0 i1 kp dd tr m)) (hG : zq_G l mX8_readAll 6 r h2 34 ([(0, .ref 14), (1, .int (nI Z)), (2, .int (nI (k + 1))), (3, .int (nI (k + 1)))], [], XH tx n t dr2 rd2 w i0 i1 kp dd tr m)) : zq_G l mX8_readAll 6 r (h2) 34 ([(0, .ref 14), (1, .int (nI Z)), (2, .int (nI k)), (3, .int (nI k))], [], XH tx n t dr (nI Z, nI a, lt, rs, rt, rv) w i0 i1 kp dd tr m) := by
  have hk4 := tkK_le bt Z a
  refine zq_b [zq_il 3, zq_k 200] [zq_ilchk 3, zq_kchk 200] 38 rfl (by decide +kernel) ?_
  show zq_G _ _ _ _ _ 38 ([(0, .ref 14), (1, .int (nI Z)), (2, .int (nI k)), (3, .int (nI k))], [.int 200, .int (nI k)], XH tx n t dr (nI Z, nI a, lt, rs, rt, rv) w i0 i1 kp dd tr m)
  refine zq_if .gt 78 (200 < k) (by decide +kernel) (zq_cgt (a := k) (b := 200) (by omega) (by omega)) (fun c38 => absurd c38 (by omega)) (fun c38 => ?_)
  show zq_G _ _ _ _ _ 41 ([(0, .ref 14), (1, .int (nI Z)), (2, .int (nI k)), (3, .int (nI k))], [], XH tx n t dr (nI Z, nI a, lt, rs, rt, rv) w i0 i1 kp dd tr m)
  refine zq_b [zq_al 0] [zq_alchk 0] 42 rfl (by decide +kernel) ?_
  show zq_G _ _ _ _ _ 42 ([(0, .ref 14), (1, .int (nI Z)), (2, .int (nI k)), (3, .int (nI k))], [.ref 14], XH tx n t dr (nI Z, nI a, lt, rs, rt, rv) w i0 i1 kp dd tr m)
  refine zq_callV (av := []) (rest := []) (by decide +kernel) k8_41 (c_next hZ hbt (by omega)) rfl rfl rfl rfl ?_
  show zq_G _ _ _ _ _ 45 ([(0, .ref 14), (1, .int (nI Z)), (2, .int (nI k)), (3, .int (nI k))], [], XH tx n t dr (nI Z, nI (tkE bt Z a), lt, nI (tkS bt Z a), nI (tkK bt Z a), nxV bt Z rv a) w i0 i1 kp dd tr m)
  refine zq_b [zq_al 0, zq_get 8 6] [zq_alchk 0, zq_getchk 8 6] 49 rfl (by decide +kernel) ?_
  show zq_G _ _ _ _ _ 49 ([(0, .ref 14), (1, .int (nI Z)), (2, .int (nI k)), (3, .int (nI k))], [.int (nI (tkK bt Z a))], XH tx n t dr (nI Z, nI (tkE bt Z a), lt, nI (tkS bt Z a), nI (tkK bt Z a), nxV bt Z rv a) w i0 i1 kp dd tr m)
  refine zq_ifz .ne 54 (¬ (tkK bt Z a) = 0) (by decide +kernel) (zq_cne (a := tkK bt Z a) (b := 0) (by omega) (by omega)) (fun c49 => ?_) (fun c49 => absurd h0 c49)
  show zq_G _ _ _ _ _ 54 ([(0, .ref 14), (1, .int (nI Z)), (2, .int (nI k)), (3, .int (nI k))], [], XH tx n t dr (nI Z, nI (tkE bt Z a), lt, nI (tkS bt Z a), nI (tkK bt Z a), nxV bt Z rv a) w i0 i1 kp dd tr m)
  refine zq_b [zq_al 0] [zq_alchk 0] 55 rfl (by decide +kernel) ?_
  show zq_G _ _ _ _ _ 55 ([(0, .ref 14), (1, .int (nI Z)), (2, .int (nI k)), (3, .int (nI k))], [.ref 14], XH tx n t dr (nI Z, nI (tkE bt Z a), lt, nI (tkS bt Z a), nI (tkK bt Z a), nxV bt Z rv a) w i0 i1 kp dd tr m)
  refine zq_callV (av := []) (rest := []) (by decide +kernel) k8_47 (hM) rfl rfl rfl rfl ?_
  show zq_G _ _ _ _ _ 58 ([(0, .ref 14), (1, .int (nI Z)), (2, .int (nI k)), (3, .int (nI k))], [.int 1], XH tx n t dr2 rd2 w i0 i1 kp dd tr m)
  refine zq_ifz .ne 69 (¬ 1 = 0) (by decide +kernel) (zq_cne (a := 1) (b := 0) (by omega) (by omega)) (fun c58 => ?_) (fun c58 => absurd (by decide) c58)
  show zq_G _ _ _ _ _ 69 ([(0, .ref 14), (1, .int (nI Z)), (2, .int (nI k)), (3, .int (nI k))], [], XH tx n t dr2 rd2 w i0 i1 kp dd tr m)
  refine zq_b [zq_inc 2 1 (nI (k + 1)), zq_inc 3 1 (nI (k + 1)), zq_go] [zq_incchk 2 1, zq_incchk 3 1, zq_gochk] 34 rfl (by decide +kernel) ?_
  refine ⟨nI_add k 1, nI_add k 1, ?_⟩
  show zq_G _ _ _ _ _ 34 ([(0, .ref 14), (1, .int (nI Z)), (2, .int (nI (k + 1))), (3, .int (nI (k + 1)))], [], XH tx n t dr2 rd2 w i0 i1 kp dd tr m)
  exact hG
set_option maxHeartbeats 4000000 in
set_option maxRecDepth 100000 in
theorem ra_start  (hZ : Z ≤ 200) (hG : zq_G l mX8_readAll 6 (some (.int q)) h2 34 ([(0, .ref 14), (1, .int (nI Z)), (2, .int 0), (3, .int 0)], [], XH tx n t (0, 0, 0, 12, dr.2.2.2.2.1, dr.2.2.2.2.2.1, dr.2.2.2.2.2.2.1, dr.2.2.2.2.2.2.2.1, dr.2.2.2.2.2.2.2.2) (nI Z, 0, 0, rd.2.2.2.1, rd.2.2.2.2.1, rd.2.2.2.2.2) w i0 i1 kp dd tr m)) : zq_P l mX8_readAll 6 [.ref 14, .int (nI Z)] (XH tx n t dr rd w i0 i1 kp dd tr m) (some (.int q)) (h2) := by
  refine zq_start (by decide +kernel) rfl (Nat.le_of_ble_eq_true rfl) ?_
  show zq_G _ _ _ _ _ 0 ([(0, .ref 14), (1, .int (nI Z))], [], XH tx n t dr rd w i0 i1 kp dd tr m)
  refine zq_b [zq_al 0, zq_il 1, zq_al 0, zq_get 8 0, zq_alen] [zq_alchk 0, zq_ilchk 1, zq_alchk 0, zq_getchk 8 0, zq_is .arraylength 1] 7 rfl (by decide +kernel) ?_
  show zq_G _ _ _ _ _ 7 ([(0, .ref 14), (1, .int (nI Z))], [.int 200, .int (nI Z), .ref 14], XH tx n t dr rd w i0 i1 kp dd tr m)
  refine zq_mmin (rest := [.ref 14]) (by decide +kernel) k8_19 rfl ?_
  show zq_G _ _ _ _ _ 10 ([(0, .ref 14), (1, .int (nI Z))], [.int (if 200 < (nI Z) then 200 else (nI Z)), .ref 14], XH tx n t dr rd w i0 i1 kp dd tr m)
  refine zq_eq (σ2 := ([(0, .ref 14), (1, .int (nI Z))], [.int (nI Z), .ref 14], XH tx n t dr rd w i0 i1 kp dd tr m)) (by rw [if_neg (show ¬ (200 : Int32) < nI Z from fun q => absurd ((nI_ltI (a := 200) (b := Z) (by omega) (by omega)).mp q) (by omega))]) ?_
  refine zq_b [zq_puti 8 2, zq_al 0, zq_k 0, zq_puti 8 3, zq_al 0, zq_k 0, zq_putz 8 4, zq_al 0, zq_get 8 1] [zq_putchk 8 2 .int, zq_alchk 0, zq_kchk 0, zq_putchk 8 3 .int, zq_alchk 0, zq_kchk 0, zq_putchk 8 4 .boolean, zq_alchk 0, zq_getchk 8 1] 27 rfl (by decide +kernel) ?_
  refine ⟨(Or.inl rfl), ?_⟩
  show zq_G _ _ _ _ _ 27 ([(0, .ref 14), (1, .int (nI Z))], [.ref 8], XH tx n t dr (nI Z, 0, 0, rd.2.2.2.1, rd.2.2.2.2.1, rd.2.2.2.2.2) w i0 i1 kp dd tr m)
  refine zq_callV (av := []) (rest := []) (by decide +kernel) k8_36 (c_forget) rfl rfl rfl rfl ?_
  show zq_G _ _ _ _ _ 30 ([(0, .ref 14), (1, .int (nI Z))], [], XH tx n t (0, 0, 0, 12, dr.2.2.2.2.1, dr.2.2.2.2.2.1, dr.2.2.2.2.2.2.1, dr.2.2.2.2.2.2.2.1, dr.2.2.2.2.2.2.2.2) (nI Z, 0, 0, rd.2.2.2.1, rd.2.2.2.2.1, rd.2.2.2.2.2) w i0 i1 kp dd tr m)
  refine zq_b [zq_k 0, zq_is1 2, zq_k 0, zq_is1 3] [zq_kchk 0, zq_is1chk 2, zq_kchk 0, zq_is1chk 3] 34 rfl (by decide +kernel) ?_
  show zq_G _ _ _ _ _ 34 ([(0, .ref 14), (1, .int (nI Z)), (2, .int 0), (3, .int 0)], [], XH tx n t (0, 0, 0, 12, dr.2.2.2.2.1, dr.2.2.2.2.2.1, dr.2.2.2.2.2.2.1, dr.2.2.2.2.2.2.2.1, dr.2.2.2.2.2.2.2.2) (nI Z, 0, 0, rd.2.2.2.1, rd.2.2.2.2.1, rd.2.2.2.2.2) w i0 i1 kp dd tr m)
  exact hG
set_option maxHeartbeats 4000000 in
set_option maxRecDepth 100000 in
theorem sq_bad  (hs : s ≤ 200) (hM : zq_P l mX8_readAll 6 [.ref 14, .int (nI Z)] (XH tx (nI Z) t dr rd w i0 i1 kp dd tr m) (some (.int (zi (-10 - (s : Int))))) (XH tx (nI Z) t dr2 rd2 w i0 i1 kp dd tr m)) : zq_P l mX11_square 7 [.ref 0] (XH tx (nI Z) t dr rd w i0 i1 kp dd tr m) (some (.int (zi (-10 - (s : Int))))) (XH tx (nI Z) t dr2 rd2 w i0 i1 kp dd tr m) := by
  refine zq_start (by decide +kernel) rfl (Nat.le_of_ble_eq_true rfl) ?_
  show zq_G _ _ _ _ _ 0 ([(0, .ref 0)], [], XH tx (nI Z) t dr rd w i0 i1 kp dd tr m)
  refine zq_b [zq_al 0, zq_get 11 4, zq_al 0, zq_get 11 1] [zq_alchk 0, zq_getchk 11 4, zq_alchk 0, zq_getchk 11 1] 8 rfl (by decide +kernel) ?_
  show zq_G _ _ _ _ _ 8 ([(0, .ref 0)], [.int (nI Z), .ref 14], XH tx (nI Z) t dr rd w i0 i1 kp dd tr m)
  refine zq_callV (av := [.int (nI Z)]) (rest := []) (by decide +kernel) k11_95 (hM) rfl rfl rfl rfl ?_
  show zq_G _ _ _ _ _ 11 ([(0, .ref 0)], [.int (zi (-10 - (s : Int)))], XH tx (nI Z) t dr2 rd2 w i0 i1 kp dd tr m)
  refine zq_b [zq_is1 1, zq_il 1] [zq_is1chk 1, zq_ilchk 1] 13 rfl (by decide +kernel) ?_
  show zq_G _ _ _ _ _ 13 ([(0, .ref 0), (1, .int (zi (-10 - (s : Int))))], [.int (zi (-10 - (s : Int)))], XH tx (nI Z) t dr2 rd2 w i0 i1 kp dd tr m)
  refine zq_ifz .ge 18 (0 ≤ (-10 - (s : Int))) (by decide +kernel) (by rw [zq_tt, zi_toInt (by omega) (by omega)]; exact Iff.rfl) (fun c13 => absurd c13 (by omega)) (fun c13 => ?_)
  show zq_G _ _ _ _ _ 16 ([(0, .ref 0), (1, .int (zi (-10 - (s : Int))))], [], XH tx (nI Z) t dr2 rd2 w i0 i1 kp dd tr m)
  refine zq_b [zq_il 1] [zq_ilchk 1] 17 rfl (by decide +kernel) ?_
  show zq_G _ _ _ _ _ 17 ([(0, .ref 0), (1, .int (zi (-10 - (s : Int))))], [.int (zi (-10 - (s : Int)))], XH tx (nI Z) t dr2 rd2 w i0 i1 kp dd tr m)
  exact zq_iret (by decide +kernel) rfl rfl rfl
set_option maxHeartbeats 4000000 in
set_option maxRecDepth 100000 in
theorem sq_go  (hk : k ≤ 200) (hM : zq_P l mX8_readAll 6 [.ref 14, .int (nI Z)] (XH tx (nI Z) t dr rd w i0 i1 kp dd tr m) (some (.int (nI k))) (XH tx (nI Z) t dr2 rd2 w i0 i1 kp dd tr m)) : zq_P l mX11_square 7 [.ref 0] (XH tx (nI Z) t dr rd w i0 i1 kp dd tr m) (some (.int (nI k))) (XH tx 0 (dr2.1, dr2.2.1, dr2.2.2.1, dr2.2.2.2.1, va_cpy dr2.2.2.2.2.1 t.2.2.2.2.1 0 0 6, va_cpy dr2.2.2.2.2.2.1 t.2.2.2.2.2.1 0 0 6, va_cpy dr2.2.2.2.2.2.2.1 t.2.2.2.2.2.2.1 0 0 8, va_cpy dr2.2.2.2.2.2.2.2.1 t.2.2.2.2.2.2.2.1 0 0 6, va_cpy dr2.2.2.2.2.2.2.2.2 t.2.2.2.2.2.2.2.2 0 0 6) dr2 rd2 (0, 0, 0, 0, va_cpy (va_cpy dr2.2.2.2.2.2.1 t.2.2.2.2.2.1 0 0 6) w.2.2.2.2.1 0 0 6, w.2.2.2.2.2.1, w.2.2.2.2.2.2.1, w.2.2.2.2.2.2.2) i0 i1 (upd (upd kp 0 0) 1 0) dd tr m) := by
  refine zq_start (by decide +kernel) rfl (Nat.le_of_ble_eq_true rfl) ?_
  show zq_G _ _ _ _ _ 0 ([(0, .ref 0)], [], XH tx (nI Z) t dr rd w i0 i1 kp dd tr m)
  refine zq_b [zq_al 0, zq_get 11 4, zq_al 0, zq_get 11 1] [zq_alchk 0, zq_getchk 11 4, zq_alchk 0, zq_getchk 11 1] 8 rfl (by decide +kernel) ?_
  show zq_G _ _ _ _ _ 8 ([(0, .ref 0)], [.int (nI Z), .ref 14], XH tx (nI Z) t dr rd w i0 i1 kp dd tr m)
  refine zq_callV (av := [.int (nI Z)]) (rest := []) (by decide +kernel) k11_95 (hM) rfl rfl rfl rfl ?_
  show zq_G _ _ _ _ _ 11 ([(0, .ref 0)], [.int (nI k)], XH tx (nI Z) t dr2 rd2 w i0 i1 kp dd tr m)
  refine zq_b [zq_is1 1, zq_il 1] [zq_is1chk 1, zq_ilchk 1] 13 rfl (by decide +kernel) ?_
  show zq_G _ _ _ _ _ 13 ([(0, .ref 0), (1, .int (nI k))], [.int (nI k)], XH tx (nI Z) t dr2 rd2 w i0 i1 kp dd tr m)
  refine zq_ifz .ge 18 (0 ≤ k) (by decide +kernel) (zq_cge (a := k) (b := 0) (by omega) (by omega)) (fun c13 => ?_) (fun c13 => absurd (by omega) c13)
  show zq_G _ _ _ _ _ 18 ([(0, .ref 0), (1, .int (nI k))], [], XH tx (nI Z) t dr2 rd2 w i0 i1 kp dd tr m)
  refine zq_b [zq_al 0, zq_get 11 2, zq_al 0, zq_get 11 3] [zq_alchk 0, zq_getchk 11 2, zq_alchk 0, zq_getchk 11 3] 26 rfl (by decide +kernel) ?_
  show zq_G _ _ _ _ _ 26 ([(0, .ref 0), (1, .int (nI k))], [.ref 8, .ref 2], XH tx (nI Z) t dr2 rd2 w i0 i1 kp dd tr m)
  refine zq_callV (av := [.ref 8]) (rest := []) (by decide +kernel) k11_99 (c_tbecome) rfl rfl rfl rfl ?_
  show zq_G _ _ _ _ _ 29 ([(0, .ref 0), (1, .int (nI k))], [], XH tx (nI Z) (dr2.1, dr2.2.1, dr2.2.2.1, dr2.2.2.2.1, va_cpy dr2.2.2.2.2.1 t.2.2.2.2.1 0 0 6, va_cpy dr2.2.2.2.2.2.1 t.2.2.2.2.2.1 0 0 6, va_cpy dr2.2.2.2.2.2.2.1 t.2.2.2.2.2.2.1 0 0 8, va_cpy dr2.2.2.2.2.2.2.2.1 t.2.2.2.2.2.2.2.1 0 0 6, va_cpy dr2.2.2.2.2.2.2.2.2 t.2.2.2.2.2.2.2.2 0 0 6) dr2 rd2 w i0 i1 kp dd tr m)
  refine zq_b [zq_al 0, zq_get 11 5] [zq_alchk 0, zq_getchk 11 5] 33 rfl (by decide +kernel) ?_
  show zq_G _ _ _ _ _ 33 ([(0, .ref 0), (1, .int (nI k))], [.ref 15], XH tx (nI Z) (dr2.1, dr2.2.1, dr2.2.2.1, dr2.2.2.2.1, va_cpy dr2.2.2.2.2.1 t.2.2.2.2.1 0 0 6, va_cpy dr2.2.2.2.2.2.1 t.2.2.2.2.2.1 0 0 6, va_cpy dr2.2.2.2.2.2.2.1 t.2.2.2.2.2.2.1 0 0 8, va_cpy dr2.2.2.2.2.2.2.2.1 t.2.2.2.2.2.2.2.1 0 0 6, va_cpy dr2.2.2.2.2.2.2.2.2 t.2.2.2.2.2.2.2.2 0 0 6) dr2 rd2 w i0 i1 kp dd tr m)
  refine zq_callV (av := []) (rest := []) (by decide +kernel) k11_102 (c_begin) rfl rfl rfl rfl ?_
  show zq_G _ _ _ _ _ 36 ([(0, .ref 0), (1, .int (nI k))], [], XH tx (nI Z) (dr2.1, dr2.2.1, dr2.2.2.1, dr2.2.2.2.1, va_cpy dr2.2.2.2.2.1 t.2.2.2.2.1 0 0 6, va_cpy dr2.2.2.2.2.2.1 t.2.2.2.2.2.1 0 0 6, va_cpy dr2.2.2.2.2.2.2.1 t.2.2.2.2.2.2.1 0 0 8, va_cpy dr2.2.2.2.2.2.2.2.1 t.2.2.2.2.2.2.2.1 0 0 6, va_cpy dr2.2.2.2.2.2.2.2.2 t.2.2.2.2.2.2.2.2 0 0 6) dr2 rd2 (0, 0, 0, 0, va_cpy (va_cpy dr2.2.2.2.2.2.1 t.2.2.2.2.2.1 0 0 6) w.2.2.2.2.1 0 0 6, w.2.2.2.2.2.1, w.2.2.2.2.2.2.1, w.2.2.2.2.2.2.2) i0 i1 kp dd tr m)
  refine zq_b [zq_k 0, zq_is1 2, zq_il 2, zq_k 2] [zq_kchk 0, zq_is1chk 2, zq_ilchk 2, zq_kchk 2] 40 rfl (by decide +kernel) ?_
  show zq_G _ _ _ _ _ 40 ([(0, .ref 0), (1, .int (nI k)), (2, .int 0)], [.int 2, .int 0], XH tx (nI Z) (dr2.1, dr2.2.1, dr2.2.2.1, dr2.2.2.2.1, va_cpy dr2.2.2.2.2.1 t.2.2.2.2.1 0 0 6, va_cpy dr2.2.2.2.2.2.1 t.2.2.2.2.2.1 0 0 6, va_cpy dr2.2.2.2.2.2.2.1 t.2.2.2.2.2.2.1 0 0 8, va_cpy dr2.2.2.2.2.2.2.2.1 t.2.2.2.2.2.2.2.1 0 0 6, va_cpy dr2.2.2.2.2.2.2.2.2 t.2.2.2.2.2.2.2.2 0 0 6) dr2 rd2 (0, 0, 0, 0, va_cpy (va_cpy dr2.2.2.2.2.2.1 t.2.2.2.2.2.1 0 0 6) w.2.2.2.2.1 0 0 6, w.2.2.2.2.2.1, w.2.2.2.2.2.2.1, w.2.2.2.2.2.2.2) i0 i1 kp dd tr m)
  refine zq_if .ge 56 (2 ≤ 0) (by decide +kernel) (zq_cge (a := 0) (b := 2) (by omega) (by omega)) (fun c40 => absurd c40 (by decide)) (fun c40 => ?_)
  show zq_G _ _ _ _ _ 43 ([(0, .ref 0), (1, .int (nI k)), (2, .int 0)], [], XH tx (nI Z) (dr2.1, dr2.2.1, dr2.2.2.1, dr2.2.2.2.1, va_cpy dr2.2.2.2.2.1 t.2.2.2.2.1 0 0 6, va_cpy dr2.2.2.2.2.2.1 t.2.2.2.2.2.1 0 0 6, va_cpy dr2.2.2.2.2.2.2.1 t.2.2.2.2.2.2.1 0 0 8, va_cpy dr2.2.2.2.2.2.2.2.1 t.2.2.2.2.2.2.2.1 0 0 6, va_cpy dr2.2.2.2.2.2.2.2.2 t.2.2.2.2.2.2.2.2 0 0 6) dr2 rd2 (0, 0, 0, 0, va_cpy (va_cpy dr2.2.2.2.2.2.1 t.2.2.2.2.2.1 0 0 6) w.2.2.2.2.1 0 0 6, w.2.2.2.2.2.1, w.2.2.2.2.2.2.1, w.2.2.2.2.2.2.2) i0 i1 kp dd tr m)
  refine zq_b [zq_al 0, zq_get 11 7, zq_il 2, zq_k 0, zq_zast 0, zq_inc 2 1 1, zq_go, zq_il 2, zq_k 2] [zq_alchk 0, zq_getchk 11 7, zq_ilchk 2, zq_kchk 0, zq_is .bastore 1, zq_incchk 2 1, zq_gochk, zq_ilchk 2, zq_kchk 2] 40 rfl (by decide +kernel) ?_
  refine ⟨rfl, (by omega), (by omega), (Or.inl rfl), nI_add 0 1, ?_⟩
  show zq_G _ _ _ _ _ 40 ([(0, .ref 0), (1, .int (nI k)), (2, .int 1)], [.int 2, .int 1], XH tx (nI Z) (dr2.1, dr2.2.1, dr2.2.2.1, dr2.2.2.2.1, va_cpy dr2.2.2.2.2.1 t.2.2.2.2.1 0 0 6, va_cpy dr2.2.2.2.2.2.1 t.2.2.2.2.2.1 0 0 6, va_cpy dr2.2.2.2.2.2.2.1 t.2.2.2.2.2.2.1 0 0 8, va_cpy dr2.2.2.2.2.2.2.2.1 t.2.2.2.2.2.2.2.1 0 0 6, va_cpy dr2.2.2.2.2.2.2.2.2 t.2.2.2.2.2.2.2.2 0 0 6) dr2 rd2 (0, 0, 0, 0, va_cpy (va_cpy dr2.2.2.2.2.2.1 t.2.2.2.2.2.1 0 0 6) w.2.2.2.2.1 0 0 6, w.2.2.2.2.2.1, w.2.2.2.2.2.2.1, w.2.2.2.2.2.2.2) i0 i1 (upd kp 0 0) dd tr m)
  refine zq_if .ge 56 (2 ≤ 1) (by decide +kernel) (zq_cge (a := 1) (b := 2) (by omega) (by omega)) (fun c40 => absurd c40 (by decide)) (fun c40 => ?_)
  show zq_G _ _ _ _ _ 43 ([(0, .ref 0), (1, .int (nI k)), (2, .int 1)], [], XH tx (nI Z) (dr2.1, dr2.2.1, dr2.2.2.1, dr2.2.2.2.1, va_cpy dr2.2.2.2.2.1 t.2.2.2.2.1 0 0 6, va_cpy dr2.2.2.2.2.2.1 t.2.2.2.2.2.1 0 0 6, va_cpy dr2.2.2.2.2.2.2.1 t.2.2.2.2.2.2.1 0 0 8, va_cpy dr2.2.2.2.2.2.2.2.1 t.2.2.2.2.2.2.2.1 0 0 6, va_cpy dr2.2.2.2.2.2.2.2.2 t.2.2.2.2.2.2.2.2 0 0 6) dr2 rd2 (0, 0, 0, 0, va_cpy (va_cpy dr2.2.2.2.2.2.1 t.2.2.2.2.2.1 0 0 6) w.2.2.2.2.1 0 0 6, w.2.2.2.2.2.1, w.2.2.2.2.2.2.1, w.2.2.2.2.2.2.2) i0 i1 (upd kp 0 0) dd tr m)
  refine zq_b [zq_al 0, zq_get 11 7, zq_il 2, zq_k 0, zq_zast 1, zq_inc 2 1 2, zq_go, zq_il 2, zq_k 2] [zq_alchk 0, zq_getchk 11 7, zq_ilchk 2, zq_kchk 0, zq_is .bastore 1, zq_incchk 2 1, zq_gochk, zq_ilchk 2, zq_kchk 2] 40 rfl (by decide +kernel) ?_
  refine ⟨rfl, (by omega), (by omega), (Or.inl rfl), nI_add 1 1, ?_⟩
  show zq_G _ _ _ _ _ 40 ([(0, .ref 0), (1, .int (nI k)), (2, .int 2)], [.int 2, .int 2], XH tx (nI Z) (dr2.1, dr2.2.1, dr2.2.2.1, dr2.2.2.2.1, va_cpy dr2.2.2.2.2.1 t.2.2.2.2.1 0 0 6, va_cpy dr2.2.2.2.2.2.1 t.2.2.2.2.2.1 0 0 6, va_cpy dr2.2.2.2.2.2.2.1 t.2.2.2.2.2.2.1 0 0 8, va_cpy dr2.2.2.2.2.2.2.2.1 t.2.2.2.2.2.2.2.1 0 0 6, va_cpy dr2.2.2.2.2.2.2.2.2 t.2.2.2.2.2.2.2.2 0 0 6) dr2 rd2 (0, 0, 0, 0, va_cpy (va_cpy dr2.2.2.2.2.2.1 t.2.2.2.2.2.1 0 0 6) w.2.2.2.2.1 0 0 6, w.2.2.2.2.2.1, w.2.2.2.2.2.2.1, w.2.2.2.2.2.2.2) i0 i1 (upd (upd kp 0 0) 1 0) dd tr m)
  refine zq_if .ge 56 (2 ≤ 2) (by decide +kernel) (zq_cge (a := 2) (b := 2) (by omega) (by omega)) (fun c40 => ?_) (fun c40 => absurd (by decide) c40)
  show zq_G _ _ _ _ _ 56 ([(0, .ref 0), (1, .int (nI k)), (2, .int 2)], [], XH tx (nI Z) (dr2.1, dr2.2.1, dr2.2.2.1, dr2.2.2.2.1, va_cpy dr2.2.2.2.2.1 t.2.2.2.2.1 0 0 6, va_cpy dr2.2.2.2.2.2.1 t.2.2.2.2.2.1 0 0 6, va_cpy dr2.2.2.2.2.2.2.1 t.2.2.2.2.2.2.1 0 0 8, va_cpy dr2.2.2.2.2.2.2.2.1 t.2.2.2.2.2.2.2.1 0 0 6, va_cpy dr2.2.2.2.2.2.2.2.2 t.2.2.2.2.2.2.2.2 0 0 6) dr2 rd2 (0, 0, 0, 0, va_cpy (va_cpy dr2.2.2.2.2.2.1 t.2.2.2.2.2.1 0 0 6) w.2.2.2.2.1 0 0 6, w.2.2.2.2.2.1, w.2.2.2.2.2.2.1, w.2.2.2.2.2.2.2) i0 i1 (upd (upd kp 0 0) 1 0) dd tr m)
  refine zq_b [zq_al 0, zq_k 0, zq_puti 11 1, zq_il 1] [zq_alchk 0, zq_kchk 0, zq_putchk 11 1 .int, zq_ilchk 1] 62 rfl (by decide +kernel) ?_
  show zq_G _ _ _ _ _ 62 ([(0, .ref 0), (1, .int (nI k)), (2, .int 2)], [.int (nI k)], XH tx 0 (dr2.1, dr2.2.1, dr2.2.2.1, dr2.2.2.2.1, va_cpy dr2.2.2.2.2.1 t.2.2.2.2.1 0 0 6, va_cpy dr2.2.2.2.2.2.1 t.2.2.2.2.2.1 0 0 6, va_cpy dr2.2.2.2.2.2.2.1 t.2.2.2.2.2.2.1 0 0 8, va_cpy dr2.2.2.2.2.2.2.2.1 t.2.2.2.2.2.2.2.1 0 0 6, va_cpy dr2.2.2.2.2.2.2.2.2 t.2.2.2.2.2.2.2.2 0 0 6) dr2 rd2 (0, 0, 0, 0, va_cpy (va_cpy dr2.2.2.2.2.2.1 t.2.2.2.2.2.1 0 0 6) w.2.2.2.2.1 0 0 6, w.2.2.2.2.2.1, w.2.2.2.2.2.2.1, w.2.2.2.2.2.2.2) i0 i1 (upd (upd kp 0 0) 1 0) dd tr m)
  exact zq_iret (by decide +kernel) rfl rfl rfl
end XV8
