section XV3
variable {l : Launch} {tx : Nat → Int32} {n : Int32} {t dr : zT} {rd : zR} {w i0 i1 : zN} {kp : Nat → Int32} {dd : Int32} {tr : Int64} {m : Nat → zq_C} {h : zq_H}
variable {P C R L D N K Z : Nat} {hs ss cs gs vs ce de ke se : Nat → Int32} {sm : Int32} {cn ga va : Nat → Nat}
set_option maxHeartbeats 4000000 in
set_option maxRecDepth 100000 in
theorem c_begin   : zq_P l mX5_begin 1 [.ref 15] (XH tx n t dr rd w i0 i1 kp dd tr m) none (XH tx n t dr rd (0, 0, 0, 0, va_cpy t.2.2.2.2.2.1 w.2.2.2.2.1 0 0 6, w.2.2.2.2.2.1, w.2.2.2.2.2.2.1, w.2.2.2.2.2.2.2) i0 i1 kp dd tr m) := by
  refine zq_start (by decide +kernel) rfl (Nat.le_of_ble_eq_true rfl) ?_
  show zq_G _ _ _ _ _ 0 ([(0, .ref 15)], [], XH tx n t dr rd w i0 i1 kp dd tr m)
  refine zq_b [zq_al 0, zq_k 0, zq_puti 5 1, zq_al 0, zq_k 0, zq_puti 5 2, zq_al 0, zq_k 0, zq_puti 5 3, zq_al 0, zq_k 0, zq_puti 5 4, zq_al 0, zq_get 5 0, zq_get 9 5, zq_k 0, zq_al 0, zq_get 5 5, zq_k 0, zq_k 6] [zq_alchk 0, zq_kchk 0, zq_putchk 5 1 .int, zq_alchk 0, zq_kchk 0, zq_putchk 5 2 .int, zq_alchk 0, zq_kchk 0, zq_putchk 5 3 .int, zq_alchk 0, zq_kchk 0, zq_putchk 5 4 .int, zq_alchk 0, zq_getchk 5 0, zq_getchk 9 5, zq_kchk 0, zq_alchk 0, zq_getchk 5 5, zq_kchk 0, zq_kchk 6] 35 rfl (by decide +kernel) ?_
  show zq_G _ _ _ _ _ 35 ([(0, .ref 15)], [.int 6, .int 0, .ref 16, .int 0, .ref 4], XH tx n t dr rd (0, 0, 0, 0, w.2.2.2.2.1, w.2.2.2.2.2.1, w.2.2.2.2.2.2.1, w.2.2.2.2.2.2.2) i0 i1 kp dd tr m)
  refine zq_copy (rest := []) (sp := 0) (dp := 0) (n := 6) (by decide +kernel) kc5_46 rfl rfl rfl (by omega) (by omega) (by decide) rfl rfl rfl ?_
  show zq_G _ _ _ _ _ 38 ([(0, .ref 15)], [], XH tx n t dr rd (0, 0, 0, 0, va_cpy t.2.2.2.2.2.1 w.2.2.2.2.1 0 0 6, w.2.2.2.2.2.1, w.2.2.2.2.2.2.1, w.2.2.2.2.2.2.2) i0 i1 kp dd tr m)
  exact zq_vret (by decide +kernel) rfl rfl rfl
set_option maxHeartbeats 4000000 in
set_option maxRecDepth 100000 in
theorem c_forget   : zq_P l mX9_forget 0 [.ref 8] (XH tx n t dr rd w i0 i1 kp dd tr m) none (XH tx n t (0, 0, 0, 12, dr.2.2.2.2.1, dr.2.2.2.2.2.1, dr.2.2.2.2.2.2.1, dr.2.2.2.2.2.2.2.1, dr.2.2.2.2.2.2.2.2) rd w i0 i1 kp dd tr m) := by
  refine zq_start (by decide +kernel) rfl (Nat.le_of_ble_eq_true rfl) ?_
  show zq_G _ _ _ _ _ 0 ([(0, .ref 8)], [], XH tx n t dr rd w i0 i1 kp dd tr m)
  refine zq_b [zq_al 0, zq_k 0, zq_puti 9 0, zq_al 0, zq_k 0, zq_puti 9 1, zq_al 0, zq_k 0, zq_puti 9 2, zq_al 0, zq_k 12, zq_puti 9 3] [zq_alchk 0, zq_kchk 0, zq_putchk 9 0 .int, zq_alchk 0, zq_kchk 0, zq_putchk 9 1 .int, zq_alchk 0, zq_kchk 0, zq_putchk 9 2 .int, zq_alchk 0, zq_kchk 12, zq_putchk 9 3 .int] 21 rfl (by decide +kernel) ?_
  show zq_G _ _ _ _ _ 21 ([(0, .ref 8)], [], XH tx n t (0, 0, 0, 12, dr.2.2.2.2.1, dr.2.2.2.2.2.1, dr.2.2.2.2.2.2.1, dr.2.2.2.2.2.2.2.1, dr.2.2.2.2.2.2.2.2) rd w i0 i1 kp dd tr m)
  exact zq_vret (by decide +kernel) rfl rfl rfl
set_option maxHeartbeats 4000000 in
set_option maxRecDepth 100000 in
theorem c_tbecome   : zq_P l mX9_become 1 [.ref 2, .ref 8] (XH tx n t dr rd w i0 i1 kp dd tr m) none (XH tx n (dr.1, dr.2.1, dr.2.2.1, dr.2.2.2.1, va_cpy dr.2.2.2.2.1 t.2.2.2.2.1 0 0 6, va_cpy dr.2.2.2.2.2.1 t.2.2.2.2.2.1 0 0 6, va_cpy dr.2.2.2.2.2.2.1 t.2.2.2.2.2.2.1 0 0 8, va_cpy dr.2.2.2.2.2.2.2.1 t.2.2.2.2.2.2.2.1 0 0 6, va_cpy dr.2.2.2.2.2.2.2.2 t.2.2.2.2.2.2.2.2 0 0 6) dr rd w i0 i1 kp dd tr m) := by
  refine zq_start (by decide +kernel) rfl (Nat.le_of_ble_eq_true rfl) ?_
  show zq_G _ _ _ _ _ 0 ([(0, .ref 2), (1, .ref 8)], [], XH tx n t dr rd w i0 i1 kp dd tr m)
  refine zq_b [zq_al 0, zq_al 1, zq_get 9 0, zq_puti 9 0, zq_al 0, zq_al 1, zq_get 9 1, zq_puti 9 1, zq_al 0, zq_al 1, zq_get 9 2, zq_puti 9 2, zq_al 0, zq_al 1, zq_get 9 3, zq_puti 9 3, zq_al 1, zq_get 9 4, zq_k 0, zq_al 0, zq_get 9 4, zq_k 0, zq_k 6] [zq_alchk 0, zq_alchk 1, zq_getchk 9 0, zq_putchk 9 0 .int, zq_alchk 0, zq_alchk 1, zq_getchk 9 1, zq_putchk 9 1 .int, zq_alchk 0, zq_alchk 1, zq_getchk 9 2, zq_putchk 9 2 .int, zq_alchk 0, zq_alchk 1, zq_getchk 9 3, zq_putchk 9 3 .int, zq_alchk 1, zq_getchk 9 4, zq_kchk 0, zq_alchk 0, zq_getchk 9 4, zq_kchk 0, zq_kchk 6] 44 rfl (by decide +kernel) ?_
  show zq_G _ _ _ _ _ 44 ([(0, .ref 2), (1, .ref 8)], [.int 6, .int 0, .ref 3, .int 0, .ref 9], XH tx n (dr.1, dr.2.1, dr.2.2.1, dr.2.2.2.1, t.2.2.2.2.1, t.2.2.2.2.2.1, t.2.2.2.2.2.2.1, t.2.2.2.2.2.2.2.1, t.2.2.2.2.2.2.2.2) dr rd w i0 i1 kp dd tr m)
  refine zq_copy (rest := []) (sp := 0) (dp := 0) (n := 6) (by decide +kernel) kc9_40 rfl rfl rfl (by omega) (by omega) (by decide) rfl rfl rfl ?_
  show zq_G _ _ _ _ _ 47 ([(0, .ref 2), (1, .ref 8)], [], XH tx n (dr.1, dr.2.1, dr.2.2.1, dr.2.2.2.1, va_cpy dr.2.2.2.2.1 t.2.2.2.2.1 0 0 6, t.2.2.2.2.2.1, t.2.2.2.2.2.2.1, t.2.2.2.2.2.2.2.1, t.2.2.2.2.2.2.2.2) dr rd w i0 i1 kp dd tr m)
  refine zq_b [zq_al 1, zq_get 9 5, zq_k 0, zq_al 0, zq_get 9 5, zq_k 0, zq_k 6] [zq_alchk 1, zq_getchk 9 5, zq_kchk 0, zq_alchk 0, zq_getchk 9 5, zq_kchk 0, zq_kchk 6] 59 rfl (by decide +kernel) ?_
  show zq_G _ _ _ _ _ 59 ([(0, .ref 2), (1, .ref 8)], [.int 6, .int 0, .ref 4, .int 0, .ref 10], XH tx n (dr.1, dr.2.1, dr.2.2.1, dr.2.2.2.1, va_cpy dr.2.2.2.2.1 t.2.2.2.2.1 0 0 6, t.2.2.2.2.2.1, t.2.2.2.2.2.2.1, t.2.2.2.2.2.2.2.1, t.2.2.2.2.2.2.2.2) dr rd w i0 i1 kp dd tr m)
  refine zq_copy (rest := []) (sp := 0) (dp := 0) (n := 6) (by decide +kernel) kc9_40 rfl rfl rfl (by omega) (by omega) (by decide) rfl rfl rfl ?_
  show zq_G _ _ _ _ _ 62 ([(0, .ref 2), (1, .ref 8)], [], XH tx n (dr.1, dr.2.1, dr.2.2.1, dr.2.2.2.1, va_cpy dr.2.2.2.2.1 t.2.2.2.2.1 0 0 6, va_cpy dr.2.2.2.2.2.1 t.2.2.2.2.2.1 0 0 6, t.2.2.2.2.2.2.1, t.2.2.2.2.2.2.2.1, t.2.2.2.2.2.2.2.2) dr rd w i0 i1 kp dd tr m)
  refine zq_b [zq_al 1, zq_get 9 6, zq_k 0, zq_al 0, zq_get 9 6, zq_k 0, zq_k 8] [zq_alchk 1, zq_getchk 9 6, zq_kchk 0, zq_alchk 0, zq_getchk 9 6, zq_kchk 0, zq_kchk 8] 74 rfl (by decide +kernel) ?_
  show zq_G _ _ _ _ _ 74 ([(0, .ref 2), (1, .ref 8)], [.int 8, .int 0, .ref 5, .int 0, .ref 11], XH tx n (dr.1, dr.2.1, dr.2.2.1, dr.2.2.2.1, va_cpy dr.2.2.2.2.1 t.2.2.2.2.1 0 0 6, va_cpy dr.2.2.2.2.2.1 t.2.2.2.2.2.1 0 0 6, t.2.2.2.2.2.2.1, t.2.2.2.2.2.2.2.1, t.2.2.2.2.2.2.2.2) dr rd w i0 i1 kp dd tr m)
  refine zq_copy (rest := []) (sp := 0) (dp := 0) (n := 8) (by decide +kernel) kc9_40 rfl rfl rfl (by omega) (by omega) (by decide) rfl rfl rfl ?_
  show zq_G _ _ _ _ _ 77 ([(0, .ref 2), (1, .ref 8)], [], XH tx n (dr.1, dr.2.1, dr.2.2.1, dr.2.2.2.1, va_cpy dr.2.2.2.2.1 t.2.2.2.2.1 0 0 6, va_cpy dr.2.2.2.2.2.1 t.2.2.2.2.2.1 0 0 6, va_cpy dr.2.2.2.2.2.2.1 t.2.2.2.2.2.2.1 0 0 8, t.2.2.2.2.2.2.2.1, t.2.2.2.2.2.2.2.2) dr rd w i0 i1 kp dd tr m)
  refine zq_b [zq_al 1, zq_get 9 7, zq_k 0, zq_al 0, zq_get 9 7, zq_k 0, zq_k 6] [zq_alchk 1, zq_getchk 9 7, zq_kchk 0, zq_alchk 0, zq_getchk 9 7, zq_kchk 0, zq_kchk 6] 89 rfl (by decide +kernel) ?_
  show zq_G _ _ _ _ _ 89 ([(0, .ref 2), (1, .ref 8)], [.int 6, .int 0, .ref 6, .int 0, .ref 12], XH tx n (dr.1, dr.2.1, dr.2.2.1, dr.2.2.2.1, va_cpy dr.2.2.2.2.1 t.2.2.2.2.1 0 0 6, va_cpy dr.2.2.2.2.2.1 t.2.2.2.2.2.1 0 0 6, va_cpy dr.2.2.2.2.2.2.1 t.2.2.2.2.2.2.1 0 0 8, t.2.2.2.2.2.2.2.1, t.2.2.2.2.2.2.2.2) dr rd w i0 i1 kp dd tr m)
  refine zq_copy (rest := []) (sp := 0) (dp := 0) (n := 6) (by decide +kernel) kc9_40 rfl rfl rfl (by omega) (by omega) (by decide) rfl rfl rfl ?_
  show zq_G _ _ _ _ _ 92 ([(0, .ref 2), (1, .ref 8)], [], XH tx n (dr.1, dr.2.1, dr.2.2.1, dr.2.2.2.1, va_cpy dr.2.2.2.2.1 t.2.2.2.2.1 0 0 6, va_cpy dr.2.2.2.2.2.1 t.2.2.2.2.2.1 0 0 6, va_cpy dr.2.2.2.2.2.2.1 t.2.2.2.2.2.2.1 0 0 8, va_cpy dr.2.2.2.2.2.2.2.1 t.2.2.2.2.2.2.2.1 0 0 6, t.2.2.2.2.2.2.2.2) dr rd w i0 i1 kp dd tr m)
  refine zq_b [zq_al 1, zq_get 9 8, zq_k 0, zq_al 0, zq_get 9 8, zq_k 0, zq_k 6] [zq_alchk 1, zq_getchk 9 8, zq_kchk 0, zq_alchk 0, zq_getchk 9 8, zq_kchk 0, zq_kchk 6] 104 rfl (by decide +kernel) ?_
  show zq_G _ _ _ _ _ 104 ([(0, .ref 2), (1, .ref 8)], [.int 6, .int 0, .ref 7, .int 0, .ref 13], XH tx n (dr.1, dr.2.1, dr.2.2.1, dr.2.2.2.1, va_cpy dr.2.2.2.2.1 t.2.2.2.2.1 0 0 6, va_cpy dr.2.2.2.2.2.1 t.2.2.2.2.2.1 0 0 6, va_cpy dr.2.2.2.2.2.2.1 t.2.2.2.2.2.2.1 0 0 8, va_cpy dr.2.2.2.2.2.2.2.1 t.2.2.2.2.2.2.2.1 0 0 6, t.2.2.2.2.2.2.2.2) dr rd w i0 i1 kp dd tr m)
  refine zq_copy (rest := []) (sp := 0) (dp := 0) (n := 6) (by decide +kernel) kc9_40 rfl rfl rfl (by omega) (by omega) (by decide) rfl rfl rfl ?_
  show zq_G _ _ _ _ _ 107 ([(0, .ref 2), (1, .ref 8)], [], XH tx n (dr.1, dr.2.1, dr.2.2.1, dr.2.2.2.1, va_cpy dr.2.2.2.2.1 t.2.2.2.2.1 0 0 6, va_cpy dr.2.2.2.2.2.1 t.2.2.2.2.2.1 0 0 6, va_cpy dr.2.2.2.2.2.2.1 t.2.2.2.2.2.2.1 0 0 8, va_cpy dr.2.2.2.2.2.2.2.1 t.2.2.2.2.2.2.2.1 0 0 6, va_cpy dr.2.2.2.2.2.2.2.2 t.2.2.2.2.2.2.2.2 0 0 6) dr rd w i0 i1 kp dd tr m)
  exact zq_vret (by decide +kernel) rfl rfl rfl
set_option maxHeartbeats 4000000 in
set_option maxRecDepth 100000 in
theorem c_nbecome_21_15   : zq_P l mX5_become 1 [.ref 21, .ref 15] (XH tx n t dr rd w i0 i1 kp dd tr m) none (XH tx n t dr rd w (w.1, w.2.1, w.2.2.1, w.2.2.2.1, va_cpy w.2.2.2.2.1 i0.2.2.2.2.1 0 0 6, va_cpy w.2.2.2.2.2.1 i0.2.2.2.2.2.1 0 0 60, va_cpy w.2.2.2.2.2.2.1 i0.2.2.2.2.2.2.1 0 0 99, va_cpy w.2.2.2.2.2.2.2 i0.2.2.2.2.2.2.2 0 0 30) i1 kp dd tr m) := by
  refine zq_start (by decide +kernel) rfl (Nat.le_of_ble_eq_true rfl) ?_
  show zq_G _ _ _ _ _ 0 ([(0, .ref 21), (1, .ref 15)], [], XH tx n t dr rd w i0 i1 kp dd tr m)
  refine zq_b [zq_al 0, zq_al 1, zq_get 5 1, zq_puti 5 1, zq_al 0, zq_al 1, zq_get 5 2, zq_puti 5 2, zq_al 0, zq_al 1, zq_get 5 3, zq_puti 5 3, zq_al 0, zq_al 1, zq_get 5 4, zq_puti 5 4, zq_al 1, zq_get 5 5, zq_k 0, zq_al 0, zq_get 5 5, zq_k 0, zq_al 0, zq_get 5 5, zq_alen] [zq_alchk 0, zq_alchk 1, zq_getchk 5 1, zq_putchk 5 1 .int, zq_alchk 0, zq_alchk 1, zq_getchk 5 2, zq_putchk 5 2 .int, zq_alchk 0, zq_alchk 1, zq_getchk 5 3, zq_putchk 5 3 .int, zq_alchk 0, zq_alchk 1, zq_getchk 5 4, zq_putchk 5 4 .int, zq_alchk 1, zq_getchk 5 5, zq_kchk 0, zq_alchk 0, zq_getchk 5 5, zq_kchk 0, zq_alchk 0, zq_getchk 5 5, zq_is .arraylength 1] 47 rfl (by decide +kernel) ?_
  show zq_G _ _ _ _ _ 47 ([(0, .ref 21), (1, .ref 15)], [.int 6, .int 0, .ref 22, .int 0, .ref 16], XH tx n t dr rd w (w.1, w.2.1, w.2.2.1, w.2.2.2.1, i0.2.2.2.2.1, i0.2.2.2.2.2.1, i0.2.2.2.2.2.2.1, i0.2.2.2.2.2.2.2) i1 kp dd tr m)
  refine zq_copy (rest := []) (sp := 0) (dp := 0) (n := 6) (by decide +kernel) kc5_46 rfl rfl rfl (by omega) (by omega) (by decide) rfl rfl rfl ?_
  show zq_G _ _ _ _ _ 50 ([(0, .ref 21), (1, .ref 15)], [], XH tx n t dr rd w (w.1, w.2.1, w.2.2.1, w.2.2.2.1, va_cpy w.2.2.2.2.1 i0.2.2.2.2.1 0 0 6, i0.2.2.2.2.2.1, i0.2.2.2.2.2.2.1, i0.2.2.2.2.2.2.2) i1 kp dd tr m)
  refine zq_b [zq_al 1, zq_get 5 6, zq_k 0, zq_al 0, zq_get 5 6, zq_k 0, zq_al 0, zq_get 5 6, zq_alen] [zq_alchk 1, zq_getchk 5 6, zq_kchk 0, zq_alchk 0, zq_getchk 5 6, zq_kchk 0, zq_alchk 0, zq_getchk 5 6, zq_is .arraylength 1] 65 rfl (by decide +kernel) ?_
  show zq_G _ _ _ _ _ 65 ([(0, .ref 21), (1, .ref 15)], [.int 60, .int 0, .ref 23, .int 0, .ref 17], XH tx n t dr rd w (w.1, w.2.1, w.2.2.1, w.2.2.2.1, va_cpy w.2.2.2.2.1 i0.2.2.2.2.1 0 0 6, i0.2.2.2.2.2.1, i0.2.2.2.2.2.2.1, i0.2.2.2.2.2.2.2) i1 kp dd tr m)
  refine zq_copy (rest := []) (sp := 0) (dp := 0) (n := 60) (by decide +kernel) kc5_46 rfl rfl rfl (by omega) (by omega) (by decide) rfl rfl rfl ?_
  show zq_G _ _ _ _ _ 68 ([(0, .ref 21), (1, .ref 15)], [], XH tx n t dr rd w (w.1, w.2.1, w.2.2.1, w.2.2.2.1, va_cpy w.2.2.2.2.1 i0.2.2.2.2.1 0 0 6, va_cpy w.2.2.2.2.2.1 i0.2.2.2.2.2.1 0 0 60, i0.2.2.2.2.2.2.1, i0.2.2.2.2.2.2.2) i1 kp dd tr m)
  refine zq_b [zq_al 1, zq_get 5 7, zq_k 0, zq_al 0, zq_get 5 7, zq_k 0, zq_al 0, zq_get 5 7, zq_alen] [zq_alchk 1, zq_getchk 5 7, zq_kchk 0, zq_alchk 0, zq_getchk 5 7, zq_kchk 0, zq_alchk 0, zq_getchk 5 7, zq_is .arraylength 1] 83 rfl (by decide +kernel) ?_
  show zq_G _ _ _ _ _ 83 ([(0, .ref 21), (1, .ref 15)], [.int 99, .int 0, .ref 24, .int 0, .ref 18], XH tx n t dr rd w (w.1, w.2.1, w.2.2.1, w.2.2.2.1, va_cpy w.2.2.2.2.1 i0.2.2.2.2.1 0 0 6, va_cpy w.2.2.2.2.2.1 i0.2.2.2.2.2.1 0 0 60, i0.2.2.2.2.2.2.1, i0.2.2.2.2.2.2.2) i1 kp dd tr m)
  refine zq_copy (rest := []) (sp := 0) (dp := 0) (n := 99) (by decide +kernel) kc5_46 rfl rfl rfl (by omega) (by omega) (by decide) rfl rfl rfl ?_
  show zq_G _ _ _ _ _ 86 ([(0, .ref 21), (1, .ref 15)], [], XH tx n t dr rd w (w.1, w.2.1, w.2.2.1, w.2.2.2.1, va_cpy w.2.2.2.2.1 i0.2.2.2.2.1 0 0 6, va_cpy w.2.2.2.2.2.1 i0.2.2.2.2.2.1 0 0 60, va_cpy w.2.2.2.2.2.2.1 i0.2.2.2.2.2.2.1 0 0 99, i0.2.2.2.2.2.2.2) i1 kp dd tr m)
  refine zq_b [zq_al 1, zq_get 5 8, zq_k 0, zq_al 0, zq_get 5 8, zq_k 0, zq_al 0, zq_get 5 8, zq_alen] [zq_alchk 1, zq_getchk 5 8, zq_kchk 0, zq_alchk 0, zq_getchk 5 8, zq_kchk 0, zq_alchk 0, zq_getchk 5 8, zq_is .arraylength 1] 101 rfl (by decide +kernel) ?_
  show zq_G _ _ _ _ _ 101 ([(0, .ref 21), (1, .ref 15)], [.int 30, .int 0, .ref 25, .int 0, .ref 19], XH tx n t dr rd w (w.1, w.2.1, w.2.2.1, w.2.2.2.1, va_cpy w.2.2.2.2.1 i0.2.2.2.2.1 0 0 6, va_cpy w.2.2.2.2.2.1 i0.2.2.2.2.2.1 0 0 60, va_cpy w.2.2.2.2.2.2.1 i0.2.2.2.2.2.2.1 0 0 99, i0.2.2.2.2.2.2.2) i1 kp dd tr m)
  refine zq_copy (rest := []) (sp := 0) (dp := 0) (n := 30) (by decide +kernel) kc5_46 rfl rfl rfl (by omega) (by omega) (by decide) rfl rfl rfl ?_
  show zq_G _ _ _ _ _ 104 ([(0, .ref 21), (1, .ref 15)], [], XH tx n t dr rd w (w.1, w.2.1, w.2.2.1, w.2.2.2.1, va_cpy w.2.2.2.2.1 i0.2.2.2.2.1 0 0 6, va_cpy w.2.2.2.2.2.1 i0.2.2.2.2.2.1 0 0 60, va_cpy w.2.2.2.2.2.2.1 i0.2.2.2.2.2.2.1 0 0 99, va_cpy w.2.2.2.2.2.2.2 i0.2.2.2.2.2.2.2 0 0 30) i1 kp dd tr m)
  exact zq_vret (by decide +kernel) rfl rfl rfl
set_option maxHeartbeats 4000000 in
set_option maxRecDepth 100000 in
theorem c_nbecome_26_15   : zq_P l mX5_become 1 [.ref 26, .ref 15] (XH tx n t dr rd w i0 i1 kp dd tr m) none (XH tx n t dr rd w i0 (w.1, w.2.1, w.2.2.1, w.2.2.2.1, va_cpy w.2.2.2.2.1 i1.2.2.2.2.1 0 0 6, va_cpy w.2.2.2.2.2.1 i1.2.2.2.2.2.1 0 0 60, va_cpy w.2.2.2.2.2.2.1 i1.2.2.2.2.2.2.1 0 0 99, va_cpy w.2.2.2.2.2.2.2 i1.2.2.2.2.2.2.2 0 0 30) kp dd tr m) := by
  refine zq_start (by decide +kernel) rfl (Nat.le_of_ble_eq_true rfl) ?_
  show zq_G _ _ _ _ _ 0 ([(0, .ref 26), (1, .ref 15)], [], XH tx n t dr rd w i0 i1 kp dd tr m)
  refine zq_b [zq_al 0, zq_al 1, zq_get 5 1, zq_puti 5 1, zq_al 0, zq_al 1, zq_get 5 2, zq_puti 5 2, zq_al 0, zq_al 1, zq_get 5 3, zq_puti 5 3, zq_al 0, zq_al 1, zq_get 5 4, zq_puti 5 4, zq_al 1, zq_get 5 5, zq_k 0, zq_al 0, zq_get 5 5, zq_k 0, zq_al 0, zq_get 5 5, zq_alen] [zq_alchk 0, zq_alchk 1, zq_getchk 5 1, zq_putchk 5 1 .int, zq_alchk 0, zq_alchk 1, zq_getchk 5 2, zq_putchk 5 2 .int, zq_alchk 0, zq_alchk 1, zq_getchk 5 3, zq_putchk 5 3 .int, zq_alchk 0, zq_alchk 1, zq_getchk 5 4, zq_putchk 5 4 .int, zq_alchk 1, zq_getchk 5 5, zq_kchk 0, zq_alchk 0, zq_getchk 5 5, zq_kchk 0, zq_alchk 0, zq_getchk 5 5, zq_is .arraylength 1] 47 rfl (by decide +kernel) ?_
  show zq_G _ _ _ _ _ 47 ([(0, .ref 26), (1, .ref 15)], [.int 6, .int 0, .ref 27, .int 0, .ref 16], XH tx n t dr rd w i0 (w.1, w.2.1, w.2.2.1, w.2.2.2.1, i1.2.2.2.2.1, i1.2.2.2.2.2.1, i1.2.2.2.2.2.2.1, i1.2.2.2.2.2.2.2) kp dd tr m)
  refine zq_copy (rest := []) (sp := 0) (dp := 0) (n := 6) (by decide +kernel) kc5_46 rfl rfl rfl (by omega) (by omega) (by decide) rfl rfl rfl ?_
  show zq_G _ _ _ _ _ 50 ([(0, .ref 26), (1, .ref 15)], [], XH tx n t dr rd w i0 (w.1, w.2.1, w.2.2.1, w.2.2.2.1, va_cpy w.2.2.2.2.1 i1.2.2.2.2.1 0 0 6, i1.2.2.2.2.2.1, i1.2.2.2.2.2.2.1, i1.2.2.2.2.2.2.2) kp dd tr m)
  refine zq_b [zq_al 1, zq_get 5 6, zq_k 0, zq_al 0, zq_get 5 6, zq_k 0, zq_al 0, zq_get 5 6, zq_alen] [zq_alchk 1, zq_getchk 5 6, zq_kchk 0, zq_alchk 0, zq_getchk 5 6, zq_kchk 0, zq_alchk 0, zq_getchk 5 6, zq_is .arraylength 1] 65 rfl (by decide +kernel) ?_
  show zq_G _ _ _ _ _ 65 ([(0, .ref 26), (1, .ref 15)], [.int 60, .int 0, .ref 28, .int 0, .ref 17], XH tx n t dr rd w i0 (w.1, w.2.1, w.2.2.1, w.2.2.2.1, va_cpy w.2.2.2.2.1 i1.2.2.2.2.1 0 0 6, i1.2.2.2.2.2.1, i1.2.2.2.2.2.2.1, i1.2.2.2.2.2.2.2) kp dd tr m)
  refine zq_copy (rest := []) (sp := 0) (dp := 0) (n := 60) (by decide +kernel) kc5_46 rfl rfl rfl (by omega) (by omega) (by decide) rfl rfl rfl ?_
  show zq_G _ _ _ _ _ 68 ([(0, .ref 26), (1, .ref 15)], [], XH tx n t dr rd w i0 (w.1, w.2.1, w.2.2.1, w.2.2.2.1, va_cpy w.2.2.2.2.1 i1.2.2.2.2.1 0 0 6, va_cpy w.2.2.2.2.2.1 i1.2.2.2.2.2.1 0 0 60, i1.2.2.2.2.2.2.1, i1.2.2.2.2.2.2.2) kp dd tr m)
  refine zq_b [zq_al 1, zq_get 5 7, zq_k 0, zq_al 0, zq_get 5 7, zq_k 0, zq_al 0, zq_get 5 7, zq_alen] [zq_alchk 1, zq_getchk 5 7, zq_kchk 0, zq_alchk 0, zq_getchk 5 7, zq_kchk 0, zq_alchk 0, zq_getchk 5 7, zq_is .arraylength 1] 83 rfl (by decide +kernel) ?_
  show zq_G _ _ _ _ _ 83 ([(0, .ref 26), (1, .ref 15)], [.int 99, .int 0, .ref 29, .int 0, .ref 18], XH tx n t dr rd w i0 (w.1, w.2.1, w.2.2.1, w.2.2.2.1, va_cpy w.2.2.2.2.1 i1.2.2.2.2.1 0 0 6, va_cpy w.2.2.2.2.2.1 i1.2.2.2.2.2.1 0 0 60, i1.2.2.2.2.2.2.1, i1.2.2.2.2.2.2.2) kp dd tr m)
  refine zq_copy (rest := []) (sp := 0) (dp := 0) (n := 99) (by decide +kernel) kc5_46 rfl rfl rfl (by omega) (by omega) (by decide) rfl rfl rfl ?_
  show zq_G _ _ _ _ _ 86 ([(0, .ref 26), (1, .ref 15)], [], XH tx n t dr rd w i0 (w.1, w.2.1, w.2.2.1, w.2.2.2.1, va_cpy w.2.2.2.2.1 i1.2.2.2.2.1 0 0 6, va_cpy w.2.2.2.2.2.1 i1.2.2.2.2.2.1 0 0 60, va_cpy w.2.2.2.2.2.2.1 i1.2.2.2.2.2.2.1 0 0 99, i1.2.2.2.2.2.2.2) kp dd tr m)
  refine zq_b [zq_al 1, zq_get 5 8, zq_k 0, zq_al 0, zq_get 5 8, zq_k 0, zq_al 0, zq_get 5 8, zq_alen] [zq_alchk 1, zq_getchk 5 8, zq_kchk 0, zq_alchk 0, zq_getchk 5 8, zq_kchk 0, zq_alchk 0, zq_getchk 5 8, zq_is .arraylength 1] 101 rfl (by decide +kernel) ?_
  show zq_G _ _ _ _ _ 101 ([(0, .ref 26), (1, .ref 15)], [.int 30, .int 0, .ref 30, .int 0, .ref 19], XH tx n t dr rd w i0 (w.1, w.2.1, w.2.2.1, w.2.2.2.1, va_cpy w.2.2.2.2.1 i1.2.2.2.2.1 0 0 6, va_cpy w.2.2.2.2.2.1 i1.2.2.2.2.2.1 0 0 60, va_cpy w.2.2.2.2.2.2.1 i1.2.2.2.2.2.2.1 0 0 99, i1.2.2.2.2.2.2.2) kp dd tr m)
  refine zq_copy (rest := []) (sp := 0) (dp := 0) (n := 30) (by decide +kernel) kc5_46 rfl rfl rfl (by omega) (by omega) (by decide) rfl rfl rfl ?_
  show zq_G _ _ _ _ _ 104 ([(0, .ref 26), (1, .ref 15)], [], XH tx n t dr rd w i0 (w.1, w.2.1, w.2.2.1, w.2.2.2.1, va_cpy w.2.2.2.2.1 i1.2.2.2.2.1 0 0 6, va_cpy w.2.2.2.2.2.1 i1.2.2.2.2.2.1 0 0 60, va_cpy w.2.2.2.2.2.2.1 i1.2.2.2.2.2.2.1 0 0 99, va_cpy w.2.2.2.2.2.2.2 i1.2.2.2.2.2.2.2 0 0 30) kp dd tr m)
  exact zq_vret (by decide +kernel) rfl rfl rfl
set_option maxHeartbeats 4000000 in
set_option maxRecDepth 100000 in
theorem c_nbecome_15_21   : zq_P l mX5_become 1 [.ref 15, .ref 21] (XH tx n t dr rd w i0 i1 kp dd tr m) none (XH tx n t dr rd (i0.1, i0.2.1, i0.2.2.1, i0.2.2.2.1, va_cpy i0.2.2.2.2.1 w.2.2.2.2.1 0 0 6, va_cpy i0.2.2.2.2.2.1 w.2.2.2.2.2.1 0 0 60, va_cpy i0.2.2.2.2.2.2.1 w.2.2.2.2.2.2.1 0 0 99, va_cpy i0.2.2.2.2.2.2.2 w.2.2.2.2.2.2.2 0 0 30) i0 i1 kp dd tr m) := by
  refine zq_start (by decide +kernel) rfl (Nat.le_of_ble_eq_true rfl) ?_
  show zq_G _ _ _ _ _ 0 ([(0, .ref 15), (1, .ref 21)], [], XH tx n t dr rd w i0 i1 kp dd tr m)
  refine zq_b [zq_al 0, zq_al 1, zq_get 5 1, zq_puti 5 1, zq_al 0, zq_al 1, zq_get 5 2, zq_puti 5 2, zq_al 0, zq_al 1, zq_get 5 3, zq_puti 5 3, zq_al 0, zq_al 1, zq_get 5 4, zq_puti 5 4, zq_al 1, zq_get 5 5, zq_k 0, zq_al 0, zq_get 5 5, zq_k 0, zq_al 0, zq_get 5 5, zq_alen] [zq_alchk 0, zq_alchk 1, zq_getchk 5 1, zq_putchk 5 1 .int, zq_alchk 0, zq_alchk 1, zq_getchk 5 2, zq_putchk 5 2 .int, zq_alchk 0, zq_alchk 1, zq_getchk 5 3, zq_putchk 5 3 .int, zq_alchk 0, zq_alchk 1, zq_getchk 5 4, zq_putchk 5 4 .int, zq_alchk 1, zq_getchk 5 5, zq_kchk 0, zq_alchk 0, zq_getchk 5 5, zq_kchk 0, zq_alchk 0, zq_getchk 5 5, zq_is .arraylength 1] 47 rfl (by decide +kernel) ?_
  show zq_G _ _ _ _ _ 47 ([(0, .ref 15), (1, .ref 21)], [.int 6, .int 0, .ref 16, .int 0, .ref 22], XH tx n t dr rd (i0.1, i0.2.1, i0.2.2.1, i0.2.2.2.1, w.2.2.2.2.1, w.2.2.2.2.2.1, w.2.2.2.2.2.2.1, w.2.2.2.2.2.2.2) i0 i1 kp dd tr m)
  refine zq_copy (rest := []) (sp := 0) (dp := 0) (n := 6) (by decide +kernel) kc5_46 rfl rfl rfl (by omega) (by omega) (by decide) rfl rfl rfl ?_
  show zq_G _ _ _ _ _ 50 ([(0, .ref 15), (1, .ref 21)], [], XH tx n t dr rd (i0.1, i0.2.1, i0.2.2.1, i0.2.2.2.1, va_cpy i0.2.2.2.2.1 w.2.2.2.2.1 0 0 6, w.2.2.2.2.2.1, w.2.2.2.2.2.2.1, w.2.2.2.2.2.2.2) i0 i1 kp dd tr m)
  refine zq_b [zq_al 1, zq_get 5 6, zq_k 0, zq_al 0, zq_get 5 6, zq_k 0, zq_al 0, zq_get 5 6, zq_alen] [zq_alchk 1, zq_getchk 5 6, zq_kchk 0, zq_alchk 0, zq_getchk 5 6, zq_kchk 0, zq_alchk 0, zq_getchk 5 6, zq_is .arraylength 1] 65 rfl (by decide +kernel) ?_
  show zq_G _ _ _ _ _ 65 ([(0, .ref 15), (1, .ref 21)], [.int 60, .int 0, .ref 17, .int 0, .ref 23], XH tx n t dr rd (i0.1, i0.2.1, i0.2.2.1, i0.2.2.2.1, va_cpy i0.2.2.2.2.1 w.2.2.2.2.1 0 0 6, w.2.2.2.2.2.1, w.2.2.2.2.2.2.1, w.2.2.2.2.2.2.2) i0 i1 kp dd tr m)
  refine zq_copy (rest := []) (sp := 0) (dp := 0) (n := 60) (by decide +kernel) kc5_46 rfl rfl rfl (by omega) (by omega) (by decide) rfl rfl rfl ?_
  show zq_G _ _ _ _ _ 68 ([(0, .ref 15), (1, .ref 21)], [], XH tx n t dr rd (i0.1, i0.2.1, i0.2.2.1, i0.2.2.2.1, va_cpy i0.2.2.2.2.1 w.2.2.2.2.1 0 0 6, va_cpy i0.2.2.2.2.2.1 w.2.2.2.2.2.1 0 0 60, w.2.2.2.2.2.2.1, w.2.2.2.2.2.2.2) i0 i1 kp dd tr m)
  refine zq_b [zq_al 1, zq_get 5 7, zq_k 0, zq_al 0, zq_get 5 7, zq_k 0, zq_al 0, zq_get 5 7, zq_alen] [zq_alchk 1, zq_getchk 5 7, zq_kchk 0, zq_alchk 0, zq_getchk 5 7, zq_kchk 0, zq_alchk 0, zq_getchk 5 7, zq_is .arraylength 1] 83 rfl (by decide +kernel) ?_
  show zq_G _ _ _ _ _ 83 ([(0, .ref 15), (1, .ref 21)], [.int 99, .int 0, .ref 18, .int 0, .ref 24], XH tx n t dr rd (i0.1, i0.2.1, i0.2.2.1, i0.2.2.2.1, va_cpy i0.2.2.2.2.1 w.2.2.2.2.1 0 0 6, va_cpy i0.2.2.2.2.2.1 w.2.2.2.2.2.1 0 0 60, w.2.2.2.2.2.2.1, w.2.2.2.2.2.2.2) i0 i1 kp dd tr m)
  refine zq_copy (rest := []) (sp := 0) (dp := 0) (n := 99) (by decide +kernel) kc5_46 rfl rfl rfl (by omega) (by omega) (by decide) rfl rfl rfl ?_
  show zq_G _ _ _ _ _ 86 ([(0, .ref 15), (1, .ref 21)], [], XH tx n t dr rd (i0.1, i0.2.1, i0.2.2.1, i0.2.2.2.1, va_cpy i0.2.2.2.2.1 w.2.2.2.2.1 0 0 6, va_cpy i0.2.2.2.2.2.1 w.2.2.2.2.2.1 0 0 60, va_cpy i0.2.2.2.2.2.2.1 w.2.2.2.2.2.2.1 0 0 99, w.2.2.2.2.2.2.2) i0 i1 kp dd tr m)
  refine zq_b [zq_al 1, zq_get 5 8, zq_k 0, zq_al 0, zq_get 5 8, zq_k 0, zq_al 0, zq_get 5 8, zq_alen] [zq_alchk 1, zq_getchk 5 8, zq_kchk 0, zq_alchk 0, zq_getchk 5 8, zq_kchk 0, zq_alchk 0, zq_getchk 5 8, zq_is .arraylength 1] 101 rfl (by decide +kernel) ?_
  show zq_G _ _ _ _ _ 101 ([(0, .ref 15), (1, .ref 21)], [.int 30, .int 0, .ref 19, .int 0, .ref 25], XH tx n t dr rd (i0.1, i0.2.1, i0.2.2.1, i0.2.2.2.1, va_cpy i0.2.2.2.2.1 w.2.2.2.2.1 0 0 6, va_cpy i0.2.2.2.2.2.1 w.2.2.2.2.2.1 0 0 60, va_cpy i0.2.2.2.2.2.2.1 w.2.2.2.2.2.2.1 0 0 99, w.2.2.2.2.2.2.2) i0 i1 kp dd tr m)
  refine zq_copy (rest := []) (sp := 0) (dp := 0) (n := 30) (by decide +kernel) kc5_46 rfl rfl rfl (by omega) (by omega) (by decide) rfl rfl rfl ?_
  show zq_G _ _ _ _ _ 104 ([(0, .ref 15), (1, .ref 21)], [], XH tx n t dr rd (i0.1, i0.2.1, i0.2.2.1, i0.2.2.2.1, va_cpy i0.2.2.2.2.1 w.2.2.2.2.1 0 0 6, va_cpy i0.2.2.2.2.2.1 w.2.2.2.2.2.1 0 0 60, va_cpy i0.2.2.2.2.2.2.1 w.2.2.2.2.2.2.1 0 0 99, va_cpy i0.2.2.2.2.2.2.2 w.2.2.2.2.2.2.2 0 0 30) i0 i1 kp dd tr m)
  exact zq_vret (by decide +kernel) rfl rfl rfl
set_option maxHeartbeats 4000000 in
set_option maxRecDepth 100000 in
theorem c_nbecome_15_26   : zq_P l mX5_become 1 [.ref 15, .ref 26] (XH tx n t dr rd w i0 i1 kp dd tr m) none (XH tx n t dr rd (i1.1, i1.2.1, i1.2.2.1, i1.2.2.2.1, va_cpy i1.2.2.2.2.1 w.2.2.2.2.1 0 0 6, va_cpy i1.2.2.2.2.2.1 w.2.2.2.2.2.1 0 0 60, va_cpy i1.2.2.2.2.2.2.1 w.2.2.2.2.2.2.1 0 0 99, va_cpy i1.2.2.2.2.2.2.2 w.2.2.2.2.2.2.2 0 0 30) i0 i1 kp dd tr m) := by
  refine zq_start (by decide +kernel) rfl (Nat.le_of_ble_eq_true rfl) ?_
  show zq_G _ _ _ _ _ 0 ([(0, .ref 15), (1, .ref 26)], [], XH tx n t dr rd w i0 i1 kp dd tr m)
  refine zq_b [zq_al 0, zq_al 1, zq_get 5 1, zq_puti 5 1, zq_al 0, zq_al 1, zq_get 5 2, zq_puti 5 2, zq_al 0, zq_al 1, zq_get 5 3, zq_puti 5 3, zq_al 0, zq_al 1, zq_get 5 4, zq_puti 5 4, zq_al 1, zq_get 5 5, zq_k 0, zq_al 0, zq_get 5 5, zq_k 0, zq_al 0, zq_get 5 5, zq_alen] [zq_alchk 0, zq_alchk 1, zq_getchk 5 1, zq_putchk 5 1 .int, zq_alchk 0, zq_alchk 1, zq_getchk 5 2, zq_putchk 5 2 .int, zq_alchk 0, zq_alchk 1, zq_getchk 5 3, zq_putchk 5 3 .int, zq_alchk 0, zq_alchk 1, zq_getchk 5 4, zq_putchk 5 4 .int, zq_alchk 1, zq_getchk 5 5, zq_kchk 0, zq_alchk 0, zq_getchk 5 5, zq_kchk 0, zq_alchk 0, zq_getchk 5 5, zq_is .arraylength 1] 47 rfl (by decide +kernel) ?_
  show zq_G _ _ _ _ _ 47 ([(0, .ref 15), (1, .ref 26)], [.int 6, .int 0, .ref 16, .int 0, .ref 27], XH tx n t dr rd (i1.1, i1.2.1, i1.2.2.1, i1.2.2.2.1, w.2.2.2.2.1, w.2.2.2.2.2.1, w.2.2.2.2.2.2.1, w.2.2.2.2.2.2.2) i0 i1 kp dd tr m)
  refine zq_copy (rest := []) (sp := 0) (dp := 0) (n := 6) (by decide +kernel) kc5_46 rfl rfl rfl (by omega) (by omega) (by decide) rfl rfl rfl ?_
  show zq_G _ _ _ _ _ 50 ([(0, .ref 15), (1, .ref 26)], [], XH tx n t dr rd (i1.1, i1.2.1, i1.2.2.1, i1.2.2.2.1, va_cpy i1.2.2.2.2.1 w.2.2.2.2.1 0 0 6, w.2.2.2.2.2.1, w.2.2.2.2.2.2.1, w.2.2.2.2.2.2.2) i0 i1 kp dd tr m)
  refine zq_b [zq_al 1, zq_get 5 6, zq_k 0, zq_al 0, zq_get 5 6, zq_k 0, zq_al 0, zq_get 5 6, zq_alen] [zq_alchk 1, zq_getchk 5 6, zq_kchk 0, zq_alchk 0, zq_getchk 5 6, zq_kchk 0, zq_alchk 0, zq_getchk 5 6, zq_is .arraylength 1] 65 rfl (by decide +kernel) ?_
  show zq_G _ _ _ _ _ 65 ([(0, .ref 15), (1, .ref 26)], [.int 60, .int 0, .ref 17, .int 0, .ref 28], XH tx n t dr rd (i1.1, i1.2.1, i1.2.2.1, i1.2.2.2.1, va_cpy i1.2.2.2.2.1 w.2.2.2.2.1 0 0 6, w.2.2.2.2.2.1, w.2.2.2.2.2.2.1, w.2.2.2.2.2.2.2) i0 i1 kp dd tr m)
  refine zq_copy (rest := []) (sp := 0) (dp := 0) (n := 60) (by decide +kernel) kc5_46 rfl rfl rfl (by omega) (by omega) (by decide) rfl rfl rfl ?_
  show zq_G _ _ _ _ _ 68 ([(0, .ref 15), (1, .ref 26)], [], XH tx n t dr rd (i1.1, i1.2.1, i1.2.2.1, i1.2.2.2.1, va_cpy i1.2.2.2.2.1 w.2.2.2.2.1 0 0 6, va_cpy i1.2.2.2.2.2.1 w.2.2.2.2.2.1 0 0 60, w.2.2.2.2.2.2.1, w.2.2.2.2.2.2.2) i0 i1 kp dd tr m)
  refine zq_b [zq_al 1, zq_get 5 7, zq_k 0, zq_al 0, zq_get 5 7, zq_k 0, zq_al 0, zq_get 5 7, zq_alen] [zq_alchk 1, zq_getchk 5 7, zq_kchk 0, zq_alchk 0, zq_getchk 5 7, zq_kchk 0, zq_alchk 0, zq_getchk 5 7, zq_is .arraylength 1] 83 rfl (by decide +kernel) ?_
  show zq_G _ _ _ _ _ 83 ([(0, .ref 15), (1, .ref 26)], [.int 99, .int 0, .ref 18, .int 0, .ref 29], XH tx n t dr rd (i1.1, i1.2.1, i1.2.2.1, i1.2.2.2.1, va_cpy i1.2.2.2.2.1 w.2.2.2.2.1 0 0 6, va_cpy i1.2.2.2.2.2.1 w.2.2.2.2.2.1 0 0 60, w.2.2.2.2.2.2.1, w.2.2.2.2.2.2.2) i0 i1 kp dd tr m)
  refine zq_copy (rest := []) (sp := 0) (dp := 0) (n := 99) (by decide +kernel) kc5_46 rfl rfl rfl (by omega) (by omega) (by decide) rfl rfl rfl ?_
  show zq_G _ _ _ _ _ 86 ([(0, .ref 15), (1, .ref 26)], [], XH tx n t dr rd (i1.1, i1.2.1, i1.2.2.1, i1.2.2.2.1, va_cpy i1.2.2.2.2.1 w.2.2.2.2.1 0 0 6, va_cpy i1.2.2.2.2.2.1 w.2.2.2.2.2.1 0 0 60, va_cpy i1.2.2.2.2.2.2.1 w.2.2.2.2.2.2.1 0 0 99, w.2.2.2.2.2.2.2) i0 i1 kp dd tr m)
  refine zq_b [zq_al 1, zq_get 5 8, zq_k 0, zq_al 0, zq_get 5 8, zq_k 0, zq_al 0, zq_get 5 8, zq_alen] [zq_alchk 1, zq_getchk 5 8, zq_kchk 0, zq_alchk 0, zq_getchk 5 8, zq_kchk 0, zq_alchk 0, zq_getchk 5 8, zq_is .arraylength 1] 101 rfl (by decide +kernel) ?_
  show zq_G _ _ _ _ _ 101 ([(0, .ref 15), (1, .ref 26)], [.int 30, .int 0, .ref 19, .int 0, .ref 30], XH tx n t dr rd (i1.1, i1.2.1, i1.2.2.1, i1.2.2.2.1, va_cpy i1.2.2.2.2.1 w.2.2.2.2.1 0 0 6, va_cpy i1.2.2.2.2.2.1 w.2.2.2.2.2.1 0 0 60, va_cpy i1.2.2.2.2.2.2.1 w.2.2.2.2.2.2.1 0 0 99, w.2.2.2.2.2.2.2) i0 i1 kp dd tr m)
  refine zq_copy (rest := []) (sp := 0) (dp := 0) (n := 30) (by decide +kernel) kc5_46 rfl rfl rfl (by omega) (by omega) (by decide) rfl rfl rfl ?_
  show zq_G _ _ _ _ _ 104 ([(0, .ref 15), (1, .ref 26)], [], XH tx n t dr rd (i1.1, i1.2.1, i1.2.2.1, i1.2.2.2.1, va_cpy i1.2.2.2.2.1 w.2.2.2.2.1 0 0 6, va_cpy i1.2.2.2.2.2.1 w.2.2.2.2.2.1 0 0 60, va_cpy i1.2.2.2.2.2.2.1 w.2.2.2.2.2.2.1 0 0 99, va_cpy i1.2.2.2.2.2.2.2 w.2.2.2.2.2.2.2 0 0 30) i0 i1 kp dd tr m)
  exact zq_vret (by decide +kernel) rfl rfl rfl
set_option maxHeartbeats 4000000 in
set_option maxRecDepth 100000 in
theorem c_remember {x : Int32} {y : Int32} {z : Int32} (hK : K ≤ 10) : zq_P l mX5_remember 1 [.ref 15, .int x, .int y, .int z] (XH tx n (nI P, nI C, nI R, nI L, hs, ss, cs, gs, vs) dr rd (nI D, sm, nI N, nI K, ce, de, ke, se) i0 i1 kp dd tr m) none (XH tx n (nI P, nI C, nI R, nI L, hs, ss, cs, gs, vs) dr rd (nI D, sm, nI N, nI (zk9 K + 1), ce, de, ke, zse K se x y z) i0 i1 kp dd tr m) := by
  refine zq_start (by decide +kernel) rfl (Nat.le_of_ble_eq_true rfl) ?_
  show zq_G _ _ _ _ _ 0 ([(0, .ref 15), (1, .int x), (2, .int y), (3, .int z)], [], XH tx n (nI P, nI C, nI R, nI L, hs, ss, cs, gs, vs) dr rd (nI D, sm, nI N, nI K, ce, de, ke, se) i0 i1 kp dd tr m)
  have hk9 := zk9_lt K
  refine zq_b [zq_al 0, zq_get 5 4, zq_k 10] [zq_alchk 0, zq_getchk 5 4, zq_kchk 10] 6 rfl (by decide +kernel) ?_
  show zq_G _ _ _ _ _ 6 ([(0, .ref 15), (1, .int x), (2, .int y), (3, .int z)], [.int 10, .int (nI K)], XH tx n (nI P, nI C, nI R, nI L, hs, ss, cs, gs, vs) dr rd (nI D, sm, nI N, nI K, ce, de, ke, se) i0 i1 kp dd tr m)
  refine zq_if .lt 34 (K < 10) (by decide +kernel) (zq_clt (a := K) (b := 10) (by omega) (by omega)) (fun c6 => ?_) (fun c6 => ?_)
  · show zq_G _ _ _ _ _ 34 ([(0, .ref 15), (1, .int x), (2, .int y), (3, .int z)], [], XH tx n (nI P, nI C, nI R, nI L, hs, ss, cs, gs, vs) dr rd (nI D, sm, nI N, nI K, ce, de, ke, se) i0 i1 kp dd tr m)
    refine zq_eq (σ2 := ([(0, .ref 15), (1, .int x), (2, .int y), (3, .int z)], [], XH tx n (nI P, nI C, nI R, nI L, hs, ss, cs, gs, vs) dr rd (nI D, sm, nI N, nI (zk9 K), ce, de, ke, zsh K se) i0 i1 kp dd tr m)) (by rw [zk9_t c6, zsh_t c6]) ?_
    refine zq_b [zq_al 0, zq_get 5 4, zq_k 3, zq_imul (nI ((zk9 K) * 3)), zq_is1 4, zq_al 0, zq_get 5 8, zq_il 4, zq_il 1, zq_iast ((zk9 K) * 3), zq_al 0, zq_get 5 8, zq_il 4, zq_k 1, zq_iadd (nI (((zk9 K) * 3) + 1)), zq_il 2, zq_iast (((zk9 K) * 3) + 1), zq_al 0, zq_get 5 8, zq_il 4, zq_k 2, zq_iadd (nI (((zk9 K) * 3) + 2)), zq_il 3, zq_iast (((zk9 K) * 3) + 2), zq_al 0, zq_dup, zq_get 5 4, zq_k 1, zq_iadd (nI (zk9 K + 1)), zq_puti 5 4] [zq_alchk 0, zq_getchk 5 4, zq_kchk 3, zq_is .imul 1, zq_is1chk 4, zq_alchk 0, zq_getchk 5 8, zq_ilchk 4, zq_ilchk 1, zq_is .iastore 1, zq_alchk 0, zq_getchk 5 8, zq_ilchk 4, zq_kchk 1, zq_is .iadd 1, zq_ilchk 2, zq_is .iastore 1, zq_alchk 0, zq_getchk 5 8, zq_ilchk 4, zq_kchk 2, zq_is .iadd 1, zq_ilchk 3, zq_is .iastore 1, zq_alchk 0, zq_is .dup 1, zq_getchk 5 4, zq_kchk 1, zq_is .iadd 1, zq_putchk 5 4 .int] 80 rfl (by decide +kernel) ?_
    refine ⟨(pk_mul (zk9 K) 3), rfl, (by omega), (by omega), (nI_add ((zk9 K) * 3) 1), rfl, (by omega), (by omega), (nI_add ((zk9 K) * 3) 2), rfl, (by omega), (by omega), (nI_add (zk9 K) 1), ?_⟩
    show zq_G _ _ _ _ _ 80 ([(0, .ref 15), (1, .int x), (2, .int y), (3, .int z), (4, .int (nI ((zk9 K) * 3)))], [], XH tx n (nI P, nI C, nI R, nI L, hs, ss, cs, gs, vs) dr rd (nI D, sm, nI N, nI (zk9 K + 1), ce, de, ke, upd (upd (upd (zsh K se) ((zk9 K) * 3) x) (((zk9 K) * 3) + 1) y) (((zk9 K) * 3) + 2) z) i0 i1 kp dd tr m)
    exact zq_vret (by decide +kernel) rfl rfl rfl
  · show zq_G _ _ _ _ _ 9 ([(0, .ref 15), (1, .int x), (2, .int y), (3, .int z)], [], XH tx n (nI P, nI C, nI R, nI L, hs, ss, cs, gs, vs) dr rd (nI D, sm, nI N, nI K, ce, de, ke, se) i0 i1 kp dd tr m)
    refine zq_b [zq_al 0, zq_k 9, zq_puti 5 4, zq_al 0, zq_get 5 8, zq_k 3, zq_al 0, zq_get 5 8, zq_k 0, zq_al 0, zq_get 5 4, zq_k 3, zq_imul 27] [zq_alchk 0, zq_kchk 9, zq_putchk 5 4 .int, zq_alchk 0, zq_getchk 5 8, zq_kchk 3, zq_alchk 0, zq_getchk 5 8, zq_kchk 0, zq_alchk 0, zq_getchk 5 4, zq_kchk 3, zq_is .imul 1] 31 rfl (by decide +kernel) ?_
    refine ⟨(by decide), ?_⟩
    show zq_G _ _ _ _ _ 31 ([(0, .ref 15), (1, .int x), (2, .int y), (3, .int z)], [.int 27, .int 0, .ref 19, .int 3, .ref 19], XH tx n (nI P, nI C, nI R, nI L, hs, ss, cs, gs, vs) dr rd (nI D, sm, nI N, 9, ce, de, ke, se) i0 i1 kp dd tr m)
    refine zq_copy (rest := []) (sp := 3) (dp := 0) (n := 27) (by decide +kernel) kc5_46 rfl rfl rfl (by omega) (by omega) (by decide) rfl rfl rfl ?_
    show zq_G _ _ _ _ _ 34 ([(0, .ref 15), (1, .int x), (2, .int y), (3, .int z)], [], XH tx n (nI P, nI C, nI R, nI L, hs, ss, cs, gs, vs) dr rd (nI D, sm, nI N, 9, ce, de, ke, va_cpy se se 3 0 27) i0 i1 kp dd tr m)
    refine zq_eq (σ2 := ([(0, .ref 15), (1, .int x), (2, .int y), (3, .int z)], [], XH tx n (nI P, nI C, nI R, nI L, hs, ss, cs, gs, vs) dr rd (nI D, sm, nI N, nI (zk9 K), ce, de, ke, zsh K se) i0 i1 kp dd tr m)) (by rw [zk9_f c6, zsh_f c6]; rfl) ?_
    refine zq_b [zq_al 0, zq_get 5 4, zq_k 3, zq_imul (nI ((zk9 K) * 3)), zq_is1 4, zq_al 0, zq_get 5 8, zq_il 4, zq_il 1, zq_iast ((zk9 K) * 3), zq_al 0, zq_get 5 8, zq_il 4, zq_k 1, zq_iadd (nI (((zk9 K) * 3) + 1)), zq_il 2, zq_iast (((zk9 K) * 3) + 1), zq_al 0, zq_get 5 8, zq_il 4, zq_k 2, zq_iadd (nI (((zk9 K) * 3) + 2)), zq_il 3, zq_iast (((zk9 K) * 3) + 2), zq_al 0, zq_dup, zq_get 5 4, zq_k 1, zq_iadd (nI (zk9 K + 1)), zq_puti 5 4] [zq_alchk 0, zq_getchk 5 4, zq_kchk 3, zq_is .imul 1, zq_is1chk 4, zq_alchk 0, zq_getchk 5 8, zq_ilchk 4, zq_ilchk 1, zq_is .iastore 1, zq_alchk 0, zq_getchk 5 8, zq_ilchk 4, zq_kchk 1, zq_is .iadd 1, zq_ilchk 2, zq_is .iastore 1, zq_alchk 0, zq_getchk 5 8, zq_ilchk 4, zq_kchk 2, zq_is .iadd 1, zq_ilchk 3, zq_is .iastore 1, zq_alchk 0, zq_is .dup 1, zq_getchk 5 4, zq_kchk 1, zq_is .iadd 1, zq_putchk 5 4 .int] 80 rfl (by decide +kernel) ?_
    refine ⟨(pk_mul (zk9 K) 3), rfl, (by omega), (by omega), (nI_add ((zk9 K) * 3) 1), rfl, (by omega), (by omega), (nI_add ((zk9 K) * 3) 2), rfl, (by omega), (by omega), (nI_add (zk9 K) 1), ?_⟩
    show zq_G _ _ _ _ _ 80 ([(0, .ref 15), (1, .int x), (2, .int y), (3, .int z), (4, .int (nI ((zk9 K) * 3)))], [], XH tx n (nI P, nI C, nI R, nI L, hs, ss, cs, gs, vs) dr rd (nI D, sm, nI N, nI (zk9 K + 1), ce, de, ke, upd (upd (upd (zsh K se) ((zk9 K) * 3) x) (((zk9 K) * 3) + 1) y) (((zk9 K) * 3) + 2) z) i0 i1 kp dd tr m)
    exact zq_vret (by decide +kernel) rfl rfl rfl
set_option maxHeartbeats 4000000 in
set_option maxRecDepth 100000 in
theorem c_move {p : Nat} {x : Int32} (hp : p < 6) (hK : K ≤ 10) : zq_P l mX5_move 2 [.ref 15, .int (nI p), .int x] (XH tx n (nI P, nI C, nI R, nI L, hs, ss, cs, gs, vs) dr rd (nI D, sm, nI N, nI K, ce, de, ke, se) i0 i1 kp dd tr m) (some (.int (ce p))) (XH tx n (nI P, nI C, nI R, nI L, hs, ss, cs, gs, vs) dr rd (nI D, sm, nI N, nI (zk9 K + 1), upd ce p x, de, ke, zse K se 0 (nI p) (ce p)) i0 i1 kp dd tr m) := by
  refine zq_start (by decide +kernel) rfl (Nat.le_of_ble_eq_true rfl) ?_
  show zq_G _ _ _ _ _ 0 ([(0, .ref 15), (1, .int (nI p)), (2, .int x)], [], XH tx n (nI P, nI C, nI R, nI L, hs, ss, cs, gs, vs) dr rd (nI D, sm, nI N, nI K, ce, de, ke, se) i0 i1 kp dd tr m)
  refine zq_b [zq_al 0, zq_get 5 5, zq_il 1, zq_iald p (ce p), zq_is1 3, zq_al 0, zq_k 0, zq_il 1, zq_il 3] [zq_alchk 0, zq_getchk 5 5, zq_ilchk 1, zq_is .iaload 1, zq_is1chk 3, zq_alchk 0, zq_kchk 0, zq_ilchk 1, zq_ilchk 3] 11 rfl (by decide +kernel) ?_
  refine ⟨rfl, (by omega), (by omega), rfl, ?_⟩
  show zq_G _ _ _ _ _ 11 ([(0, .ref 15), (1, .int (nI p)), (2, .int x), (3, .int (ce p))], [.int (ce p), .int (nI p), .int 0, .ref 15], XH tx n (nI P, nI C, nI R, nI L, hs, ss, cs, gs, vs) dr rd (nI D, sm, nI N, nI K, ce, de, ke, se) i0 i1 kp dd tr m)
  refine zq_callV (av := [.int 0, .int (nI p), .int (ce p)]) (rest := []) (by decide +kernel) k5_52 (c_remember (x := 0) (y := (nI p)) (z := (ce p)) hK) rfl rfl rfl rfl ?_
  show zq_G _ _ _ _ _ 14 ([(0, .ref 15), (1, .int (nI p)), (2, .int x), (3, .int (ce p))], [], XH tx n (nI P, nI C, nI R, nI L, hs, ss, cs, gs, vs) dr rd (nI D, sm, nI N, nI (zk9 K + 1), ce, de, ke, zse K se 0 (nI p) (ce p)) i0 i1 kp dd tr m)
  refine zq_b [zq_al 0, zq_get 5 5, zq_il 1, zq_il 2, zq_iast p, zq_il 3] [zq_alchk 0, zq_getchk 5 5, zq_ilchk 1, zq_ilchk 2, zq_is .iastore 1, zq_ilchk 3] 22 rfl (by decide +kernel) ?_
  refine ⟨rfl, (by omega), (by omega), ?_⟩
  show zq_G _ _ _ _ _ 22 ([(0, .ref 15), (1, .int (nI p)), (2, .int x), (3, .int (ce p))], [.int (ce p)], XH tx n (nI P, nI C, nI R, nI L, hs, ss, cs, gs, vs) dr rd (nI D, sm, nI N, nI (zk9 K + 1), upd ce p x, de, ke, zse K se 0 (nI p) (ce p)) i0 i1 kp dd tr m)
  exact zq_iret (by decide +kernel) rfl rfl rfl
set_option maxHeartbeats 4000000 in
set_option maxRecDepth 100000 in
theorem c_turnSmoke {x : Int32} (hK : K ≤ 10) : zq_P l mX5_turnSmoke 2 [.ref 15, .int x] (XH tx n (nI P, nI C, nI R, nI L, hs, ss, cs, gs, vs) dr rd (nI D, sm, nI N, nI K, ce, de, ke, se) i0 i1 kp dd tr m) none (XH tx n (nI P, nI C, nI R, nI L, hs, ss, cs, gs, vs) dr rd (nI D, sm ^^^ ((1 : Int32) <<< (x &&& 31)), nI N, nI (zk9 K + 1), ce, de, ke, zse K se 1 (-1) sm) i0 i1 kp dd tr m) := by
  refine zq_start (by decide +kernel) rfl (Nat.le_of_ble_eq_true rfl) ?_
  show zq_G _ _ _ _ _ 0 ([(0, .ref 15), (1, .int x)], [], XH tx n (nI P, nI C, nI R, nI L, hs, ss, cs, gs, vs) dr rd (nI D, sm, nI N, nI K, ce, de, ke, se) i0 i1 kp dd tr m)
  refine zq_b [zq_al 0, zq_k 1, zq_k (-1), zq_al 0, zq_get 5 2] [zq_alchk 0, zq_kchk 1, zq_kchk (-1), zq_alchk 0, zq_getchk 5 2] 7 rfl (by decide +kernel) ?_
  show zq_G _ _ _ _ _ 7 ([(0, .ref 15), (1, .int x)], [.int sm, .int (-1), .int 1, .ref 15], XH tx n (nI P, nI C, nI R, nI L, hs, ss, cs, gs, vs) dr rd (nI D, sm, nI N, nI K, ce, de, ke, se) i0 i1 kp dd tr m)
  refine zq_callV (av := [.int 1, .int (-1), .int sm]) (rest := []) (by decide +kernel) k5_52 (c_remember (x := 1) (y := (-1)) (z := sm) hK) rfl rfl rfl rfl ?_
  show zq_G _ _ _ _ _ 10 ([(0, .ref 15), (1, .int x)], [], XH tx n (nI P, nI C, nI R, nI L, hs, ss, cs, gs, vs) dr rd (nI D, sm, nI N, nI (zk9 K + 1), ce, de, ke, zse K se 1 (-1) sm) i0 i1 kp dd tr m)
  refine zq_b [zq_al 0, zq_dup, zq_get 5 2, zq_k 1, zq_il 1, zq_ishl (1 <<< (x &&& 31)), zq_ixor (sm ^^^ (1 <<< (x &&& 31))), zq_puti 5 2] [zq_alchk 0, zq_is .dup 1, zq_getchk 5 2, zq_kchk 1, zq_ilchk 1, zq_is .ishl 1, zq_is .ixor 1, zq_putchk 5 2 .int] 22 rfl (by decide +kernel) ?_
  refine ⟨rfl, rfl, ?_⟩
  show zq_G _ _ _ _ _ 22 ([(0, .ref 15), (1, .int x)], [], XH tx n (nI P, nI C, nI R, nI L, hs, ss, cs, gs, vs) dr rd (nI D, sm ^^^ (1 <<< (x &&& 31)), nI N, nI (zk9 K + 1), ce, de, ke, zse K se 1 (-1) sm) i0 i1 kp dd tr m)
  exact zq_vret (by decide +kernel) rfl rfl rfl
set_option maxHeartbeats 4000000 in
set_option maxRecDepth 100000 in
theorem c_act {p : Nat} {x : Int32} (hp : p < P) (hN2 : N < 12) (hP : P ≤ 6) (hC : C ≤ 8) (hK : K ≤ 10) (hce : ∀ j, j < P → ce j = nI (cn j) ∧ cn j ≤ 26) : zq_P l mX5_act 6 [.ref 15, .int (nI p), .int x] (XH tx n (nI P, nI C, nI R, nI L, hs, ss, cs, gs, vs) dr rd (nI D, sm, nI N, nI K, ce, de, ke, se) i0 i1 kp dd tr m) (some (.int (zbit (zseen C cs D P hs sm cn) (nI p)))) (XH tx n (nI P, nI C, nI R, nI L, hs, ss, cs, gs, vs) dr rd (nI D, sm, nI (N + 1), nI (zk9 K + 1), ce, zde N de (nI p) x (nI D) (ce p) (zbit (zseen C cs D P hs sm cn) (nI p)), ke, zse K se 2 (nI p) (nI N)) i0 i1 kp dd tr m) := by
  refine zq_start (by decide +kernel) rfl (Nat.le_of_ble_eq_true rfl) ?_
  show zq_G _ _ _ _ _ 0 ([(0, .ref 15), (1, .int (nI p)), (2, .int x)], [], XH tx n (nI P, nI C, nI R, nI L, hs, ss, cs, gs, vs) dr rd (nI D, sm, nI N, nI K, ce, de, ke, se) i0 i1 kp dd tr m)
  refine zq_b [zq_al 0] [zq_alchk 0] 1 rfl (by decide +kernel) ?_
  show zq_G _ _ _ _ _ 1 ([(0, .ref 15), (1, .int (nI p)), (2, .int x)], [.ref 15], XH tx n (nI P, nI C, nI R, nI L, hs, ss, cs, gs, vs) dr rd (nI D, sm, nI N, nI K, ce, de, ke, se) i0 i1 kp dd tr m)
  refine zq_callV (av := []) (rest := []) (by decide +kernel) k5_56 (c_seen hP hC hce) rfl rfl rfl rfl ?_
  show zq_G _ _ _ _ _ 4 ([(0, .ref 15), (1, .int (nI p)), (2, .int x)], [.int (zseen C cs D P hs sm cn)], XH tx n (nI P, nI C, nI R, nI L, hs, ss, cs, gs, vs) dr rd (nI D, sm, nI N, nI K, ce, de, ke, se) i0 i1 kp dd tr m)
  refine zq_b [zq_il 1] [zq_ilchk 1] 5 rfl (by decide +kernel) ?_
  show zq_G _ _ _ _ _ 5 ([(0, .ref 15), (1, .int (nI p)), (2, .int x)], [.int (nI p), .int (zseen C cs D P hs sm cn)], XH tx n (nI P, nI C, nI R, nI L, hs, ss, cs, gs, vs) dr rd (nI D, sm, nI N, nI K, ce, de, ke, se) i0 i1 kp dd tr m)
  refine zq_callN (av := [.int (zseen C cs D P hs sm cn), .int (nI p)]) (rest := []) (by decide +kernel) k5_60 (c_bit (x := (zseen C cs D P hs sm cn)) (p := (nI p))) rfl rfl ?_
  show zq_G _ _ _ _ _ 8 ([(0, .ref 15), (1, .int (nI p)), (2, .int x)], [.int (zbit (zseen C cs D P hs sm cn) (nI p))], XH tx n (nI P, nI C, nI R, nI L, hs, ss, cs, gs, vs) dr rd (nI D, sm, nI N, nI K, ce, de, ke, se) i0 i1 kp dd tr m)
  refine zq_b [zq_is1 3, zq_al 0, zq_k 2, zq_il 1, zq_al 0, zq_get 5 3] [zq_is1chk 3, zq_alchk 0, zq_kchk 2, zq_ilchk 1, zq_alchk 0, zq_getchk 5 3] 16 rfl (by decide +kernel) ?_
  show zq_G _ _ _ _ _ 16 ([(0, .ref 15), (1, .int (nI p)), (2, .int x), (3, .int (zbit (zseen C cs D P hs sm cn) (nI p)))], [.int (nI N), .int (nI p), .int 2, .ref 15], XH tx n (nI P, nI C, nI R, nI L, hs, ss, cs, gs, vs) dr rd (nI D, sm, nI N, nI K, ce, de, ke, se) i0 i1 kp dd tr m)
  refine zq_callV (av := [.int 2, .int (nI p), .int (nI N)]) (rest := []) (by decide +kernel) k5_52 (c_remember (x := 2) (y := (nI p)) (z := (nI N)) hK) rfl rfl rfl rfl ?_
  show zq_G _ _ _ _ _ 19 ([(0, .ref 15), (1, .int (nI p)), (2, .int x), (3, .int (zbit (zseen C cs D P hs sm cn) (nI p)))], [], XH tx n (nI P, nI C, nI R, nI L, hs, ss, cs, gs, vs) dr rd (nI D, sm, nI N, nI (zk9 K + 1), ce, de, ke, zse K se 2 (nI p) (nI N)) i0 i1 kp dd tr m)
  refine zq_b [zq_al 0, zq_get 5 3, zq_k 5, zq_imul (nI (N * 5)), zq_is1 4, zq_al 0, zq_get 5 6, zq_il 4, zq_k 0, zq_iadd (nI (N * 5 + 0)), zq_il 1, zq_iast (N * 5 + 0), zq_al 0, zq_get 5 6, zq_il 4, zq_k 1, zq_iadd (nI (N * 5 + 1)), zq_il 2, zq_iast (N * 5 + 1), zq_al 0, zq_get 5 6, zq_il 4, zq_k 2, zq_iadd (nI (N * 5 + 2)), zq_al 0, zq_get 5 1, zq_iast (N * 5 + 2), zq_al 0, zq_get 5 6, zq_il 4, zq_k 3, zq_iadd (nI (N * 5 + 3)), zq_al 0, zq_get 5 5, zq_il 1, zq_iald p (ce p), zq_iast (N * 5 + 3), zq_al 0, zq_get 5 6, zq_il 4, zq_k 4, zq_iadd (nI (N * 5 + 4)), zq_il 3, zq_iast (N * 5 + 4), zq_al 0, zq_dup, zq_get 5 3, zq_k 1, zq_iadd (nI (N + 1)), zq_puti 5 3, zq_il 3] [zq_alchk 0, zq_getchk 5 3, zq_kchk 5, zq_is .imul 1, zq_is1chk 4, zq_alchk 0, zq_getchk 5 6, zq_ilchk 4, zq_kchk 0, zq_is .iadd 1, zq_ilchk 1, zq_is .iastore 1, zq_alchk 0, zq_getchk 5 6, zq_ilchk 4, zq_kchk 1, zq_is .iadd 1, zq_ilchk 2, zq_is .iastore 1, zq_alchk 0, zq_getchk 5 6, zq_ilchk 4, zq_kchk 2, zq_is .iadd 1, zq_alchk 0, zq_getchk 5 1, zq_is .iastore 1, zq_alchk 0, zq_getchk 5 6, zq_ilchk 4, zq_kchk 3, zq_is .iadd 1, zq_alchk 0, zq_getchk 5 5, zq_ilchk 1, zq_is .iaload 1, zq_is .iastore 1, zq_alchk 0, zq_getchk 5 6, zq_ilchk 4, zq_kchk 4, zq_is .iadd 1, zq_ilchk 3, zq_is .iastore 1, zq_alchk 0, zq_is .dup 1, zq_getchk 5 3, zq_kchk 1, zq_is .iadd 1, zq_putchk 5 3 .int, zq_ilchk 3] 96 rfl (by decide +kernel) ?_
  refine ⟨(pk_mul N 5), (nI_add (N * 5) 0), rfl, (by omega), (by omega), (nI_add (N * 5) 1), rfl, (by omega), (by omega), (nI_add (N * 5) 2), rfl, (by omega), (by omega), (nI_add (N * 5) 3), rfl, (by omega), (by omega), rfl, rfl, (by omega), (by omega), (nI_add (N * 5) 4), rfl, (by omega), (by omega), (nI_add N 1), ?_⟩
  show zq_G _ _ _ _ _ 96 ([(0, .ref 15), (1, .int (nI p)), (2, .int x), (3, .int (zbit (zseen C cs D P hs sm cn) (nI p))), (4, .int (nI (N * 5)))], [.int (zbit (zseen C cs D P hs sm cn) (nI p))], XH tx n (nI P, nI C, nI R, nI L, hs, ss, cs, gs, vs) dr rd (nI D, sm, nI (N + 1), nI (zk9 K + 1), ce, upd (upd (upd (upd (upd de (N * 5 + 0) (nI p)) (N * 5 + 1) x) (N * 5 + 2) (nI D)) (N * 5 + 3) (ce p)) (N * 5 + 4) (zbit (zseen C cs D P hs sm cn) (nI p)), ke, zse K se 2 (nI p) (nI N)) i0 i1 kp dd tr m)
  exact zq_iret (by decide +kernel) rfl rfl rfl
set_option maxHeartbeats 4000000 in
set_option maxRecDepth 100000 in
theorem c_passDay  (hD2 : D < 99) (hP : P ≤ 6) (hC : C ≤ 8) (hK : K ≤ 10) (hce : ∀ j, j < P → ce j = nI (cn j) ∧ cn j ≤ 26) : zq_P l mX5_passDay 6 [.ref 15] (XH tx n (nI P, nI C, nI R, nI L, hs, ss, cs, gs, vs) dr rd (nI D, sm, nI N, nI K, ce, de, ke, se) i0 i1 kp dd tr m) none (XH tx n (nI P, nI C, nI R, nI L, hs, ss, cs, gs, vs) dr rd (nI (D + 1), 0, nI N, nI (zk9 K + 1), ce, de, upd ke D (zseen C cs D P hs sm cn), zse K se 3 (-1) sm) i0 i1 kp dd tr m) := by
  refine zq_start (by decide +kernel) rfl (Nat.le_of_ble_eq_true rfl) ?_
  show zq_G _ _ _ _ _ 0 ([(0, .ref 15)], [], XH tx n (nI P, nI C, nI R, nI L, hs, ss, cs, gs, vs) dr rd (nI D, sm, nI N, nI K, ce, de, ke, se) i0 i1 kp dd tr m)
  refine zq_b [zq_al 0, zq_k 3, zq_k (-1), zq_al 0, zq_get 5 2] [zq_alchk 0, zq_kchk 3, zq_kchk (-1), zq_alchk 0, zq_getchk 5 2] 7 rfl (by decide +kernel) ?_
  show zq_G _ _ _ _ _ 7 ([(0, .ref 15)], [.int sm, .int (-1), .int 3, .ref 15], XH tx n (nI P, nI C, nI R, nI L, hs, ss, cs, gs, vs) dr rd (nI D, sm, nI N, nI K, ce, de, ke, se) i0 i1 kp dd tr m)
  refine zq_callV (av := [.int 3, .int (-1), .int sm]) (rest := []) (by decide +kernel) k5_52 (c_remember (x := 3) (y := (-1)) (z := sm) hK) rfl rfl rfl rfl ?_
  show zq_G _ _ _ _ _ 10 ([(0, .ref 15)], [], XH tx n (nI P, nI C, nI R, nI L, hs, ss, cs, gs, vs) dr rd (nI D, sm, nI N, nI (zk9 K + 1), ce, de, ke, zse K se 3 (-1) sm) i0 i1 kp dd tr m)
  refine zq_b [zq_al 0, zq_get 5 7, zq_al 0, zq_get 5 1, zq_al 0] [zq_alchk 0, zq_getchk 5 7, zq_alchk 0, zq_getchk 5 1, zq_alchk 0] 19 rfl (by decide +kernel) ?_
  show zq_G _ _ _ _ _ 19 ([(0, .ref 15)], [.ref 15, .int (nI D), .ref 18], XH tx n (nI P, nI C, nI R, nI L, hs, ss, cs, gs, vs) dr rd (nI D, sm, nI N, nI (zk9 K + 1), ce, de, ke, zse K se 3 (-1) sm) i0 i1 kp dd tr m)
  refine zq_callV (av := []) (rest := [.int (nI D), .ref 18]) (by decide +kernel) k5_56 (c_seen hP hC hce) rfl rfl rfl rfl ?_
  show zq_G _ _ _ _ _ 22 ([(0, .ref 15)], [.int (zseen C cs D P hs sm cn), .int (nI D), .ref 18], XH tx n (nI P, nI C, nI R, nI L, hs, ss, cs, gs, vs) dr rd (nI D, sm, nI N, nI (zk9 K + 1), ce, de, ke, zse K se 3 (-1) sm) i0 i1 kp dd tr m)
  refine zq_b [zq_iast D, zq_al 0, zq_k 0, zq_puti 5 2, zq_al 0, zq_dup, zq_get 5 1, zq_k 1, zq_iadd (nI (D + 1)), zq_puti 5 1] [zq_is .iastore 1, zq_alchk 0, zq_kchk 0, zq_putchk 5 2 .int, zq_alchk 0, zq_is .dup 1, zq_getchk 5 1, zq_kchk 1, zq_is .iadd 1, zq_putchk 5 1 .int] 38 rfl (by decide +kernel) ?_
  refine ⟨rfl, (by omega), (by omega), (nI_add D 1), ?_⟩
  show zq_G _ _ _ _ _ 38 ([(0, .ref 15)], [], XH tx n (nI P, nI C, nI R, nI L, hs, ss, cs, gs, vs) dr rd (nI (D + 1), 0, nI N, nI (zk9 K + 1), ce, de, upd ke D (zseen C cs D P hs sm cn), zse K se 3 (-1) sm) i0 i1 kp dd tr m)
  exact zq_vret (by decide +kernel) rfl rfl rfl
set_option maxHeartbeats 4000000 in
set_option maxRecDepth 100000 in
theorem c_takeBack_0 {q : Nat} (hK1 : 1 ≤ K) (hK : K ≤ 10) (hx : se ((K - 1) * 3) = 0) (hq : se ((K - 1) * 3 + 1) = nI q) (hq6 : q < 6) : zq_P l mX5_takeBack 0 [.ref 15] (XH tx n (nI P, nI C, nI R, nI L, hs, ss, cs, gs, vs) dr rd (nI D, sm, nI N, nI K, ce, de, ke, se) i0 i1 kp dd tr m) none (XH tx n (nI P, nI C, nI R, nI L, hs, ss, cs, gs, vs) dr rd (nI D, sm, nI N, nI (K - 1), upd ce q (se ((K - 1) * 3 + 2)), de, ke, se) i0 i1 kp dd tr m) := by
  refine zq_start (by decide +kernel) rfl (Nat.le_of_ble_eq_true rfl) ?_
  show zq_G _ _ _ _ _ 0 ([(0, .ref 15)], [], XH tx n (nI P, nI C, nI R, nI L, hs, ss, cs, gs, vs) dr rd (nI D, sm, nI N, nI K, ce, de, ke, se) i0 i1 kp dd tr m)
  refine zq_b [zq_al 0, zq_dup, zq_get 5 4, zq_k 1, zq_isub (nI (K - 1)), zq_puti 5 4, zq_al 0, zq_get 5 4, zq_k 3, zq_imul (nI ((K - 1) * 3)), zq_is1 1, zq_al 0, zq_get 5 8, zq_il 1, zq_k 2, zq_iadd (nI (((K - 1) * 3) + 2)), zq_iald (((K - 1) * 3) + 2) (se (((K - 1) * 3) + 2)), zq_is1 2, zq_al 0, zq_get 5 8, zq_il 1, zq_iald ((K - 1) * 3) 0] [zq_alchk 0, zq_is .dup 1, zq_getchk 5 4, zq_kchk 1, zq_is .isub 1, zq_putchk 5 4 .int, zq_alchk 0, zq_getchk 5 4, zq_kchk 3, zq_is .imul 1, zq_is1chk 1, zq_alchk 0, zq_getchk 5 8, zq_ilchk 1, zq_kchk 2, zq_is .iadd 1, zq_is .iaload 1, zq_is1chk 2, zq_alchk 0, zq_getchk 5 8, zq_ilchk 1, zq_is .iaload 1] 32 rfl (by decide +kernel) ?_
  refine ⟨(pk_sub (a := K) (b := 1) (by omega)), (pk_mul (K - 1) 3), (nI_add ((K - 1) * 3) 2), rfl, (by omega), (by omega), rfl, rfl, (by omega), (by omega), hx, ?_⟩
  show zq_G _ _ _ _ _ 32 ([(0, .ref 15), (1, .int (nI ((K - 1) * 3))), (2, .int (se (((K - 1) * 3) + 2)))], [.int 0], XH tx n (nI P, nI C, nI R, nI L, hs, ss, cs, gs, vs) dr rd (nI D, sm, nI N, nI (K - 1), ce, de, ke, se) i0 i1 kp dd tr m)
  refine zq_swc [(0, 60), (1, 77), (2, 85)] 93 (by decide +kernel) ⟨fun _ => ?_, fun c => absurd c (by decide), fun c => absurd c (by decide), trivial⟩ (fun c => absurd (by decide) c.1)
  show zq_G _ _ _ _ _ 60 ([(0, .ref 15), (1, .int (nI ((K - 1) * 3))), (2, .int (se (((K - 1) * 3) + 2)))], [], XH tx n (nI P, nI C, nI R, nI L, hs, ss, cs, gs, vs) dr rd (nI D, sm, nI N, nI (K - 1), ce, de, ke, se) i0 i1 kp dd tr m)
  refine zq_b [zq_al 0, zq_get 5 5, zq_al 0, zq_get 5 8, zq_il 1, zq_k 1, zq_iadd (nI (((K - 1) * 3) + 1)), zq_iald (((K - 1) * 3) + 1) (nI q), zq_il 2, zq_iast q, zq_go] [zq_alchk 0, zq_getchk 5 5, zq_alchk 0, zq_getchk 5 8, zq_ilchk 1, zq_kchk 1, zq_is .iadd 1, zq_is .iaload 1, zq_ilchk 2, zq_is .iastore 1, zq_gochk] 108 rfl (by decide +kernel) ?_
  refine ⟨(nI_add ((K - 1) * 3) 1), rfl, (by omega), (by omega), hq, rfl, (by omega), (by omega), ?_⟩
  show zq_G _ _ _ _ _ 108 ([(0, .ref 15), (1, .int (nI ((K - 1) * 3))), (2, .int (se (((K - 1) * 3) + 2)))], [], XH tx n (nI P, nI C, nI R, nI L, hs, ss, cs, gs, vs) dr rd (nI D, sm, nI N, nI (K - 1), upd ce q (se (((K - 1) * 3) + 2)), de, ke, se) i0 i1 kp dd tr m)
  exact zq_vret (by decide +kernel) rfl rfl rfl
set_option maxHeartbeats 4000000 in
set_option maxRecDepth 100000 in
theorem c_takeBack_1  (hK1 : 1 ≤ K) (hK : K ≤ 10) (hx : se ((K - 1) * 3) = 1) : zq_P l mX5_takeBack 0 [.ref 15] (XH tx n (nI P, nI C, nI R, nI L, hs, ss, cs, gs, vs) dr rd (nI D, sm, nI N, nI K, ce, de, ke, se) i0 i1 kp dd tr m) none (XH tx n (nI P, nI C, nI R, nI L, hs, ss, cs, gs, vs) dr rd (nI D, se ((K - 1) * 3 + 2), nI N, nI (K - 1), ce, de, ke, se) i0 i1 kp dd tr m) := by
  refine zq_start (by decide +kernel) rfl (Nat.le_of_ble_eq_true rfl) ?_
  show zq_G _ _ _ _ _ 0 ([(0, .ref 15)], [], XH tx n (nI P, nI C, nI R, nI L, hs, ss, cs, gs, vs) dr rd (nI D, sm, nI N, nI K, ce, de, ke, se) i0 i1 kp dd tr m)
  refine zq_b [zq_al 0, zq_dup, zq_get 5 4, zq_k 1, zq_isub (nI (K - 1)), zq_puti 5 4, zq_al 0, zq_get 5 4, zq_k 3, zq_imul (nI ((K - 1) * 3)), zq_is1 1, zq_al 0, zq_get 5 8, zq_il 1, zq_k 2, zq_iadd (nI (((K - 1) * 3) + 2)), zq_iald (((K - 1) * 3) + 2) (se (((K - 1) * 3) + 2)), zq_is1 2, zq_al 0, zq_get 5 8, zq_il 1, zq_iald ((K - 1) * 3) 1] [zq_alchk 0, zq_is .dup 1, zq_getchk 5 4, zq_kchk 1, zq_is .isub 1, zq_putchk 5 4 .int, zq_alchk 0, zq_getchk 5 4, zq_kchk 3, zq_is .imul 1, zq_is1chk 1, zq_alchk 0, zq_getchk 5 8, zq_ilchk 1, zq_kchk 2, zq_is .iadd 1, zq_is .iaload 1, zq_is1chk 2, zq_alchk 0, zq_getchk 5 8, zq_ilchk 1, zq_is .iaload 1] 32 rfl (by decide +kernel) ?_
  refine ⟨(pk_sub (a := K) (b := 1) (by omega)), (pk_mul (K - 1) 3), (nI_add ((K - 1) * 3) 2), rfl, (by omega), (by omega), rfl, rfl, (by omega), (by omega), hx, ?_⟩
  show zq_G _ _ _ _ _ 32 ([(0, .ref 15), (1, .int (nI ((K - 1) * 3))), (2, .int (se (((K - 1) * 3) + 2)))], [.int 1], XH tx n (nI P, nI C, nI R, nI L, hs, ss, cs, gs, vs) dr rd (nI D, sm, nI N, nI (K - 1), ce, de, ke, se) i0 i1 kp dd tr m)
  refine zq_swc [(0, 60), (1, 77), (2, 85)] 93 (by decide +kernel) ⟨fun c => absurd c (by decide), fun _ => ?_, fun c => absurd c (by decide), trivial⟩ (fun c => absurd (by decide) c.2.1)
  show zq_G _ _ _ _ _ 77 ([(0, .ref 15), (1, .int (nI ((K - 1) * 3))), (2, .int (se (((K - 1) * 3) + 2)))], [], XH tx n (nI P, nI C, nI R, nI L, hs, ss, cs, gs, vs) dr rd (nI D, sm, nI N, nI (K - 1), ce, de, ke, se) i0 i1 kp dd tr m)
  refine zq_b [zq_al 0, zq_il 2, zq_puti 5 2, zq_go] [zq_alchk 0, zq_ilchk 2, zq_putchk 5 2 .int, zq_gochk] 108 rfl (by decide +kernel) ?_
  show zq_G _ _ _ _ _ 108 ([(0, .ref 15), (1, .int (nI ((K - 1) * 3))), (2, .int (se (((K - 1) * 3) + 2)))], [], XH tx n (nI P, nI C, nI R, nI L, hs, ss, cs, gs, vs) dr rd (nI D, se (((K - 1) * 3) + 2), nI N, nI (K - 1), ce, de, ke, se) i0 i1 kp dd tr m)
  exact zq_vret (by decide +kernel) rfl rfl rfl
set_option maxHeartbeats 4000000 in
set_option maxRecDepth 100000 in
theorem c_takeBack_2 {q : Nat} (hK1 : 1 ≤ K) (hK : K ≤ 10) (hx : se ((K - 1) * 3) = 2) (hq : se ((K - 1) * 3 + 2) = nI q) : zq_P l mX5_takeBack 0 [.ref 15] (XH tx n (nI P, nI C, nI R, nI L, hs, ss, cs, gs, vs) dr rd (nI D, sm, nI N, nI K, ce, de, ke, se) i0 i1 kp dd tr m) none (XH tx n (nI P, nI C, nI R, nI L, hs, ss, cs, gs, vs) dr rd (nI D, sm, nI q, nI (K - 1), ce, de, ke, se) i0 i1 kp dd tr m) := by
  refine zq_start (by decide +kernel) rfl (Nat.le_of_ble_eq_true rfl) ?_
  show zq_G _ _ _ _ _ 0 ([(0, .ref 15)], [], XH tx n (nI P, nI C, nI R, nI L, hs, ss, cs, gs, vs) dr rd (nI D, sm, nI N, nI K, ce, de, ke, se) i0 i1 kp dd tr m)
  refine zq_b [zq_al 0, zq_dup, zq_get 5 4, zq_k 1, zq_isub (nI (K - 1)), zq_puti 5 4, zq_al 0, zq_get 5 4, zq_k 3, zq_imul (nI ((K - 1) * 3)), zq_is1 1, zq_al 0, zq_get 5 8, zq_il 1, zq_k 2, zq_iadd (nI (((K - 1) * 3) + 2)), zq_iald (((K - 1) * 3) + 2) (nI q), zq_is1 2, zq_al 0, zq_get 5 8, zq_il 1, zq_iald ((K - 1) * 3) 2] [zq_alchk 0, zq_is .dup 1, zq_getchk 5 4, zq_kchk 1, zq_is .isub 1, zq_putchk 5 4 .int, zq_alchk 0, zq_getchk 5 4, zq_kchk 3, zq_is .imul 1, zq_is1chk 1, zq_alchk 0, zq_getchk 5 8, zq_ilchk 1, zq_kchk 2, zq_is .iadd 1, zq_is .iaload 1, zq_is1chk 2, zq_alchk 0, zq_getchk 5 8, zq_ilchk 1, zq_is .iaload 1] 32 rfl (by decide +kernel) ?_
  refine ⟨(pk_sub (a := K) (b := 1) (by omega)), (pk_mul (K - 1) 3), (nI_add ((K - 1) * 3) 2), rfl, (by omega), (by omega), hq, rfl, (by omega), (by omega), hx, ?_⟩
  show zq_G _ _ _ _ _ 32 ([(0, .ref 15), (1, .int (nI ((K - 1) * 3))), (2, .int (nI q))], [.int 2], XH tx n (nI P, nI C, nI R, nI L, hs, ss, cs, gs, vs) dr rd (nI D, sm, nI N, nI (K - 1), ce, de, ke, se) i0 i1 kp dd tr m)
  refine zq_swc [(0, 60), (1, 77), (2, 85)] 93 (by decide +kernel) ⟨fun c => absurd c (by decide), fun c => absurd c (by decide), fun _ => ?_, trivial⟩ (fun c => absurd (by decide) c.2.2.1)
  show zq_G _ _ _ _ _ 85 ([(0, .ref 15), (1, .int (nI ((K - 1) * 3))), (2, .int (nI q))], [], XH tx n (nI P, nI C, nI R, nI L, hs, ss, cs, gs, vs) dr rd (nI D, sm, nI N, nI (K - 1), ce, de, ke, se) i0 i1 kp dd tr m)
  refine zq_b [zq_al 0, zq_il 2, zq_puti 5 3, zq_go] [zq_alchk 0, zq_ilchk 2, zq_putchk 5 3 .int, zq_gochk] 108 rfl (by decide +kernel) ?_
  show zq_G _ _ _ _ _ 108 ([(0, .ref 15), (1, .int (nI ((K - 1) * 3))), (2, .int (nI q))], [], XH tx n (nI P, nI C, nI R, nI L, hs, ss, cs, gs, vs) dr rd (nI D, sm, nI q, nI (K - 1), ce, de, ke, se) i0 i1 kp dd tr m)
  exact zq_vret (by decide +kernel) rfl rfl rfl
set_option maxHeartbeats 4000000 in
set_option maxRecDepth 100000 in
theorem c_takeBack_3  (hK1 : 1 ≤ K) (hK : K ≤ 10) (hx : se ((K - 1) * 3) = 3) (hD1 : 1 ≤ D) : zq_P l mX5_takeBack 0 [.ref 15] (XH tx n (nI P, nI C, nI R, nI L, hs, ss, cs, gs, vs) dr rd (nI D, sm, nI N, nI K, ce, de, ke, se) i0 i1 kp dd tr m) none (XH tx n (nI P, nI C, nI R, nI L, hs, ss, cs, gs, vs) dr rd (nI (D - 1), se ((K - 1) * 3 + 2), nI N, nI (K - 1), ce, de, ke, se) i0 i1 kp dd tr m) := by
  refine zq_start (by decide +kernel) rfl (Nat.le_of_ble_eq_true rfl) ?_
  show zq_G _ _ _ _ _ 0 ([(0, .ref 15)], [], XH tx n (nI P, nI C, nI R, nI L, hs, ss, cs, gs, vs) dr rd (nI D, sm, nI N, nI K, ce, de, ke, se) i0 i1 kp dd tr m)
  refine zq_b [zq_al 0, zq_dup, zq_get 5 4, zq_k 1, zq_isub (nI (K - 1)), zq_puti 5 4, zq_al 0, zq_get 5 4, zq_k 3, zq_imul (nI ((K - 1) * 3)), zq_is1 1, zq_al 0, zq_get 5 8, zq_il 1, zq_k 2, zq_iadd (nI (((K - 1) * 3) + 2)), zq_iald (((K - 1) * 3) + 2) (se (((K - 1) * 3) + 2)), zq_is1 2, zq_al 0, zq_get 5 8, zq_il 1, zq_iald ((K - 1) * 3) 3] [zq_alchk 0, zq_is .dup 1, zq_getchk 5 4, zq_kchk 1, zq_is .isub 1, zq_putchk 5 4 .int, zq_alchk 0, zq_getchk 5 4, zq_kchk 3, zq_is .imul 1, zq_is1chk 1, zq_alchk 0, zq_getchk 5 8, zq_ilchk 1, zq_kchk 2, zq_is .iadd 1, zq_is .iaload 1, zq_is1chk 2, zq_alchk 0, zq_getchk 5 8, zq_ilchk 1, zq_is .iaload 1] 32 rfl (by decide +kernel) ?_
  refine ⟨(pk_sub (a := K) (b := 1) (by omega)), (pk_mul (K - 1) 3), (nI_add ((K - 1) * 3) 2), rfl, (by omega), (by omega), rfl, rfl, (by omega), (by omega), hx, ?_⟩
  show zq_G _ _ _ _ _ 32 ([(0, .ref 15), (1, .int (nI ((K - 1) * 3))), (2, .int (se (((K - 1) * 3) + 2)))], [.int 3], XH tx n (nI P, nI C, nI R, nI L, hs, ss, cs, gs, vs) dr rd (nI D, sm, nI N, nI (K - 1), ce, de, ke, se) i0 i1 kp dd tr m)
  refine zq_swc [(0, 60), (1, 77), (2, 85)] 93 (by decide +kernel) ⟨fun c => absurd c (by decide), fun c => absurd c (by decide), fun c => absurd c (by decide), trivial⟩ (fun _ => ?_)
  show zq_G _ _ _ _ _ 93 ([(0, .ref 15), (1, .int (nI ((K - 1) * 3))), (2, .int (se (((K - 1) * 3) + 2)))], [], XH tx n (nI P, nI C, nI R, nI L, hs, ss, cs, gs, vs) dr rd (nI D, sm, nI N, nI (K - 1), ce, de, ke, se) i0 i1 kp dd tr m)
  refine zq_b [zq_al 0, zq_il 2, zq_puti 5 2, zq_al 0, zq_dup, zq_get 5 1, zq_k 1, zq_isub (nI (D - 1)), zq_puti 5 1] [zq_alchk 0, zq_ilchk 2, zq_putchk 5 2 .int, zq_alchk 0, zq_is .dup 1, zq_getchk 5 1, zq_kchk 1, zq_is .isub 1, zq_putchk 5 1 .int] 108 rfl (by decide +kernel) ?_
  refine ⟨(pk_sub (a := D) (b := 1) (by omega)), ?_⟩
  show zq_G _ _ _ _ _ 108 ([(0, .ref 15), (1, .int (nI ((K - 1) * 3))), (2, .int (se (((K - 1) * 3) + 2)))], [], XH tx n (nI P, nI C, nI R, nI L, hs, ss, cs, gs, vs) dr rd (nI (D - 1), se (((K - 1) * 3) + 2), nI N, nI (K - 1), ce, de, ke, se) i0 i1 kp dd tr m)
  exact zq_vret (by decide +kernel) rfl rfl rfl
set_option maxHeartbeats 4000000 in
set_option maxRecDepth 100000 in
theorem c_actsAcross_g {x : Int32} (hR : R ≤ 6) : zq_P l mX9_actsAcross 1 [.ref 2, .int x, .ref 7, .ref 6] (XH tx n (nI P, nI C, nI R, nI L, hs, ss, cs, gs, vs) dr rd (nI D, sm, nI N, nI K, ce, de, ke, se) i0 i1 kp dd tr m) (some (.int (zac x vs gs R))) (XH tx n (nI P, nI C, nI R, nI L, hs, ss, cs, gs, vs) dr rd (nI D, sm, nI N, nI K, ce, de, ke, se) i0 i1 kp dd tr m) := by
  refine zq_start (by decide +kernel) rfl (Nat.le_of_ble_eq_true rfl) ?_
  show zq_G _ _ _ _ _ 0 ([(0, .ref 2), (1, .int x), (2, .ref 7), (3, .ref 6)], [], XH tx n (nI P, nI C, nI R, nI L, hs, ss, cs, gs, vs) dr rd (nI D, sm, nI N, nI K, ce, de, ke, se) i0 i1 kp dd tr m)
  refine zq_b [zq_k 0, zq_is1 4, zq_k 0, zq_is1 5] [zq_kchk 0, zq_is1chk 4, zq_kchk 0, zq_is1chk 5] 6 rfl (by decide +kernel) ?_
  show zq_G _ _ _ _ _ 6 ([(0, .ref 2), (1, .int x), (2, .ref 7), (3, .ref 6), (4, .int 0), (5, .int 0)], [], XH tx n (nI P, nI C, nI R, nI L, hs, ss, cs, gs, vs) dr rd (nI D, sm, nI N, nI K, ce, de, ke, se) i0 i1 kp dd tr m)
  refine zq_loop (fun i => ([(0, .ref 2), (1, .int x), (2, .ref 7), (3, .ref 6), (4, .int (zac x vs gs i)), (5, .int (nI i))], [], XH tx n (nI P, nI C, nI R, nI L, hs, ss, cs, gs, vs) dr rd (nI D, sm, nI N, nI K, ce, de, ke, se) i0 i1 kp dd tr m)) (fun i => True) (R) (0) (by omega) (trivial) (fun i hl6 hi6 hI6 ih6 => ?_) (fun hI6 => ?_)
  · show zq_G _ _ _ _ _ 6 ([(0, .ref 2), (1, .int x), (2, .ref 7), (3, .ref 6), (4, .int (zac x vs gs i)), (5, .int (nI i))], [], XH tx n (nI P, nI C, nI R, nI L, hs, ss, cs, gs, vs) dr rd (nI D, sm, nI N, nI K, ce, de, ke, se) i0 i1 kp dd tr m)
    refine zq_b [zq_il 5, zq_al 0, zq_get 9 2] [zq_ilchk 5, zq_alchk 0, zq_getchk 9 2] 12 rfl (by decide +kernel) ?_
    show zq_G _ _ _ _ _ 12 ([(0, .ref 2), (1, .int x), (2, .ref 7), (3, .ref 6), (4, .int (zac x vs gs i)), (5, .int (nI i))], [.int (nI R), .int (nI i)], XH tx n (nI P, nI C, nI R, nI L, hs, ss, cs, gs, vs) dr rd (nI D, sm, nI N, nI K, ce, de, ke, se) i0 i1 kp dd tr m)
    refine zq_if .ge 44 (R ≤ i) (by decide +kernel) (zq_cge (a := i) (b := R) (by omega) (by omega)) (fun c12 => absurd c12 (by omega)) (fun c12 => ?_)
    show zq_G _ _ _ _ _ 15 ([(0, .ref 2), (1, .int x), (2, .ref 7), (3, .ref 6), (4, .int (zac x vs gs i)), (5, .int (nI i))], [], XH tx n (nI P, nI C, nI R, nI L, hs, ss, cs, gs, vs) dr rd (nI D, sm, nI N, nI K, ce, de, ke, se) i0 i1 kp dd tr m)
    refine zq_b [zq_il 1, zq_al 2, zq_il 5, zq_iald i (vs i)] [zq_ilchk 1, zq_alchk 2, zq_ilchk 5, zq_is .iaload 1] 20 rfl (by decide +kernel) ?_
    refine ⟨rfl, (by omega), (by omega), rfl, ?_⟩
    show zq_G _ _ _ _ _ 20 ([(0, .ref 2), (1, .int x), (2, .ref 7), (3, .ref 6), (4, .int (zac x vs gs i)), (5, .int (nI i))], [.int (vs i), .int x], XH tx n (nI P, nI C, nI R, nI L, hs, ss, cs, gs, vs) dr rd (nI D, sm, nI N, nI K, ce, de, ke, se) i0 i1 kp dd tr m)
    refine zq_callN (av := [.int x, .int (vs i)]) (rest := []) (by decide +kernel) k9_50 (c_bit (x := x) (p := (vs i))) rfl rfl ?_
    show zq_G _ _ _ _ _ 23 ([(0, .ref 2), (1, .int x), (2, .ref 7), (3, .ref 6), (4, .int (zac x vs gs i)), (5, .int (nI i))], [.int (zbit x (vs i))], XH tx n (nI P, nI C, nI R, nI L, hs, ss, cs, gs, vs) dr rd (nI D, sm, nI N, nI K, ce, de, ke, se) i0 i1 kp dd tr m)
    refine zq_b [zq_k 1] [zq_kchk 1] 24 rfl (by decide +kernel) ?_
    show zq_G _ _ _ _ _ 24 ([(0, .ref 2), (1, .int x), (2, .ref 7), (3, .ref 6), (4, .int (zac x vs gs i)), (5, .int (nI i))], [.int 1, .int (zbit x (vs i))], XH tx n (nI P, nI C, nI R, nI L, hs, ss, cs, gs, vs) dr rd (nI D, sm, nI N, nI K, ce, de, ke, se) i0 i1 kp dd tr m)
    refine zq_if .ne 38 (¬ (zbit x (vs i)) = 1) (by decide +kernel) (Iff.rfl) (fun c24 => ?_) (fun c24 => ?_)
    · show zq_G _ _ _ _ _ 38 ([(0, .ref 2), (1, .int x), (2, .ref 7), (3, .ref 6), (4, .int (zac x vs gs i)), (5, .int (nI i))], [], XH tx n (nI P, nI C, nI R, nI L, hs, ss, cs, gs, vs) dr rd (nI D, sm, nI N, nI K, ce, de, ke, se) i0 i1 kp dd tr m)
      refine zq_b [zq_inc 5 1 (nI (i + 1)), zq_go] [zq_incchk 5 1, zq_gochk] 6 rfl (by decide +kernel) ?_
      refine ⟨nI_add i 1, ?_⟩
      show zq_G _ _ _ _ _ 6 ([(0, .ref 2), (1, .int x), (2, .ref 7), (3, .ref 6), (4, .int (zac x vs gs i)), (5, .int (nI (i + 1)))], [], XH tx n (nI P, nI C, nI R, nI L, hs, ss, cs, gs, vs) dr rd (nI D, sm, nI N, nI K, ce, de, ke, se) i0 i1 kp dd tr m)
      exact zq_eq (by rw [zac_f c24]) (ih6 trivial)
    · show zq_G _ _ _ _ _ 27 ([(0, .ref 2), (1, .int x), (2, .ref 7), (3, .ref 6), (4, .int (zac x vs gs i)), (5, .int (nI i))], [], XH tx n (nI P, nI C, nI R, nI L, hs, ss, cs, gs, vs) dr rd (nI D, sm, nI N, nI K, ce, de, ke, se) i0 i1 kp dd tr m)
      refine zq_b [zq_il 4, zq_k 1, zq_al 3, zq_il 5, zq_iald i (gs i), zq_ishl (1 <<< (gs i &&& 31)), zq_ior ((zac x vs gs i) ||| (1 <<< (gs i &&& 31))), zq_is1 4, zq_inc 5 1 (nI (i + 1)), zq_go] [zq_ilchk 4, zq_kchk 1, zq_alchk 3, zq_ilchk 5, zq_is .iaload 1, zq_is .ishl 1, zq_is .ior 1, zq_is1chk 4, zq_incchk 5 1, zq_gochk] 6 rfl (by decide +kernel) ?_
      refine ⟨rfl, (by omega), (by omega), rfl, rfl, rfl, nI_add i 1, ?_⟩
      show zq_G _ _ _ _ _ 6 ([(0, .ref 2), (1, .int x), (2, .ref 7), (3, .ref 6), (4, .int ((zac x vs gs i) ||| (1 <<< (gs i &&& 31)))), (5, .int (nI (i + 1)))], [], XH tx n (nI P, nI C, nI R, nI L, hs, ss, cs, gs, vs) dr rd (nI D, sm, nI N, nI K, ce, de, ke, se) i0 i1 kp dd tr m)
      exact zq_eq (by rw [zac_t (Decidable.not_not.mp c24)]) (ih6 trivial)
  · show zq_G _ _ _ _ _ 6 ([(0, .ref 2), (1, .int x), (2, .ref 7), (3, .ref 6), (4, .int (zac x vs gs R)), (5, .int (nI R))], [], XH tx n (nI P, nI C, nI R, nI L, hs, ss, cs, gs, vs) dr rd (nI D, sm, nI N, nI K, ce, de, ke, se) i0 i1 kp dd tr m)
    refine zq_b [zq_il 5, zq_al 0, zq_get 9 2] [zq_ilchk 5, zq_alchk 0, zq_getchk 9 2] 12 rfl (by decide +kernel) ?_
    show zq_G _ _ _ _ _ 12 ([(0, .ref 2), (1, .int x), (2, .ref 7), (3, .ref 6), (4, .int (zac x vs gs R)), (5, .int (nI R))], [.int (nI R), .int (nI R)], XH tx n (nI P, nI C, nI R, nI L, hs, ss, cs, gs, vs) dr rd (nI D, sm, nI N, nI K, ce, de, ke, se) i0 i1 kp dd tr m)
    refine zq_if .ge 44 (R ≤ R) (by decide +kernel) (zq_cge (a := R) (b := R) (by omega) (by omega)) (fun c12 => ?_) (fun c12 => absurd (by omega) c12)
    show zq_G _ _ _ _ _ 44 ([(0, .ref 2), (1, .int x), (2, .ref 7), (3, .ref 6), (4, .int (zac x vs gs R)), (5, .int (nI R))], [], XH tx n (nI P, nI C, nI R, nI L, hs, ss, cs, gs, vs) dr rd (nI D, sm, nI N, nI K, ce, de, ke, se) i0 i1 kp dd tr m)
    refine zq_b [zq_il 4] [zq_ilchk 4] 46 rfl (by decide +kernel) ?_
    show zq_G _ _ _ _ _ 46 ([(0, .ref 2), (1, .int x), (2, .ref 7), (3, .ref 6), (4, .int (zac x vs gs R)), (5, .int (nI R))], [.int (zac x vs gs R)], XH tx n (nI P, nI C, nI R, nI L, hs, ss, cs, gs, vs) dr rd (nI D, sm, nI N, nI K, ce, de, ke, se) i0 i1 kp dd tr m)
    exact zq_iret (by decide +kernel) rfl rfl rfl
set_option maxHeartbeats 4000000 in
set_option maxRecDepth 100000 in
theorem c_actsGiving {x : Int32} (hR : R ≤ 6) : zq_P l mX9_actsGiving 2 [.ref 2, .int x] (XH tx n (nI P, nI C, nI R, nI L, hs, ss, cs, gs, vs) dr rd (nI D, sm, nI N, nI K, ce, de, ke, se) i0 i1 kp dd tr m) (some (.int (zac x vs gs R))) (XH tx n (nI P, nI C, nI R, nI L, hs, ss, cs, gs, vs) dr rd (nI D, sm, nI N, nI K, ce, de, ke, se) i0 i1 kp dd tr m) := by
  refine zq_start (by decide +kernel) rfl (Nat.le_of_ble_eq_true rfl) ?_
  show zq_G _ _ _ _ _ 0 ([(0, .ref 2), (1, .int x)], [], XH tx n (nI P, nI C, nI R, nI L, hs, ss, cs, gs, vs) dr rd (nI D, sm, nI N, nI K, ce, de, ke, se) i0 i1 kp dd tr m)
  refine zq_b [zq_al 0, zq_il 1, zq_al 0, zq_get 9 8, zq_al 0, zq_get 9 7] [zq_alchk 0, zq_ilchk 1, zq_alchk 0, zq_getchk 9 8, zq_alchk 0, zq_getchk 9 7] 10 rfl (by decide +kernel) ?_
  show zq_G _ _ _ _ _ 10 ([(0, .ref 2), (1, .int x)], [.ref 6, .ref 7, .int x, .ref 2], XH tx n (nI P, nI C, nI R, nI L, hs, ss, cs, gs, vs) dr rd (nI D, sm, nI N, nI K, ce, de, ke, se) i0 i1 kp dd tr m)
  refine zq_callV (av := [.int x, .ref 7, .ref 6]) (rest := []) (by decide +kernel) k9_46 (c_actsAcross_g (x := x) hR) rfl rfl rfl rfl ?_
  show zq_G _ _ _ _ _ 13 ([(0, .ref 2), (1, .int x)], [.int (zac x vs gs R)], XH tx n (nI P, nI C, nI R, nI L, hs, ss, cs, gs, vs) dr rd (nI D, sm, nI N, nI K, ce, de, ke, se) i0 i1 kp dd tr m)
  exact zq_iret (by decide +kernel) rfl rfl rfl
set_option maxHeartbeats 4000000 in
set_option maxRecDepth 100000 in
theorem c_actsAcross_v {x : Int32} (hR : R ≤ 6) : zq_P l mX9_actsAcross 1 [.ref 2, .int x, .ref 6, .ref 7] (XH tx n (nI P, nI C, nI R, nI L, hs, ss, cs, gs, vs) dr rd (nI D, sm, nI N, nI K, ce, de, ke, se) i0 i1 kp dd tr m) (some (.int (zac x gs vs R))) (XH tx n (nI P, nI C, nI R, nI L, hs, ss, cs, gs, vs) dr rd (nI D, sm, nI N, nI K, ce, de, ke, se) i0 i1 kp dd tr m) := by
  refine zq_start (by decide +kernel) rfl (Nat.le_of_ble_eq_true rfl) ?_
  show zq_G _ _ _ _ _ 0 ([(0, .ref 2), (1, .int x), (2, .ref 6), (3, .ref 7)], [], XH tx n (nI P, nI C, nI R, nI L, hs, ss, cs, gs, vs) dr rd (nI D, sm, nI N, nI K, ce, de, ke, se) i0 i1 kp dd tr m)
  refine zq_b [zq_k 0, zq_is1 4, zq_k 0, zq_is1 5] [zq_kchk 0, zq_is1chk 4, zq_kchk 0, zq_is1chk 5] 6 rfl (by decide +kernel) ?_
  show zq_G _ _ _ _ _ 6 ([(0, .ref 2), (1, .int x), (2, .ref 6), (3, .ref 7), (4, .int 0), (5, .int 0)], [], XH tx n (nI P, nI C, nI R, nI L, hs, ss, cs, gs, vs) dr rd (nI D, sm, nI N, nI K, ce, de, ke, se) i0 i1 kp dd tr m)
  refine zq_loop (fun i => ([(0, .ref 2), (1, .int x), (2, .ref 6), (3, .ref 7), (4, .int (zac x gs vs i)), (5, .int (nI i))], [], XH tx n (nI P, nI C, nI R, nI L, hs, ss, cs, gs, vs) dr rd (nI D, sm, nI N, nI K, ce, de, ke, se) i0 i1 kp dd tr m)) (fun i => True) (R) (0) (by omega) (trivial) (fun i hl6 hi6 hI6 ih6 => ?_) (fun hI6 => ?_)
  · show zq_G _ _ _ _ _ 6 ([(0, .ref 2), (1, .int x), (2, .ref 6), (3, .ref 7), (4, .int (zac x gs vs i)), (5, .int (nI i))], [], XH tx n (nI P, nI C, nI R, nI L, hs, ss, cs, gs, vs) dr rd (nI D, sm, nI N, nI K, ce, de, ke, se) i0 i1 kp dd tr m)
    refine zq_b [zq_il 5, zq_al 0, zq_get 9 2] [zq_ilchk 5, zq_alchk 0, zq_getchk 9 2] 12 rfl (by decide +kernel) ?_
    show zq_G _ _ _ _ _ 12 ([(0, .ref 2), (1, .int x), (2, .ref 6), (3, .ref 7), (4, .int (zac x gs vs i)), (5, .int (nI i))], [.int (nI R), .int (nI i)], XH tx n (nI P, nI C, nI R, nI L, hs, ss, cs, gs, vs) dr rd (nI D, sm, nI N, nI K, ce, de, ke, se) i0 i1 kp dd tr m)
    refine zq_if .ge 44 (R ≤ i) (by decide +kernel) (zq_cge (a := i) (b := R) (by omega) (by omega)) (fun c12 => absurd c12 (by omega)) (fun c12 => ?_)
    show zq_G _ _ _ _ _ 15 ([(0, .ref 2), (1, .int x), (2, .ref 6), (3, .ref 7), (4, .int (zac x gs vs i)), (5, .int (nI i))], [], XH tx n (nI P, nI C, nI R, nI L, hs, ss, cs, gs, vs) dr rd (nI D, sm, nI N, nI K, ce, de, ke, se) i0 i1 kp dd tr m)
    refine zq_b [zq_il 1, zq_al 2, zq_il 5, zq_iald i (gs i)] [zq_ilchk 1, zq_alchk 2, zq_ilchk 5, zq_is .iaload 1] 20 rfl (by decide +kernel) ?_
    refine ⟨rfl, (by omega), (by omega), rfl, ?_⟩
    show zq_G _ _ _ _ _ 20 ([(0, .ref 2), (1, .int x), (2, .ref 6), (3, .ref 7), (4, .int (zac x gs vs i)), (5, .int (nI i))], [.int (gs i), .int x], XH tx n (nI P, nI C, nI R, nI L, hs, ss, cs, gs, vs) dr rd (nI D, sm, nI N, nI K, ce, de, ke, se) i0 i1 kp dd tr m)
    refine zq_callN (av := [.int x, .int (gs i)]) (rest := []) (by decide +kernel) k9_50 (c_bit (x := x) (p := (gs i))) rfl rfl ?_
    show zq_G _ _ _ _ _ 23 ([(0, .ref 2), (1, .int x), (2, .ref 6), (3, .ref 7), (4, .int (zac x gs vs i)), (5, .int (nI i))], [.int (zbit x (gs i))], XH tx n (nI P, nI C, nI R, nI L, hs, ss, cs, gs, vs) dr rd (nI D, sm, nI N, nI K, ce, de, ke, se) i0 i1 kp dd tr m)
    refine zq_b [zq_k 1] [zq_kchk 1] 24 rfl (by decide +kernel) ?_
    show zq_G _ _ _ _ _ 24 ([(0, .ref 2), (1, .int x), (2, .ref 6), (3, .ref 7), (4, .int (zac x gs vs i)), (5, .int (nI i))], [.int 1, .int (zbit x (gs i))], XH tx n (nI P, nI C, nI R, nI L, hs, ss, cs, gs, vs) dr rd (nI D, sm, nI N, nI K, ce, de, ke, se) i0 i1 kp dd tr m)
    refine zq_if .ne 38 (¬ (zbit x (gs i)) = 1) (by decide +kernel) (Iff.rfl) (fun c24 => ?_) (fun c24 => ?_)
    · show zq_G _ _ _ _ _ 38 ([(0, .ref 2), (1, .int x), (2, .ref 6), (3, .ref 7), (4, .int (zac x gs vs i)), (5, .int (nI i))], [], XH tx n (nI P, nI C, nI R, nI L, hs, ss, cs, gs, vs) dr rd (nI D, sm, nI N, nI K, ce, de, ke, se) i0 i1 kp dd tr m)
      refine zq_b [zq_inc 5 1 (nI (i + 1)), zq_go] [zq_incchk 5 1, zq_gochk] 6 rfl (by decide +kernel) ?_
      refine ⟨nI_add i 1, ?_⟩
      show zq_G _ _ _ _ _ 6 ([(0, .ref 2), (1, .int x), (2, .ref 6), (3, .ref 7), (4, .int (zac x gs vs i)), (5, .int (nI (i + 1)))], [], XH tx n (nI P, nI C, nI R, nI L, hs, ss, cs, gs, vs) dr rd (nI D, sm, nI N, nI K, ce, de, ke, se) i0 i1 kp dd tr m)
      exact zq_eq (by rw [zac_f c24]) (ih6 trivial)
    · show zq_G _ _ _ _ _ 27 ([(0, .ref 2), (1, .int x), (2, .ref 6), (3, .ref 7), (4, .int (zac x gs vs i)), (5, .int (nI i))], [], XH tx n (nI P, nI C, nI R, nI L, hs, ss, cs, gs, vs) dr rd (nI D, sm, nI N, nI K, ce, de, ke, se) i0 i1 kp dd tr m)
      refine zq_b [zq_il 4, zq_k 1, zq_al 3, zq_il 5, zq_iald i (vs i), zq_ishl (1 <<< (vs i &&& 31)), zq_ior ((zac x gs vs i) ||| (1 <<< (vs i &&& 31))), zq_is1 4, zq_inc 5 1 (nI (i + 1)), zq_go] [zq_ilchk 4, zq_kchk 1, zq_alchk 3, zq_ilchk 5, zq_is .iaload 1, zq_is .ishl 1, zq_is .ior 1, zq_is1chk 4, zq_incchk 5 1, zq_gochk] 6 rfl (by decide +kernel) ?_
      refine ⟨rfl, (by omega), (by omega), rfl, rfl, rfl, nI_add i 1, ?_⟩
      show zq_G _ _ _ _ _ 6 ([(0, .ref 2), (1, .int x), (2, .ref 6), (3, .ref 7), (4, .int ((zac x gs vs i) ||| (1 <<< (vs i &&& 31)))), (5, .int (nI (i + 1)))], [], XH tx n (nI P, nI C, nI R, nI L, hs, ss, cs, gs, vs) dr rd (nI D, sm, nI N, nI K, ce, de, ke, se) i0 i1 kp dd tr m)
      exact zq_eq (by rw [zac_t (Decidable.not_not.mp c24)]) (ih6 trivial)
  · show zq_G _ _ _ _ _ 6 ([(0, .ref 2), (1, .int x), (2, .ref 6), (3, .ref 7), (4, .int (zac x gs vs R)), (5, .int (nI R))], [], XH tx n (nI P, nI C, nI R, nI L, hs, ss, cs, gs, vs) dr rd (nI D, sm, nI N, nI K, ce, de, ke, se) i0 i1 kp dd tr m)
    refine zq_b [zq_il 5, zq_al 0, zq_get 9 2] [zq_ilchk 5, zq_alchk 0, zq_getchk 9 2] 12 rfl (by decide +kernel) ?_
    show zq_G _ _ _ _ _ 12 ([(0, .ref 2), (1, .int x), (2, .ref 6), (3, .ref 7), (4, .int (zac x gs vs R)), (5, .int (nI R))], [.int (nI R), .int (nI R)], XH tx n (nI P, nI C, nI R, nI L, hs, ss, cs, gs, vs) dr rd (nI D, sm, nI N, nI K, ce, de, ke, se) i0 i1 kp dd tr m)
    refine zq_if .ge 44 (R ≤ R) (by decide +kernel) (zq_cge (a := R) (b := R) (by omega) (by omega)) (fun c12 => ?_) (fun c12 => absurd (by omega) c12)
    show zq_G _ _ _ _ _ 44 ([(0, .ref 2), (1, .int x), (2, .ref 6), (3, .ref 7), (4, .int (zac x gs vs R)), (5, .int (nI R))], [], XH tx n (nI P, nI C, nI R, nI L, hs, ss, cs, gs, vs) dr rd (nI D, sm, nI N, nI K, ce, de, ke, se) i0 i1 kp dd tr m)
    refine zq_b [zq_il 4] [zq_ilchk 4] 46 rfl (by decide +kernel) ?_
    show zq_G _ _ _ _ _ 46 ([(0, .ref 2), (1, .int x), (2, .ref 6), (3, .ref 7), (4, .int (zac x gs vs R)), (5, .int (nI R))], [.int (zac x gs vs R)], XH tx n (nI P, nI C, nI R, nI L, hs, ss, cs, gs, vs) dr rd (nI D, sm, nI N, nI K, ce, de, ke, se) i0 i1 kp dd tr m)
    exact zq_iret (by decide +kernel) rfl rfl rfl
set_option maxHeartbeats 4000000 in
set_option maxRecDepth 100000 in
theorem c_actsGivenBy {x : Int32} (hR : R ≤ 6) : zq_P l mX9_actsGivenBy 2 [.ref 2, .int x] (XH tx n (nI P, nI C, nI R, nI L, hs, ss, cs, gs, vs) dr rd (nI D, sm, nI N, nI K, ce, de, ke, se) i0 i1 kp dd tr m) (some (.int (zac x gs vs R))) (XH tx n (nI P, nI C, nI R, nI L, hs, ss, cs, gs, vs) dr rd (nI D, sm, nI N, nI K, ce, de, ke, se) i0 i1 kp dd tr m) := by
  refine zq_start (by decide +kernel) rfl (Nat.le_of_ble_eq_true rfl) ?_
  show zq_G _ _ _ _ _ 0 ([(0, .ref 2), (1, .int x)], [], XH tx n (nI P, nI C, nI R, nI L, hs, ss, cs, gs, vs) dr rd (nI D, sm, nI N, nI K, ce, de, ke, se) i0 i1 kp dd tr m)
  refine zq_b [zq_al 0, zq_il 1, zq_al 0, zq_get 9 7, zq_al 0, zq_get 9 8] [zq_alchk 0, zq_ilchk 1, zq_alchk 0, zq_getchk 9 7, zq_alchk 0, zq_getchk 9 8] 10 rfl (by decide +kernel) ?_
  show zq_G _ _ _ _ _ 10 ([(0, .ref 2), (1, .int x)], [.ref 7, .ref 6, .int x, .ref 2], XH tx n (nI P, nI C, nI R, nI L, hs, ss, cs, gs, vs) dr rd (nI D, sm, nI N, nI K, ce, de, ke, se) i0 i1 kp dd tr m)
  refine zq_callV (av := [.int x, .ref 6, .ref 7]) (rest := []) (by decide +kernel) k9_46 (c_actsAcross_v (x := x) hR) rfl rfl rfl rfl ?_
  show zq_G _ _ _ _ _ 13 ([(0, .ref 2), (1, .int x)], [.int (zac x gs vs R)], XH tx n (nI P, nI C, nI R, nI L, hs, ss, cs, gs, vs) dr rd (nI D, sm, nI N, nI K, ce, de, ke, se) i0 i1 kp dd tr m)
  exact zq_iret (by decide +kernel) rfl rfl rfl
set_option maxHeartbeats 4000000 in
set_option maxRecDepth 100000 in
theorem c_lastDoer {x : Int32} {y : Int32} {z : Int32} (hN : N ≤ 12) : zq_P l mX1_lastDoer 1 [.ref 32, .int x, .int y, .int z] (XH tx n (nI P, nI C, nI R, nI L, hs, ss, cs, gs, vs) dr rd (nI D, sm, nI N, nI K, ce, de, ke, se) i0 i1 kp dd tr m) (some (.int (zown de N x y z))) (XH tx n (nI P, nI C, nI R, nI L, hs, ss, cs, gs, vs) dr rd (nI D, sm, nI N, nI K, ce, de, ke, se) i0 i1 kp dd tr m) := by
  refine zq_start (by decide +kernel) rfl (Nat.le_of_ble_eq_true rfl) ?_
  show zq_G _ _ _ _ _ 0 ([(0, .ref 32), (1, .int x), (2, .int y), (3, .int z)], [], XH tx n (nI P, nI C, nI R, nI L, hs, ss, cs, gs, vs) dr rd (nI D, sm, nI N, nI K, ce, de, ke, se) i0 i1 kp dd tr m)
  refine zq_b [zq_al 0, zq_get 1 1, zq_get 5 3, zq_k 1, zq_isub (zi ((N : Int) - 1 - ((0 : Nat) : Int))), zq_is1 4] [zq_alchk 0, zq_getchk 1 1, zq_getchk 5 3, zq_kchk 1, zq_is .isub 1, zq_is1chk 4] 11 rfl (by decide +kernel) ?_
  refine ⟨((zi_sub N 1).trans (congrArg zi (by omega))), ?_⟩
  show zq_G _ _ _ _ _ 11 ([(0, .ref 32), (1, .int x), (2, .int y), (3, .int z), (4, .int (zi ((N : Int) - 1 - ((0 : Nat) : Int))))], [], XH tx n (nI P, nI C, nI R, nI L, hs, ss, cs, gs, vs) dr rd (nI D, sm, nI N, nI K, ce, de, ke, se) i0 i1 kp dd tr m)
  refine zq_loop (fun i => ([(0, .ref 32), (1, .int x), (2, .int y), (3, .int z), (4, .int (zi ((N : Int) - 1 - ((i : Nat) : Int))))], [], XH tx n (nI P, nI C, nI R, nI L, hs, ss, cs, gs, vs) dr rd (nI D, sm, nI N, nI K, ce, de, ke, se) i0 i1 kp dd tr m)) (fun i => ∀ j, N ≤ j + i → j < N → ownF de x y z j = false) (N) (0) (by omega) ((fun j h1 h2 => absurd h1 (by omega))) (fun i hl11 hi11 hI11 ih11 => ?_) (fun hI11 => ?_)
  · show zq_G _ _ _ _ _ 11 ([(0, .ref 32), (1, .int x), (2, .int y), (3, .int z), (4, .int (zi ((N : Int) - 1 - ((i : Nat) : Int))))], [], XH tx n (nI P, nI C, nI R, nI L, hs, ss, cs, gs, vs) dr rd (nI D, sm, nI N, nI K, ce, de, ke, se) i0 i1 kp dd tr m)
    refine zq_b [zq_il 4] [zq_ilchk 4] 13 rfl (by decide +kernel) ?_
    show zq_G _ _ _ _ _ 13 ([(0, .ref 32), (1, .int x), (2, .int y), (3, .int z), (4, .int (zi ((N : Int) - 1 - ((i : Nat) : Int))))], [.int (zi ((N : Int) - 1 - ((i : Nat) : Int)))], XH tx n (nI P, nI C, nI R, nI L, hs, ss, cs, gs, vs) dr rd (nI D, sm, nI N, nI K, ce, de, ke, se) i0 i1 kp dd tr m)
    refine zq_ifz .lt 89 (((N : Int) - 1 - ((i : Nat) : Int)) < 0) (by decide +kernel) (zi_lt0 (by omega) (by omega)) (fun c13 => absurd c13 (by omega)) (fun c13 => ?_)
    show zq_G _ _ _ _ _ 16 ([(0, .ref 32), (1, .int x), (2, .int y), (3, .int z), (4, .int (zi ((N : Int) - 1 - ((i : Nat) : Int))))], [], XH tx n (nI P, nI C, nI R, nI L, hs, ss, cs, gs, vs) dr rd (nI D, sm, nI N, nI K, ce, de, ke, se) i0 i1 kp dd tr m)
    refine zq_eq (σ2 := ([(0, .ref 32), (1, .int x), (2, .int y), (3, .int z), (4, .int (nI (N - 1 - i)))], [], XH tx n (nI P, nI C, nI R, nI L, hs, ss, cs, gs, vs) dr rd (nI D, sm, nI N, nI K, ce, de, ke, se) i0 i1 kp dd tr m)) (by rw [zi_nat (n := N - 1 - i) (by omega)]) ?_
    refine zq_b [zq_al 0, zq_get 1 1, zq_il 4, zq_k 4] [zq_alchk 0, zq_getchk 1 1, zq_ilchk 4, zq_kchk 4] 23 rfl (by decide +kernel) ?_
    show zq_G _ _ _ _ _ 23 ([(0, .ref 32), (1, .int x), (2, .int y), (3, .int z), (4, .int (nI (N - 1 - i)))], [.int 4, .int (nI (N - 1 - i)), .ref 15], XH tx n (nI P, nI C, nI R, nI L, hs, ss, cs, gs, vs) dr rd (nI D, sm, nI N, nI K, ce, de, ke, se) i0 i1 kp dd tr m)
    refine zq_callV (av := [.int (nI (N - 1 - i)), .int 4]) (rest := []) (by decide +kernel) k1_42 (c_ofDeed (i := (N - 1 - i)) (k := 4) (by omega) (by omega)) rfl rfl rfl rfl ?_
    show zq_G _ _ _ _ _ 26 ([(0, .ref 32), (1, .int x), (2, .int y), (3, .int z), (4, .int (nI (N - 1 - i)))], [.int (de ((N - 1 - i) * 5 + 4))], XH tx n (nI P, nI C, nI R, nI L, hs, ss, cs, gs, vs) dr rd (nI D, sm, nI N, nI K, ce, de, ke, se) i0 i1 kp dd tr m)
    refine zq_b [zq_k 1] [zq_kchk 1] 27 rfl (by decide +kernel) ?_
    show zq_G _ _ _ _ _ 27 ([(0, .ref 32), (1, .int x), (2, .int y), (3, .int z), (4, .int (nI (N - 1 - i)))], [.int 1, .int (de ((N - 1 - i) * 5 + 4))], XH tx n (nI P, nI C, nI R, nI L, hs, ss, cs, gs, vs) dr rd (nI D, sm, nI N, nI K, ce, de, ke, se) i0 i1 kp dd tr m)
    refine zq_if .ne 50 (¬ (de ((N - 1 - i) * 5 + 4)) = 1) (by decide +kernel) (Iff.rfl) (fun c27 => ?_) (fun c27 => ?_)
    · show zq_G _ _ _ _ _ 50 ([(0, .ref 32), (1, .int x), (2, .int y), (3, .int z), (4, .int (nI (N - 1 - i)))], [], XH tx n (nI P, nI C, nI R, nI L, hs, ss, cs, gs, vs) dr rd (nI D, sm, nI N, nI K, ce, de, ke, se) i0 i1 kp dd tr m)
      refine zq_b [zq_k 0, zq_is1 5, zq_il 5] [zq_kchk 0, zq_is1chk 5, zq_ilchk 5] 55 rfl (by decide +kernel) ?_
      show zq_G _ _ _ _ _ 55 ([(0, .ref 32), (1, .int x), (2, .int y), (3, .int z), (4, .int (nI (N - 1 - i))), (5, .int 0)], [.int 0], XH tx n (nI P, nI C, nI R, nI L, hs, ss, cs, gs, vs) dr rd (nI D, sm, nI N, nI K, ce, de, ke, se) i0 i1 kp dd tr m)
      refine zq_ifz .eq 83 (0 = 0) (by decide +kernel) (zq_ceq (a := 0) (b := 0) (by omega) (by omega)) (fun c55 => ?_) (fun c55 => absurd rfl c55)
      show zq_G _ _ _ _ _ 83 ([(0, .ref 32), (1, .int x), (2, .int y), (3, .int z), (4, .int (nI (N - 1 - i))), (5, .int 0)], [], XH tx n (nI P, nI C, nI R, nI L, hs, ss, cs, gs, vs) dr rd (nI D, sm, nI N, nI K, ce, de, ke, se) i0 i1 kp dd tr m)
      refine zq_b [zq_inc 4 (-1) (zi ((N : Int) - 1 - ((i + 1 : Nat) : Int))), zq_go] [zq_incchk 4 (-1), zq_gochk] 11 rfl (by decide +kernel) ?_
      refine ⟨(zi_dn2 hi11), ?_⟩
      show zq_G _ _ _ _ _ 11 ([(0, .ref 32), (1, .int x), (2, .int y), (3, .int z), (4, .int (zi ((N : Int) - 1 - ((i + 1 : Nat) : Int)))), (5, .int 0)], [], XH tx n (nI P, nI C, nI R, nI L, hs, ss, cs, gs, vs) dr rd (nI D, sm, nI N, nI K, ce, de, ke, se) i0 i1 kp dd tr m)
      refine zq_pick [0, 1, 2, 3, 4] rfl ?_
      show zq_G _ _ _ _ _ 11 ([(0, .ref 32), (1, .int x), (2, .int y), (3, .int z), (4, .int (zi ((N : Int) - 1 - ((i + 1 : Nat) : Int))))], [], XH tx n (nI P, nI C, nI R, nI L, hs, ss, cs, gs, vs) dr rd (nI D, sm, nI N, nI K, ce, de, ke, se) i0 i1 kp dd tr m)
      exact ih11 (fun j h1 h2 => (Nat.lt_or_ge (N - 1 - i) j).elim (fun q => hI11 j (by omega) h2) (fun q => by rw [show j = N - 1 - i by omega]; unfold ownF; rw [decide_eq_false c27]; simp))
    · show zq_G _ _ _ _ _ 30 ([(0, .ref 32), (1, .int x), (2, .int y), (3, .int z), (4, .int (nI (N - 1 - i)))], [], XH tx n (nI P, nI C, nI R, nI L, hs, ss, cs, gs, vs) dr rd (nI D, sm, nI N, nI K, ce, de, ke, se) i0 i1 kp dd tr m)
      refine zq_b [zq_al 0, zq_get 1 1, zq_il 4, zq_k 2] [zq_alchk 0, zq_getchk 1 1, zq_ilchk 4, zq_kchk 2] 37 rfl (by decide +kernel) ?_
      show zq_G _ _ _ _ _ 37 ([(0, .ref 32), (1, .int x), (2, .int y), (3, .int z), (4, .int (nI (N - 1 - i)))], [.int 2, .int (nI (N - 1 - i)), .ref 15], XH tx n (nI P, nI C, nI R, nI L, hs, ss, cs, gs, vs) dr rd (nI D, sm, nI N, nI K, ce, de, ke, se) i0 i1 kp dd tr m)
      refine zq_callV (av := [.int (nI (N - 1 - i)), .int 2]) (rest := []) (by decide +kernel) k1_42 (c_ofDeed (i := (N - 1 - i)) (k := 2) (by omega) (by omega)) rfl rfl rfl rfl ?_
      show zq_G _ _ _ _ _ 40 ([(0, .ref 32), (1, .int x), (2, .int y), (3, .int z), (4, .int (nI (N - 1 - i)))], [.int (de ((N - 1 - i) * 5 + 2))], XH tx n (nI P, nI C, nI R, nI L, hs, ss, cs, gs, vs) dr rd (nI D, sm, nI N, nI K, ce, de, ke, se) i0 i1 kp dd tr m)
      refine zq_b [zq_il 3, zq_iadd ((de ((N - 1 - i) * 5 + 2)) + z), zq_il 2] [zq_ilchk 3, zq_is .iadd 1, zq_ilchk 2] 43 rfl (by decide +kernel) ?_
      refine ⟨rfl, ?_⟩
      show zq_G _ _ _ _ _ 43 ([(0, .ref 32), (1, .int x), (2, .int y), (3, .int z), (4, .int (nI (N - 1 - i)))], [.int y, .int ((de ((N - 1 - i) * 5 + 2)) + z)], XH tx n (nI P, nI C, nI R, nI L, hs, ss, cs, gs, vs) dr rd (nI D, sm, nI N, nI K, ce, de, ke, se) i0 i1 kp dd tr m)
      refine zq_if .gt 50 (y < ((de ((N - 1 - i) * 5 + 2)) + z)) (by decide +kernel) (Iff.rfl) (fun c43 => ?_) (fun c43 => ?_)
      · show zq_G _ _ _ _ _ 50 ([(0, .ref 32), (1, .int x), (2, .int y), (3, .int z), (4, .int (nI (N - 1 - i)))], [], XH tx n (nI P, nI C, nI R, nI L, hs, ss, cs, gs, vs) dr rd (nI D, sm, nI N, nI K, ce, de, ke, se) i0 i1 kp dd tr m)
        refine zq_b [zq_k 0, zq_is1 5, zq_il 5] [zq_kchk 0, zq_is1chk 5, zq_ilchk 5] 55 rfl (by decide +kernel) ?_
        show zq_G _ _ _ _ _ 55 ([(0, .ref 32), (1, .int x), (2, .int y), (3, .int z), (4, .int (nI (N - 1 - i))), (5, .int 0)], [.int 0], XH tx n (nI P, nI C, nI R, nI L, hs, ss, cs, gs, vs) dr rd (nI D, sm, nI N, nI K, ce, de, ke, se) i0 i1 kp dd tr m)
        refine zq_ifz .eq 83 (0 = 0) (by decide +kernel) (zq_ceq (a := 0) (b := 0) (by omega) (by omega)) (fun c55 => ?_) (fun c55 => absurd rfl c55)
        show zq_G _ _ _ _ _ 83 ([(0, .ref 32), (1, .int x), (2, .int y), (3, .int z), (4, .int (nI (N - 1 - i))), (5, .int 0)], [], XH tx n (nI P, nI C, nI R, nI L, hs, ss, cs, gs, vs) dr rd (nI D, sm, nI N, nI K, ce, de, ke, se) i0 i1 kp dd tr m)
        refine zq_b [zq_inc 4 (-1) (zi ((N : Int) - 1 - ((i + 1 : Nat) : Int))), zq_go] [zq_incchk 4 (-1), zq_gochk] 11 rfl (by decide +kernel) ?_
        refine ⟨(zi_dn2 hi11), ?_⟩
        show zq_G _ _ _ _ _ 11 ([(0, .ref 32), (1, .int x), (2, .int y), (3, .int z), (4, .int (zi ((N : Int) - 1 - ((i + 1 : Nat) : Int)))), (5, .int 0)], [], XH tx n (nI P, nI C, nI R, nI L, hs, ss, cs, gs, vs) dr rd (nI D, sm, nI N, nI K, ce, de, ke, se) i0 i1 kp dd tr m)
        refine zq_pick [0, 1, 2, 3, 4] rfl ?_
        show zq_G _ _ _ _ _ 11 ([(0, .ref 32), (1, .int x), (2, .int y), (3, .int z), (4, .int (zi ((N : Int) - 1 - ((i + 1 : Nat) : Int))))], [], XH tx n (nI P, nI C, nI R, nI L, hs, ss, cs, gs, vs) dr rd (nI D, sm, nI N, nI K, ce, de, ke, se) i0 i1 kp dd tr m)
        exact ih11 (fun j h1 h2 => (Nat.lt_or_ge (N - 1 - i) j).elim (fun q => hI11 j (by omega) h2) (fun q => by rw [show j = N - 1 - i by omega]; unfold ownF; rw [decide_eq_false (Int32.not_le.mpr c43)]; simp))
      · show zq_G _ _ _ _ _ 46 ([(0, .ref 32), (1, .int x), (2, .int y), (3, .int z), (4, .int (nI (N - 1 - i)))], [], XH tx n (nI P, nI C, nI R, nI L, hs, ss, cs, gs, vs) dr rd (nI D, sm, nI N, nI K, ce, de, ke, se) i0 i1 kp dd tr m)
        refine zq_b [zq_k 1, zq_go, zq_is1 5, zq_il 5] [zq_kchk 1, zq_gochk, zq_is1chk 5, zq_ilchk 5] 55 rfl (by decide +kernel) ?_
        show zq_G _ _ _ _ _ 55 ([(0, .ref 32), (1, .int x), (2, .int y), (3, .int z), (4, .int (nI (N - 1 - i))), (5, .int 1)], [.int 1], XH tx n (nI P, nI C, nI R, nI L, hs, ss, cs, gs, vs) dr rd (nI D, sm, nI N, nI K, ce, de, ke, se) i0 i1 kp dd tr m)
        refine zq_ifz .eq 83 (1 = 0) (by decide +kernel) (zq_ceq (a := 1) (b := 0) (by omega) (by omega)) (fun c55 => absurd c55 (by decide)) (fun c55 => ?_)
        show zq_G _ _ _ _ _ 58 ([(0, .ref 32), (1, .int x), (2, .int y), (3, .int z), (4, .int (nI (N - 1 - i))), (5, .int 1)], [], XH tx n (nI P, nI C, nI R, nI L, hs, ss, cs, gs, vs) dr rd (nI D, sm, nI N, nI K, ce, de, ke, se) i0 i1 kp dd tr m)
        refine zq_b [zq_al 0, zq_get 1 1, zq_il 4, zq_k 1] [zq_alchk 0, zq_getchk 1 1, zq_ilchk 4, zq_kchk 1] 65 rfl (by decide +kernel) ?_
        show zq_G _ _ _ _ _ 65 ([(0, .ref 32), (1, .int x), (2, .int y), (3, .int z), (4, .int (nI (N - 1 - i))), (5, .int 1)], [.int 1, .int (nI (N - 1 - i)), .ref 15], XH tx n (nI P, nI C, nI R, nI L, hs, ss, cs, gs, vs) dr rd (nI D, sm, nI N, nI K, ce, de, ke, se) i0 i1 kp dd tr m)
        refine zq_callV (av := [.int (nI (N - 1 - i)), .int 1]) (rest := []) (by decide +kernel) k1_42 (c_ofDeed (i := (N - 1 - i)) (k := 1) (by omega) (by omega)) rfl rfl rfl rfl ?_
        show zq_G _ _ _ _ _ 68 ([(0, .ref 32), (1, .int x), (2, .int y), (3, .int z), (4, .int (nI (N - 1 - i))), (5, .int 1)], [.int (de ((N - 1 - i) * 5 + 1))], XH tx n (nI P, nI C, nI R, nI L, hs, ss, cs, gs, vs) dr rd (nI D, sm, nI N, nI K, ce, de, ke, se) i0 i1 kp dd tr m)
        refine zq_b [zq_il 1] [zq_ilchk 1] 69 rfl (by decide +kernel) ?_
        show zq_G _ _ _ _ _ 69 ([(0, .ref 32), (1, .int x), (2, .int y), (3, .int z), (4, .int (nI (N - 1 - i))), (5, .int 1)], [.int x, .int (de ((N - 1 - i) * 5 + 1))], XH tx n (nI P, nI C, nI R, nI L, hs, ss, cs, gs, vs) dr rd (nI D, sm, nI N, nI K, ce, de, ke, se) i0 i1 kp dd tr m)
        refine zq_if .ne 83 (¬ (de ((N - 1 - i) * 5 + 1)) = x) (by decide +kernel) (Iff.rfl) (fun c69 => ?_) (fun c69 => ?_)
        · show zq_G _ _ _ _ _ 83 ([(0, .ref 32), (1, .int x), (2, .int y), (3, .int z), (4, .int (nI (N - 1 - i))), (5, .int 1)], [], XH tx n (nI P, nI C, nI R, nI L, hs, ss, cs, gs, vs) dr rd (nI D, sm, nI N, nI K, ce, de, ke, se) i0 i1 kp dd tr m)
          refine zq_b [zq_inc 4 (-1) (zi ((N : Int) - 1 - ((i + 1 : Nat) : Int))), zq_go] [zq_incchk 4 (-1), zq_gochk] 11 rfl (by decide +kernel) ?_
          refine ⟨(zi_dn2 hi11), ?_⟩
          show zq_G _ _ _ _ _ 11 ([(0, .ref 32), (1, .int x), (2, .int y), (3, .int z), (4, .int (zi ((N : Int) - 1 - ((i + 1 : Nat) : Int)))), (5, .int 1)], [], XH tx n (nI P, nI C, nI R, nI L, hs, ss, cs, gs, vs) dr rd (nI D, sm, nI N, nI K, ce, de, ke, se) i0 i1 kp dd tr m)
          refine zq_pick [0, 1, 2, 3, 4] rfl ?_
          show zq_G _ _ _ _ _ 11 ([(0, .ref 32), (1, .int x), (2, .int y), (3, .int z), (4, .int (zi ((N : Int) - 1 - ((i + 1 : Nat) : Int))))], [], XH tx n (nI P, nI C, nI R, nI L, hs, ss, cs, gs, vs) dr rd (nI D, sm, nI N, nI K, ce, de, ke, se) i0 i1 kp dd tr m)
          exact ih11 (fun j h1 h2 => (Nat.lt_or_ge (N - 1 - i) j).elim (fun q => hI11 j (by omega) h2) (fun q => by rw [show j = N - 1 - i by omega]; unfold ownF; rw [decide_eq_false c69, Bool.and_false]))
        · show zq_G _ _ _ _ _ 72 ([(0, .ref 32), (1, .int x), (2, .int y), (3, .int z), (4, .int (nI (N - 1 - i))), (5, .int 1)], [], XH tx n (nI P, nI C, nI R, nI L, hs, ss, cs, gs, vs) dr rd (nI D, sm, nI N, nI K, ce, de, ke, se) i0 i1 kp dd tr m)
          refine zq_b [zq_al 0, zq_get 1 1, zq_il 4, zq_k 0] [zq_alchk 0, zq_getchk 1 1, zq_ilchk 4, zq_kchk 0] 79 rfl (by decide +kernel) ?_
          show zq_G _ _ _ _ _ 79 ([(0, .ref 32), (1, .int x), (2, .int y), (3, .int z), (4, .int (nI (N - 1 - i))), (5, .int 1)], [.int 0, .int (nI (N - 1 - i)), .ref 15], XH tx n (nI P, nI C, nI R, nI L, hs, ss, cs, gs, vs) dr rd (nI D, sm, nI N, nI K, ce, de, ke, se) i0 i1 kp dd tr m)
          refine zq_callV (av := [.int (nI (N - 1 - i)), .int 0]) (rest := []) (by decide +kernel) k1_42 (c_ofDeed (i := (N - 1 - i)) (k := 0) (by omega) (by omega)) rfl rfl rfl rfl ?_
          show zq_G _ _ _ _ _ 82 ([(0, .ref 32), (1, .int x), (2, .int y), (3, .int z), (4, .int (nI (N - 1 - i))), (5, .int 1)], [.int (de ((N - 1 - i) * 5 + 0))], XH tx n (nI P, nI C, nI R, nI L, hs, ss, cs, gs, vs) dr rd (nI D, sm, nI N, nI K, ce, de, ke, se) i0 i1 kp dd tr m)
          exact zq_iret (by decide +kernel) rfl (by unfold zown; rw [zls_at (i := N - 1 - i) (by omega) (by unfold ownF; rw [decide_eq_true (Decidable.not_not.mp c27), decide_eq_true (Int32.not_lt.mp c43), decide_eq_true (Decidable.not_not.mp c69)]; rfl) (fun j h1 h2 => hI11 j (by omega) h2)]) rfl
  · show zq_G _ _ _ _ _ 11 ([(0, .ref 32), (1, .int x), (2, .int y), (3, .int z), (4, .int (zi ((N : Int) - 1 - ((N : Nat) : Int))))], [], XH tx n (nI P, nI C, nI R, nI L, hs, ss, cs, gs, vs) dr rd (nI D, sm, nI N, nI K, ce, de, ke, se) i0 i1 kp dd tr m)
    refine zq_b [zq_il 4] [zq_ilchk 4] 13 rfl (by decide +kernel) ?_
    show zq_G _ _ _ _ _ 13 ([(0, .ref 32), (1, .int x), (2, .int y), (3, .int z), (4, .int (zi ((N : Int) - 1 - ((N : Nat) : Int))))], [.int (zi ((N : Int) - 1 - ((N : Nat) : Int)))], XH tx n (nI P, nI C, nI R, nI L, hs, ss, cs, gs, vs) dr rd (nI D, sm, nI N, nI K, ce, de, ke, se) i0 i1 kp dd tr m)
    refine zq_ifz .lt 89 (((N : Int) - 1 - ((N : Nat) : Int)) < 0) (by decide +kernel) (zi_lt0 (by omega) (by omega)) (fun c13 => ?_) (fun c13 => absurd (by omega) c13)
    show zq_G _ _ _ _ _ 89 ([(0, .ref 32), (1, .int x), (2, .int y), (3, .int z), (4, .int (zi ((N : Int) - 1 - ((N : Nat) : Int))))], [], XH tx n (nI P, nI C, nI R, nI L, hs, ss, cs, gs, vs) dr rd (nI D, sm, nI N, nI K, ce, de, ke, se) i0 i1 kp dd tr m)
    refine zq_b [zq_k (-9)] [zq_kchk (-9)] 91 rfl (by decide +kernel) ?_
    show zq_G _ _ _ _ _ 91 ([(0, .ref 32), (1, .int x), (2, .int y), (3, .int z), (4, .int (zi ((N : Int) - 1 - ((N : Nat) : Int))))], [.int (-9)], XH tx n (nI P, nI C, nI R, nI L, hs, ss, cs, gs, vs) dr rd (nI D, sm, nI N, nI K, ce, de, ke, se) i0 i1 kp dd tr m)
    exact zq_iret (by decide +kernel) rfl (by unfold zown; rw [zls_no (fun j hj => hI11 j (by omega) hj)]) rfl
set_option maxHeartbeats 4000000 in
set_option maxRecDepth 100000 in
theorem c_leastActsDoer {x : Int32} {y : Int32} {z : Int32} (hN : N ≤ 12) : zq_P l mX1_leastActsDoer 2 [.ref 32, .int x, .int y, .int z] (XH tx n (nI P, nI C, nI R, nI L, hs, ss, cs, gs, vs) dr rd (nI D, sm, nI N, nI K, ce, de, ke, se) i0 i1 kp dd tr m) (some (.int (zlad (fun a => zown de N (nI a) y z) x))) (XH tx n (nI P, nI C, nI R, nI L, hs, ss, cs, gs, vs) dr rd (nI D, sm, nI N, nI K, ce, de, ke, se) i0 i1 kp dd tr m) := by
  refine zq_start (by decide +kernel) rfl (Nat.le_of_ble_eq_true rfl) ?_
  show zq_G _ _ _ _ _ 0 ([(0, .ref 32), (1, .int x), (2, .int y), (3, .int z)], [], XH tx n (nI P, nI C, nI R, nI L, hs, ss, cs, gs, vs) dr rd (nI D, sm, nI N, nI K, ce, de, ke, se) i0 i1 kp dd tr m)
  refine zq_b [zq_k 0, zq_is1 4] [zq_kchk 0, zq_is1chk 4] 3 rfl (by decide +kernel) ?_
  show zq_G _ _ _ _ _ 3 ([(0, .ref 32), (1, .int x), (2, .int y), (3, .int z), (4, .int 0)], [], XH tx n (nI P, nI C, nI R, nI L, hs, ss, cs, gs, vs) dr rd (nI D, sm, nI N, nI K, ce, de, ke, se) i0 i1 kp dd tr m)
  refine zq_loop (fun i => ([(0, .ref 32), (1, .int x), (2, .int y), (3, .int z), (4, .int (nI i))], [], XH tx n (nI P, nI C, nI R, nI L, hs, ss, cs, gs, vs) dr rd (nI D, sm, nI N, nI K, ce, de, ke, se) i0 i1 kp dd tr m)) (fun i => ∀ j, j < i → (decide (zbit x (nI j) = 1) && decide (¬ zown de N (nI j) y z = -9)) = false) (8) (0) (by omega) ((fun j hj => absurd hj (by omega))) (fun i hl3 hi3 hI3 ih3 => ?_) (fun hI3 => ?_)
  · show zq_G _ _ _ _ _ 3 ([(0, .ref 32), (1, .int x), (2, .int y), (3, .int z), (4, .int (nI i))], [], XH tx n (nI P, nI C, nI R, nI L, hs, ss, cs, gs, vs) dr rd (nI D, sm, nI N, nI K, ce, de, ke, se) i0 i1 kp dd tr m)
    refine zq_b [zq_il 4, zq_k 8] [zq_ilchk 4, zq_kchk 8] 7 rfl (by decide +kernel) ?_
    show zq_G _ _ _ _ _ 7 ([(0, .ref 32), (1, .int x), (2, .int y), (3, .int z), (4, .int (nI i))], [.int 8, .int (nI i)], XH tx n (nI P, nI C, nI R, nI L, hs, ss, cs, gs, vs) dr rd (nI D, sm, nI N, nI K, ce, de, ke, se) i0 i1 kp dd tr m)
    refine zq_if .ge 51 (8 ≤ i) (by decide +kernel) (zq_cge (a := i) (b := 8) (by omega) (by omega)) (fun c7 => absurd c7 (by omega)) (fun c7 => ?_)
    show zq_G _ _ _ _ _ 10 ([(0, .ref 32), (1, .int x), (2, .int y), (3, .int z), (4, .int (nI i))], [], XH tx n (nI P, nI C, nI R, nI L, hs, ss, cs, gs, vs) dr rd (nI D, sm, nI N, nI K, ce, de, ke, se) i0 i1 kp dd tr m)
    refine zq_b [zq_il 1, zq_il 4] [zq_ilchk 1, zq_ilchk 4] 13 rfl (by decide +kernel) ?_
    show zq_G _ _ _ _ _ 13 ([(0, .ref 32), (1, .int x), (2, .int y), (3, .int z), (4, .int (nI i))], [.int (nI i), .int x], XH tx n (nI P, nI C, nI R, nI L, hs, ss, cs, gs, vs) dr rd (nI D, sm, nI N, nI K, ce, de, ke, se) i0 i1 kp dd tr m)
    refine zq_callN (av := [.int x, .int (nI i)]) (rest := []) (by decide +kernel) k1_29 (c_bit (x := x) (p := (nI i))) rfl rfl ?_
    show zq_G _ _ _ _ _ 16 ([(0, .ref 32), (1, .int x), (2, .int y), (3, .int z), (4, .int (nI i))], [.int (zbit x (nI i))], XH tx n (nI P, nI C, nI R, nI L, hs, ss, cs, gs, vs) dr rd (nI D, sm, nI N, nI K, ce, de, ke, se) i0 i1 kp dd tr m)
    refine zq_b [zq_k 1] [zq_kchk 1] 17 rfl (by decide +kernel) ?_
    show zq_G _ _ _ _ _ 17 ([(0, .ref 32), (1, .int x), (2, .int y), (3, .int z), (4, .int (nI i))], [.int 1, .int (zbit x (nI i))], XH tx n (nI P, nI C, nI R, nI L, hs, ss, cs, gs, vs) dr rd (nI D, sm, nI N, nI K, ce, de, ke, se) i0 i1 kp dd tr m)
    refine zq_if .ne 31 (¬ (zbit x (nI i)) = 1) (by decide +kernel) (Iff.rfl) (fun c17 => ?_) (fun c17 => ?_)
    · show zq_G _ _ _ _ _ 31 ([(0, .ref 32), (1, .int x), (2, .int y), (3, .int z), (4, .int (nI i))], [], XH tx n (nI P, nI C, nI R, nI L, hs, ss, cs, gs, vs) dr rd (nI D, sm, nI N, nI K, ce, de, ke, se) i0 i1 kp dd tr m)
      refine zq_b [zq_k (-9), zq_is1 5, zq_il 5, zq_k (-9)] [zq_kchk (-9), zq_is1chk 5, zq_ilchk 5, zq_kchk (-9)] 39 rfl (by decide +kernel) ?_
      show zq_G _ _ _ _ _ 39 ([(0, .ref 32), (1, .int x), (2, .int y), (3, .int z), (4, .int (nI i)), (5, .int (-9))], [.int (-9), .int (-9)], XH tx n (nI P, nI C, nI R, nI L, hs, ss, cs, gs, vs) dr rd (nI D, sm, nI N, nI K, ce, de, ke, se) i0 i1 kp dd tr m)
      refine zq_if .eq 45 ((-9) = (-9)) (by decide +kernel) (Iff.rfl) (fun c39 => ?_) (fun c39 => absurd rfl c39)
      show zq_G _ _ _ _ _ 45 ([(0, .ref 32), (1, .int x), (2, .int y), (3, .int z), (4, .int (nI i)), (5, .int (-9))], [], XH tx n (nI P, nI C, nI R, nI L, hs, ss, cs, gs, vs) dr rd (nI D, sm, nI N, nI K, ce, de, ke, se) i0 i1 kp dd tr m)
      refine zq_b [zq_inc 4 1 (nI (i + 1)), zq_go] [zq_incchk 4 1, zq_gochk] 3 rfl (by decide +kernel) ?_
      refine ⟨nI_add i 1, ?_⟩
      show zq_G _ _ _ _ _ 3 ([(0, .ref 32), (1, .int x), (2, .int y), (3, .int z), (4, .int (nI (i + 1))), (5, .int (-9))], [], XH tx n (nI P, nI C, nI R, nI L, hs, ss, cs, gs, vs) dr rd (nI D, sm, nI N, nI K, ce, de, ke, se) i0 i1 kp dd tr m)
      refine zq_pick [0, 1, 2, 3, 4] rfl ?_
      show zq_G _ _ _ _ _ 3 ([(0, .ref 32), (1, .int x), (2, .int y), (3, .int z), (4, .int (nI (i + 1)))], [], XH tx n (nI P, nI C, nI R, nI L, hs, ss, cs, gs, vs) dr rd (nI D, sm, nI N, nI K, ce, de, ke, se) i0 i1 kp dd tr m)
      exact ih3 (lt_ext hI3 (by rw [decide_eq_false c17, Bool.false_and]))
    · show zq_G _ _ _ _ _ 20 ([(0, .ref 32), (1, .int x), (2, .int y), (3, .int z), (4, .int (nI i))], [], XH tx n (nI P, nI C, nI R, nI L, hs, ss, cs, gs, vs) dr rd (nI D, sm, nI N, nI K, ce, de, ke, se) i0 i1 kp dd tr m)
      refine zq_b [zq_al 0, zq_il 4, zq_il 2, zq_il 3] [zq_alchk 0, zq_ilchk 4, zq_ilchk 2, zq_ilchk 3] 25 rfl (by decide +kernel) ?_
      show zq_G _ _ _ _ _ 25 ([(0, .ref 32), (1, .int x), (2, .int y), (3, .int z), (4, .int (nI i))], [.int z, .int y, .int (nI i), .ref 32], XH tx n (nI P, nI C, nI R, nI L, hs, ss, cs, gs, vs) dr rd (nI D, sm, nI N, nI K, ce, de, ke, se) i0 i1 kp dd tr m)
      refine zq_callV (av := [.int (nI i), .int y, .int z]) (rest := []) (by decide +kernel) k1_33 (c_lastDoer (x := (nI i)) (y := y) (z := z) hN) rfl rfl rfl rfl ?_
      show zq_G _ _ _ _ _ 28 ([(0, .ref 32), (1, .int x), (2, .int y), (3, .int z), (4, .int (nI i))], [.int (zown de N (nI i) y z)], XH tx n (nI P, nI C, nI R, nI L, hs, ss, cs, gs, vs) dr rd (nI D, sm, nI N, nI K, ce, de, ke, se) i0 i1 kp dd tr m)
      refine zq_b [zq_go, zq_is1 5, zq_il 5, zq_k (-9)] [zq_gochk, zq_is1chk 5, zq_ilchk 5, zq_kchk (-9)] 39 rfl (by decide +kernel) ?_
      show zq_G _ _ _ _ _ 39 ([(0, .ref 32), (1, .int x), (2, .int y), (3, .int z), (4, .int (nI i)), (5, .int (zown de N (nI i) y z))], [.int (-9), .int (zown de N (nI i) y z)], XH tx n (nI P, nI C, nI R, nI L, hs, ss, cs, gs, vs) dr rd (nI D, sm, nI N, nI K, ce, de, ke, se) i0 i1 kp dd tr m)
      refine zq_if .eq 45 ((zown de N (nI i) y z) = (-9)) (by decide +kernel) (Iff.rfl) (fun c39 => ?_) (fun c39 => ?_)
      · show zq_G _ _ _ _ _ 45 ([(0, .ref 32), (1, .int x), (2, .int y), (3, .int z), (4, .int (nI i)), (5, .int (zown de N (nI i) y z))], [], XH tx n (nI P, nI C, nI R, nI L, hs, ss, cs, gs, vs) dr rd (nI D, sm, nI N, nI K, ce, de, ke, se) i0 i1 kp dd tr m)
        refine zq_b [zq_inc 4 1 (nI (i + 1)), zq_go] [zq_incchk 4 1, zq_gochk] 3 rfl (by decide +kernel) ?_
        refine ⟨nI_add i 1, ?_⟩
        show zq_G _ _ _ _ _ 3 ([(0, .ref 32), (1, .int x), (2, .int y), (3, .int z), (4, .int (nI (i + 1))), (5, .int (zown de N (nI i) y z))], [], XH tx n (nI P, nI C, nI R, nI L, hs, ss, cs, gs, vs) dr rd (nI D, sm, nI N, nI K, ce, de, ke, se) i0 i1 kp dd tr m)
        refine zq_pick [0, 1, 2, 3, 4] rfl ?_
        show zq_G _ _ _ _ _ 3 ([(0, .ref 32), (1, .int x), (2, .int y), (3, .int z), (4, .int (nI (i + 1)))], [], XH tx n (nI P, nI C, nI R, nI L, hs, ss, cs, gs, vs) dr rd (nI D, sm, nI N, nI K, ce, de, ke, se) i0 i1 kp dd tr m)
        exact ih3 (lt_ext hI3 (by rw [decide_eq_false (p := ¬ zown de N (nI i) y z = -9) (fun q => q c39), Bool.and_false]))
      · show zq_G _ _ _ _ _ 42 ([(0, .ref 32), (1, .int x), (2, .int y), (3, .int z), (4, .int (nI i)), (5, .int (zown de N (nI i) y z))], [], XH tx n (nI P, nI C, nI R, nI L, hs, ss, cs, gs, vs) dr rd (nI D, sm, nI N, nI K, ce, de, ke, se) i0 i1 kp dd tr m)
        refine zq_b [zq_il 5] [zq_ilchk 5] 44 rfl (by decide +kernel) ?_
        show zq_G _ _ _ _ _ 44 ([(0, .ref 32), (1, .int x), (2, .int y), (3, .int z), (4, .int (nI i)), (5, .int (zown de N (nI i) y z))], [.int (zown de N (nI i) y z)], XH tx n (nI P, nI C, nI R, nI L, hs, ss, cs, gs, vs) dr rd (nI D, sm, nI N, nI K, ce, de, ke, se) i0 i1 kp dd tr m)
        exact zq_iret (by decide +kernel) rfl (by unfold zlad; rw [zfs_at hi3 (by rw [decide_eq_true (Decidable.not_not.mp c17), decide_eq_true c39]; rfl) hI3]) rfl
  · show zq_G _ _ _ _ _ 3 ([(0, .ref 32), (1, .int x), (2, .int y), (3, .int z), (4, .int 8)], [], XH tx n (nI P, nI C, nI R, nI L, hs, ss, cs, gs, vs) dr rd (nI D, sm, nI N, nI K, ce, de, ke, se) i0 i1 kp dd tr m)
    refine zq_b [zq_il 4, zq_k 8] [zq_ilchk 4, zq_kchk 8] 7 rfl (by decide +kernel) ?_
    show zq_G _ _ _ _ _ 7 ([(0, .ref 32), (1, .int x), (2, .int y), (3, .int z), (4, .int 8)], [.int 8, .int 8], XH tx n (nI P, nI C, nI R, nI L, hs, ss, cs, gs, vs) dr rd (nI D, sm, nI N, nI K, ce, de, ke, se) i0 i1 kp dd tr m)
    refine zq_if .ge 51 (8 ≤ 8) (by decide +kernel) (zq_cge (a := 8) (b := 8) (by omega) (by omega)) (fun c7 => ?_) (fun c7 => absurd (by omega) c7)
    show zq_G _ _ _ _ _ 51 ([(0, .ref 32), (1, .int x), (2, .int y), (3, .int z), (4, .int 8)], [], XH tx n (nI P, nI C, nI R, nI L, hs, ss, cs, gs, vs) dr rd (nI D, sm, nI N, nI K, ce, de, ke, se) i0 i1 kp dd tr m)
    refine zq_b [zq_k (-9)] [zq_kchk (-9)] 53 rfl (by decide +kernel) ?_
    show zq_G _ _ _ _ _ 53 ([(0, .ref 32), (1, .int x), (2, .int y), (3, .int z), (4, .int 8)], [.int (-9)], XH tx n (nI P, nI C, nI R, nI L, hs, ss, cs, gs, vs) dr rd (nI D, sm, nI N, nI K, ce, de, ke, se) i0 i1 kp dd tr m)
    exact zq_iret (by decide +kernel) rfl (by unfold zlad; rw [zfs_no hI3]) rfl
set_option maxHeartbeats 4000000 in
set_option maxRecDepth 100000 in
theorem c_whoHolds {x : Int32} {y : Int32} {z : Int32} (hN : N ≤ 12) (hR : R ≤ 6) : zq_P l mX1_whoHolds 3 [.ref 32, .int x, .int y, .int z] (XH tx n (nI P, nI C, nI R, nI L, hs, ss, cs, gs, vs) dr rd (nI D, sm, nI N, nI K, ce, de, ke, se) i0 i1 kp dd tr m) (some (.int (zwho (fun r => zac r vs gs R) (fun a => zown de N (nI a) y z) ((1 : Int32) <<< (x &&& 31))))) (XH tx n (nI P, nI C, nI R, nI L, hs, ss, cs, gs, vs) dr rd (nI D, sm, nI N, nI K, ce, de, ke, se) i0 i1 kp dd tr m) := by
  refine zq_start (by decide +kernel) rfl (Nat.le_of_ble_eq_true rfl) ?_
  show zq_G _ _ _ _ _ 0 ([(0, .ref 32), (1, .int x), (2, .int y), (3, .int z)], [], XH tx n (nI P, nI C, nI R, nI L, hs, ss, cs, gs, vs) dr rd (nI D, sm, nI N, nI K, ce, de, ke, se) i0 i1 kp dd tr m)
  refine zq_b [zq_k 1, zq_il 1, zq_ishl (1 <<< (x &&& 31)), zq_is1 4, zq_il 4, zq_is1 5, zq_k 0, zq_is1 6] [zq_kchk 1, zq_ilchk 1, zq_is .ishl 1, zq_is1chk 4, zq_ilchk 4, zq_is1chk 5, zq_kchk 0, zq_is1chk 6] 12 rfl (by decide +kernel) ?_
  refine ⟨rfl, ?_⟩
  show zq_G _ _ _ _ _ 12 ([(0, .ref 32), (1, .int x), (2, .int y), (3, .int z), (4, .int (1 <<< (x &&& 31))), (5, .int (1 <<< (x &&& 31))), (6, .int 0)], [], XH tx n (nI P, nI C, nI R, nI L, hs, ss, cs, gs, vs) dr rd (nI D, sm, nI N, nI K, ce, de, ke, se) i0 i1 kp dd tr m)
  refine zq_loop (fun i => ([(0, .ref 32), (1, .int x), (2, .int y), (3, .int z), (4, .int ((zrg (fun r => zac r vs gs R) ((1 : Int32) <<< (x &&& 31)) i).1)), (5, .int ((zrg (fun r => zac r vs gs R) ((1 : Int32) <<< (x &&& 31)) i).2)), (6, .int (nI i))], [], XH tx n (nI P, nI C, nI R, nI L, hs, ss, cs, gs, vs) dr rd (nI D, sm, nI N, nI K, ce, de, ke, se) i0 i1 kp dd tr m)) (fun i => ∀ j, j < i → decide (¬ zlad (fun a => zown de N (nI a) y z) (zrg (fun r => zac r vs gs R) ((1 : Int32) <<< (x &&& 31)) j).1 = -9) = false) (8) (0) (by omega) ((fun j hj => absurd hj (by omega))) (fun i hl12 hi12 hI12 ih12 => ?_) (fun hI12 => ?_)
  · show zq_G _ _ _ _ _ 12 ([(0, .ref 32), (1, .int x), (2, .int y), (3, .int z), (4, .int ((zrg (fun r => zac r vs gs R) ((1 : Int32) <<< (x &&& 31)) i).1)), (5, .int ((zrg (fun r => zac r vs gs R) ((1 : Int32) <<< (x &&& 31)) i).2)), (6, .int (nI i))], [], XH tx n (nI P, nI C, nI R, nI L, hs, ss, cs, gs, vs) dr rd (nI D, sm, nI N, nI K, ce, de, ke, se) i0 i1 kp dd tr m)
    refine zq_b [zq_il 6, zq_k 8] [zq_ilchk 6, zq_kchk 8] 16 rfl (by decide +kernel) ?_
    show zq_G _ _ _ _ _ 16 ([(0, .ref 32), (1, .int x), (2, .int y), (3, .int z), (4, .int ((zrg (fun r => zac r vs gs R) ((1 : Int32) <<< (x &&& 31)) i).1)), (5, .int ((zrg (fun r => zac r vs gs R) ((1 : Int32) <<< (x &&& 31)) i).2)), (6, .int (nI i))], [.int 8, .int (nI i)], XH tx n (nI P, nI C, nI R, nI L, hs, ss, cs, gs, vs) dr rd (nI D, sm, nI N, nI K, ce, de, ke, se) i0 i1 kp dd tr m)
    refine zq_if .ge 68 (8 ≤ i) (by decide +kernel) (zq_cge (a := i) (b := 8) (by omega) (by omega)) (fun c16 => absurd c16 (by omega)) (fun c16 => ?_)
    show zq_G _ _ _ _ _ 19 ([(0, .ref 32), (1, .int x), (2, .int y), (3, .int z), (4, .int ((zrg (fun r => zac r vs gs R) ((1 : Int32) <<< (x &&& 31)) i).1)), (5, .int ((zrg (fun r => zac r vs gs R) ((1 : Int32) <<< (x &&& 31)) i).2)), (6, .int (nI i))], [], XH tx n (nI P, nI C, nI R, nI L, hs, ss, cs, gs, vs) dr rd (nI D, sm, nI N, nI K, ce, de, ke, se) i0 i1 kp dd tr m)
    refine zq_b [zq_al 0, zq_il 4, zq_il 2, zq_il 3] [zq_alchk 0, zq_ilchk 4, zq_ilchk 2, zq_ilchk 3] 24 rfl (by decide +kernel) ?_
    show zq_G _ _ _ _ _ 24 ([(0, .ref 32), (1, .int x), (2, .int y), (3, .int z), (4, .int ((zrg (fun r => zac r vs gs R) ((1 : Int32) <<< (x &&& 31)) i).1)), (5, .int ((zrg (fun r => zac r vs gs R) ((1 : Int32) <<< (x &&& 31)) i).2)), (6, .int (nI i))], [.int z, .int y, .int ((zrg (fun r => zac r vs gs R) ((1 : Int32) <<< (x &&& 31)) i).1), .ref 32], XH tx n (nI P, nI C, nI R, nI L, hs, ss, cs, gs, vs) dr rd (nI D, sm, nI N, nI K, ce, de, ke, se) i0 i1 kp dd tr m)
    refine zq_callV (av := [.int ((zrg (fun r => zac r vs gs R) ((1 : Int32) <<< (x &&& 31)) i).1), .int y, .int z]) (rest := []) (by decide +kernel) k1_19 (c_leastActsDoer (x := ((zrg (fun r => zac r vs gs R) ((1 : Int32) <<< (x &&& 31)) i).1)) (y := y) (z := z) hN) rfl rfl rfl rfl ?_
    show zq_G _ _ _ _ _ 27 ([(0, .ref 32), (1, .int x), (2, .int y), (3, .int z), (4, .int ((zrg (fun r => zac r vs gs R) ((1 : Int32) <<< (x &&& 31)) i).1)), (5, .int ((zrg (fun r => zac r vs gs R) ((1 : Int32) <<< (x &&& 31)) i).2)), (6, .int (nI i))], [.int (zlad (fun a => zown de N (nI a) y z) ((zrg (fun r => zac r vs gs R) ((1 : Int32) <<< (x &&& 31)) i).1))], XH tx n (nI P, nI C, nI R, nI L, hs, ss, cs, gs, vs) dr rd (nI D, sm, nI N, nI K, ce, de, ke, se) i0 i1 kp dd tr m)
    refine zq_b [zq_is1 7, zq_il 7, zq_k (-9)] [zq_is1chk 7, zq_ilchk 7, zq_kchk (-9)] 33 rfl (by decide +kernel) ?_
    show zq_G _ _ _ _ _ 33 ([(0, .ref 32), (1, .int x), (2, .int y), (3, .int z), (4, .int ((zrg (fun r => zac r vs gs R) ((1 : Int32) <<< (x &&& 31)) i).1)), (5, .int ((zrg (fun r => zac r vs gs R) ((1 : Int32) <<< (x &&& 31)) i).2)), (6, .int (nI i)), (7, .int (zlad (fun a => zown de N (nI a) y z) ((zrg (fun r => zac r vs gs R) ((1 : Int32) <<< (x &&& 31)) i).1)))], [.int (-9), .int (zlad (fun a => zown de N (nI a) y z) ((zrg (fun r => zac r vs gs R) ((1 : Int32) <<< (x &&& 31)) i).1))], XH tx n (nI P, nI C, nI R, nI L, hs, ss, cs, gs, vs) dr rd (nI D, sm, nI N, nI K, ce, de, ke, se) i0 i1 kp dd tr m)
    refine zq_if .eq 39 ((zlad (fun a => zown de N (nI a) y z) ((zrg (fun r => zac r vs gs R) ((1 : Int32) <<< (x &&& 31)) i).1)) = (-9)) (by decide +kernel) (Iff.rfl) (fun c33 => ?_) (fun c33 => ?_)
    · show zq_G _ _ _ _ _ 39 ([(0, .ref 32), (1, .int x), (2, .int y), (3, .int z), (4, .int ((zrg (fun r => zac r vs gs R) ((1 : Int32) <<< (x &&& 31)) i).1)), (5, .int ((zrg (fun r => zac r vs gs R) ((1 : Int32) <<< (x &&& 31)) i).2)), (6, .int (nI i)), (7, .int (zlad (fun a => zown de N (nI a) y z) ((zrg (fun r => zac r vs gs R) ((1 : Int32) <<< (x &&& 31)) i).1)))], [], XH tx n (nI P, nI C, nI R, nI L, hs, ss, cs, gs, vs) dr rd (nI D, sm, nI N, nI K, ce, de, ke, se) i0 i1 kp dd tr m)
      refine zq_b [zq_al 0, zq_get 1 0, zq_il 4] [zq_alchk 0, zq_getchk 1 0, zq_ilchk 4] 45 rfl (by decide +kernel) ?_
      show zq_G _ _ _ _ _ 45 ([(0, .ref 32), (1, .int x), (2, .int y), (3, .int z), (4, .int ((zrg (fun r => zac r vs gs R) ((1 : Int32) <<< (x &&& 31)) i).1)), (5, .int ((zrg (fun r => zac r vs gs R) ((1 : Int32) <<< (x &&& 31)) i).2)), (6, .int (nI i)), (7, .int (zlad (fun a => zown de N (nI a) y z) ((zrg (fun r => zac r vs gs R) ((1 : Int32) <<< (x &&& 31)) i).1)))], [.int ((zrg (fun r => zac r vs gs R) ((1 : Int32) <<< (x &&& 31)) i).1), .ref 2], XH tx n (nI P, nI C, nI R, nI L, hs, ss, cs, gs, vs) dr rd (nI D, sm, nI N, nI K, ce, de, ke, se) i0 i1 kp dd tr m)
      refine zq_callV (av := [.int ((zrg (fun r => zac r vs gs R) ((1 : Int32) <<< (x &&& 31)) i).1)]) (rest := []) (by decide +kernel) k1_23 (c_actsGiving (x := ((zrg (fun r => zac r vs gs R) ((1 : Int32) <<< (x &&& 31)) i).1)) hR) rfl rfl rfl rfl ?_
      show zq_G _ _ _ _ _ 48 ([(0, .ref 32), (1, .int x), (2, .int y), (3, .int z), (4, .int ((zrg (fun r => zac r vs gs R) ((1 : Int32) <<< (x &&& 31)) i).1)), (5, .int ((zrg (fun r => zac r vs gs R) ((1 : Int32) <<< (x &&& 31)) i).2)), (6, .int (nI i)), (7, .int (zlad (fun a => zown de N (nI a) y z) ((zrg (fun r => zac r vs gs R) ((1 : Int32) <<< (x &&& 31)) i).1)))], [.int (zac ((zrg (fun r => zac r vs gs R) ((1 : Int32) <<< (x &&& 31)) i).1) vs gs R)], XH tx n (nI P, nI C, nI R, nI L, hs, ss, cs, gs, vs) dr rd (nI D, sm, nI N, nI K, ce, de, ke, se) i0 i1 kp dd tr m)
      refine zq_b [zq_il 5, zq_k (-1), zq_ixor (((zrg (fun r => zac r vs gs R) ((1 : Int32) <<< (x &&& 31)) i).2) ^^^ (-1)), zq_iand ((zac ((zrg (fun r => zac r vs gs R) ((1 : Int32) <<< (x &&& 31)) i).1) vs gs R) &&& (((zrg (fun r => zac r vs gs R) ((1 : Int32) <<< (x &&& 31)) i).2) ^^^ (-1))), zq_is1 4, zq_il 5, zq_il 4, zq_ior (((zrg (fun r => zac r vs gs R) ((1 : Int32) <<< (x &&& 31)) i).2) ||| ((zac ((zrg (fun r => zac r vs gs R) ((1 : Int32) <<< (x &&& 31)) i).1) vs gs R) &&& (((zrg (fun r => zac r vs gs R) ((1 : Int32) <<< (x &&& 31)) i).2) ^^^ (-1)))), zq_is1 5, zq_inc 6 1 (nI (i + 1)), zq_go] [zq_ilchk 5, zq_kchk (-1), zq_is .ixor 1, zq_is .iand 1, zq_is1chk 4, zq_ilchk 5, zq_ilchk 4, zq_is .ior 1, zq_is1chk 5, zq_incchk 6 1, zq_gochk] 12 rfl (by decide +kernel) ?_
      refine ⟨rfl, rfl, rfl, nI_add i 1, ?_⟩
      show zq_G _ _ _ _ _ 12 ([(0, .ref 32), (1, .int x), (2, .int y), (3, .int z), (4, .int ((zac ((zrg (fun r => zac r vs gs R) ((1 : Int32) <<< (x &&& 31)) i).1) vs gs R) &&& (((zrg (fun r => zac r vs gs R) ((1 : Int32) <<< (x &&& 31)) i).2) ^^^ (-1)))), (5, .int (((zrg (fun r => zac r vs gs R) ((1 : Int32) <<< (x &&& 31)) i).2) ||| ((zac ((zrg (fun r => zac r vs gs R) ((1 : Int32) <<< (x &&& 31)) i).1) vs gs R) &&& (((zrg (fun r => zac r vs gs R) ((1 : Int32) <<< (x &&& 31)) i).2) ^^^ (-1))))), (6, .int (nI (i + 1))), (7, .int (zlad (fun a => zown de N (nI a) y z) ((zrg (fun r => zac r vs gs R) ((1 : Int32) <<< (x &&& 31)) i).1)))], [], XH tx n (nI P, nI C, nI R, nI L, hs, ss, cs, gs, vs) dr rd (nI D, sm, nI N, nI K, ce, de, ke, se) i0 i1 kp dd tr m)
      refine zq_pick [0, 1, 2, 3, 4, 5, 6] rfl ?_
      show zq_G _ _ _ _ _ 12 ([(0, .ref 32), (1, .int x), (2, .int y), (3, .int z), (4, .int ((zac ((zrg (fun r => zac r vs gs R) ((1 : Int32) <<< (x &&& 31)) i).1) vs gs R) &&& (((zrg (fun r => zac r vs gs R) ((1 : Int32) <<< (x &&& 31)) i).2) ^^^ (-1)))), (5, .int (((zrg (fun r => zac r vs gs R) ((1 : Int32) <<< (x &&& 31)) i).2) ||| ((zac ((zrg (fun r => zac r vs gs R) ((1 : Int32) <<< (x &&& 31)) i).1) vs gs R) &&& (((zrg (fun r => zac r vs gs R) ((1 : Int32) <<< (x &&& 31)) i).2) ^^^ (-1))))), (6, .int (nI (i + 1)))], [], XH tx n (nI P, nI C, nI R, nI L, hs, ss, cs, gs, vs) dr rd (nI D, sm, nI N, nI K, ce, de, ke, se) i0 i1 kp dd tr m)
      exact ih12 (lt_ext hI12 (decide_eq_false (fun q => q c33)))
    · show zq_G _ _ _ _ _ 36 ([(0, .ref 32), (1, .int x), (2, .int y), (3, .int z), (4, .int ((zrg (fun r => zac r vs gs R) ((1 : Int32) <<< (x &&& 31)) i).1)), (5, .int ((zrg (fun r => zac r vs gs R) ((1 : Int32) <<< (x &&& 31)) i).2)), (6, .int (nI i)), (7, .int (zlad (fun a => zown de N (nI a) y z) ((zrg (fun r => zac r vs gs R) ((1 : Int32) <<< (x &&& 31)) i).1)))], [], XH tx n (nI P, nI C, nI R, nI L, hs, ss, cs, gs, vs) dr rd (nI D, sm, nI N, nI K, ce, de, ke, se) i0 i1 kp dd tr m)
      refine zq_b [zq_il 7] [zq_ilchk 7] 38 rfl (by decide +kernel) ?_
      show zq_G _ _ _ _ _ 38 ([(0, .ref 32), (1, .int x), (2, .int y), (3, .int z), (4, .int ((zrg (fun r => zac r vs gs R) ((1 : Int32) <<< (x &&& 31)) i).1)), (5, .int ((zrg (fun r => zac r vs gs R) ((1 : Int32) <<< (x &&& 31)) i).2)), (6, .int (nI i)), (7, .int (zlad (fun a => zown de N (nI a) y z) ((zrg (fun r => zac r vs gs R) ((1 : Int32) <<< (x &&& 31)) i).1)))], [.int (zlad (fun a => zown de N (nI a) y z) ((zrg (fun r => zac r vs gs R) ((1 : Int32) <<< (x &&& 31)) i).1))], XH tx n (nI P, nI C, nI R, nI L, hs, ss, cs, gs, vs) dr rd (nI D, sm, nI N, nI K, ce, de, ke, se) i0 i1 kp dd tr m)
      exact zq_iret (by decide +kernel) rfl (by unfold zwho; rw [zfs_at hi12 (decide_eq_true c33) hI12]) rfl
  · show zq_G _ _ _ _ _ 12 ([(0, .ref 32), (1, .int x), (2, .int y), (3, .int z), (4, .int ((zrg (fun r => zac r vs gs R) ((1 : Int32) <<< (x &&& 31)) 8).1)), (5, .int ((zrg (fun r => zac r vs gs R) ((1 : Int32) <<< (x &&& 31)) 8).2)), (6, .int 8)], [], XH tx n (nI P, nI C, nI R, nI L, hs, ss, cs, gs, vs) dr rd (nI D, sm, nI N, nI K, ce, de, ke, se) i0 i1 kp dd tr m)
    refine zq_b [zq_il 6, zq_k 8] [zq_ilchk 6, zq_kchk 8] 16 rfl (by decide +kernel) ?_
    show zq_G _ _ _ _ _ 16 ([(0, .ref 32), (1, .int x), (2, .int y), (3, .int z), (4, .int ((zrg (fun r => zac r vs gs R) ((1 : Int32) <<< (x &&& 31)) 8).1)), (5, .int ((zrg (fun r => zac r vs gs R) ((1 : Int32) <<< (x &&& 31)) 8).2)), (6, .int 8)], [.int 8, .int 8], XH tx n (nI P, nI C, nI R, nI L, hs, ss, cs, gs, vs) dr rd (nI D, sm, nI N, nI K, ce, de, ke, se) i0 i1 kp dd tr m)
    refine zq_if .ge 68 (8 ≤ 8) (by decide +kernel) (zq_cge (a := 8) (b := 8) (by omega) (by omega)) (fun c16 => ?_) (fun c16 => absurd (by omega) c16)
    show zq_G _ _ _ _ _ 68 ([(0, .ref 32), (1, .int x), (2, .int y), (3, .int z), (4, .int ((zrg (fun r => zac r vs gs R) ((1 : Int32) <<< (x &&& 31)) 8).1)), (5, .int ((zrg (fun r => zac r vs gs R) ((1 : Int32) <<< (x &&& 31)) 8).2)), (6, .int 8)], [], XH tx n (nI P, nI C, nI R, nI L, hs, ss, cs, gs, vs) dr rd (nI D, sm, nI N, nI K, ce, de, ke, se) i0 i1 kp dd tr m)
    refine zq_b [zq_k (-9)] [zq_kchk (-9)] 70 rfl (by decide +kernel) ?_
    show zq_G _ _ _ _ _ 70 ([(0, .ref 32), (1, .int x), (2, .int y), (3, .int z), (4, .int ((zrg (fun r => zac r vs gs R) ((1 : Int32) <<< (x &&& 31)) 8).1)), (5, .int ((zrg (fun r => zac r vs gs R) ((1 : Int32) <<< (x &&& 31)) 8).2)), (6, .int 8)], [.int (-9)], XH tx n (nI P, nI C, nI R, nI L, hs, ss, cs, gs, vs) dr rd (nI D, sm, nI N, nI K, ce, de, ke, se) i0 i1 kp dd tr m)
    exact zq_iret (by decide +kernel) rfl (by unfold zwho; rw [zfs_no hI12]) rfl
set_option maxHeartbeats 4000000 in
set_option maxRecDepth 100000 in
theorem c_comesBack {x : Int32} (hR : R ≤ 6) : zq_P l mX1_comesBack 3 [.ref 32, .int x] (XH tx n (nI P, nI C, nI R, nI L, hs, ss, cs, gs, vs) dr rd (nI D, sm, nI N, nI K, ce, de, ke, se) i0 i1 kp dd tr m) (some (.int (zb (zbit (zrc (fun r => zac r gs vs R) (zac ((1 : Int32) <<< (x &&& 31)) gs vs R) 8) x = 1)))) (XH tx n (nI P, nI C, nI R, nI L, hs, ss, cs, gs, vs) dr rd (nI D, sm, nI N, nI K, ce, de, ke, se) i0 i1 kp dd tr m) := by
  refine zq_start (by decide +kernel) rfl (Nat.le_of_ble_eq_true rfl) ?_
  show zq_G _ _ _ _ _ 0 ([(0, .ref 32), (1, .int x)], [], XH tx n (nI P, nI C, nI R, nI L, hs, ss, cs, gs, vs) dr rd (nI D, sm, nI N, nI K, ce, de, ke, se) i0 i1 kp dd tr m)
  refine zq_b [zq_al 0, zq_get 1 0, zq_k 1, zq_il 1, zq_ishl (1 <<< (x &&& 31))] [zq_alchk 0, zq_getchk 1 0, zq_kchk 1, zq_ilchk 1, zq_is .ishl 1] 7 rfl (by decide +kernel) ?_
  refine ⟨rfl, ?_⟩
  show zq_G _ _ _ _ _ 7 ([(0, .ref 32), (1, .int x)], [.int (1 <<< (x &&& 31)), .ref 2], XH tx n (nI P, nI C, nI R, nI L, hs, ss, cs, gs, vs) dr rd (nI D, sm, nI N, nI K, ce, de, ke, se) i0 i1 kp dd tr m)
  refine zq_callV (av := [.int (1 <<< (x &&& 31))]) (rest := []) (by decide +kernel) k1_45 (c_actsGivenBy (x := (1 <<< (x &&& 31))) hR) rfl rfl rfl rfl ?_
  show zq_G _ _ _ _ _ 10 ([(0, .ref 32), (1, .int x)], [.int (zac (1 <<< (x &&& 31)) gs vs R)], XH tx n (nI P, nI C, nI R, nI L, hs, ss, cs, gs, vs) dr rd (nI D, sm, nI N, nI K, ce, de, ke, se) i0 i1 kp dd tr m)
  refine zq_b [zq_is1 2, zq_k 0, zq_is1 3] [zq_is1chk 2, zq_kchk 0, zq_is1chk 3] 13 rfl (by decide +kernel) ?_
  show zq_G _ _ _ _ _ 13 ([(0, .ref 32), (1, .int x), (2, .int (zac (1 <<< (x &&& 31)) gs vs R)), (3, .int 0)], [], XH tx n (nI P, nI C, nI R, nI L, hs, ss, cs, gs, vs) dr rd (nI D, sm, nI N, nI K, ce, de, ke, se) i0 i1 kp dd tr m)
  refine zq_loop (fun i => ([(0, .ref 32), (1, .int x), (2, .int (zrc (fun r => zac r gs vs R) (zac ((1 : Int32) <<< (x &&& 31)) gs vs R) i)), (3, .int (nI i))], [], XH tx n (nI P, nI C, nI R, nI L, hs, ss, cs, gs, vs) dr rd (nI D, sm, nI N, nI K, ce, de, ke, se) i0 i1 kp dd tr m)) (fun i => True) (8) (0) (by omega) (trivial) (fun i hl13 hi13 hI13 ih13 => ?_) (fun hI13 => ?_)
  · show zq_G _ _ _ _ _ 13 ([(0, .ref 32), (1, .int x), (2, .int (zrc (fun r => zac r gs vs R) (zac ((1 : Int32) <<< (x &&& 31)) gs vs R) i)), (3, .int (nI i))], [], XH tx n (nI P, nI C, nI R, nI L, hs, ss, cs, gs, vs) dr rd (nI D, sm, nI N, nI K, ce, de, ke, se) i0 i1 kp dd tr m)
    refine zq_b [zq_il 3, zq_k 8] [zq_ilchk 3, zq_kchk 8] 16 rfl (by decide +kernel) ?_
    show zq_G _ _ _ _ _ 16 ([(0, .ref 32), (1, .int x), (2, .int (zrc (fun r => zac r gs vs R) (zac ((1 : Int32) <<< (x &&& 31)) gs vs R) i)), (3, .int (nI i))], [.int 8, .int (nI i)], XH tx n (nI P, nI C, nI R, nI L, hs, ss, cs, gs, vs) dr rd (nI D, sm, nI N, nI K, ce, de, ke, se) i0 i1 kp dd tr m)
    refine zq_if .ge 36 (8 ≤ i) (by decide +kernel) (zq_cge (a := i) (b := 8) (by omega) (by omega)) (fun c16 => absurd c16 (by omega)) (fun c16 => ?_)
    show zq_G _ _ _ _ _ 19 ([(0, .ref 32), (1, .int x), (2, .int (zrc (fun r => zac r gs vs R) (zac ((1 : Int32) <<< (x &&& 31)) gs vs R) i)), (3, .int (nI i))], [], XH tx n (nI P, nI C, nI R, nI L, hs, ss, cs, gs, vs) dr rd (nI D, sm, nI N, nI K, ce, de, ke, se) i0 i1 kp dd tr m)
    refine zq_b [zq_il 2, zq_al 0, zq_get 1 0, zq_il 2] [zq_ilchk 2, zq_alchk 0, zq_getchk 1 0, zq_ilchk 2] 25 rfl (by decide +kernel) ?_
    show zq_G _ _ _ _ _ 25 ([(0, .ref 32), (1, .int x), (2, .int (zrc (fun r => zac r gs vs R) (zac ((1 : Int32) <<< (x &&& 31)) gs vs R) i)), (3, .int (nI i))], [.int (zrc (fun r => zac r gs vs R) (zac ((1 : Int32) <<< (x &&& 31)) gs vs R) i), .ref 2, .int (zrc (fun r => zac r gs vs R) (zac ((1 : Int32) <<< (x &&& 31)) gs vs R) i)], XH tx n (nI P, nI C, nI R, nI L, hs, ss, cs, gs, vs) dr rd (nI D, sm, nI N, nI K, ce, de, ke, se) i0 i1 kp dd tr m)
    refine zq_callV (av := [.int (zrc (fun r => zac r gs vs R) (zac ((1 : Int32) <<< (x &&& 31)) gs vs R) i)]) (rest := [.int (zrc (fun r => zac r gs vs R) (zac ((1 : Int32) <<< (x &&& 31)) gs vs R) i)]) (by decide +kernel) k1_45 (c_actsGivenBy (x := (zrc (fun r => zac r gs vs R) (zac ((1 : Int32) <<< (x &&& 31)) gs vs R) i)) hR) rfl rfl rfl rfl ?_
    show zq_G _ _ _ _ _ 28 ([(0, .ref 32), (1, .int x), (2, .int (zrc (fun r => zac r gs vs R) (zac ((1 : Int32) <<< (x &&& 31)) gs vs R) i)), (3, .int (nI i))], [.int (zac (zrc (fun r => zac r gs vs R) (zac ((1 : Int32) <<< (x &&& 31)) gs vs R) i) gs vs R), .int (zrc (fun r => zac r gs vs R) (zac ((1 : Int32) <<< (x &&& 31)) gs vs R) i)], XH tx n (nI P, nI C, nI R, nI L, hs, ss, cs, gs, vs) dr rd (nI D, sm, nI N, nI K, ce, de, ke, se) i0 i1 kp dd tr m)
    refine zq_b [zq_ior ((zrc (fun r => zac r gs vs R) (zac ((1 : Int32) <<< (x &&& 31)) gs vs R) i) ||| (zac (zrc (fun r => zac r gs vs R) (zac ((1 : Int32) <<< (x &&& 31)) gs vs R) i) gs vs R)), zq_is1 2, zq_inc 3 1 (nI (i + 1)), zq_go] [zq_is .ior 1, zq_is1chk 2, zq_incchk 3 1, zq_gochk] 13 rfl (by decide +kernel) ?_
    refine ⟨rfl, nI_add i 1, ?_⟩
    show zq_G _ _ _ _ _ 13 ([(0, .ref 32), (1, .int x), (2, .int ((zrc (fun r => zac r gs vs R) (zac ((1 : Int32) <<< (x &&& 31)) gs vs R) i) ||| (zac (zrc (fun r => zac r gs vs R) (zac ((1 : Int32) <<< (x &&& 31)) gs vs R) i) gs vs R))), (3, .int (nI (i + 1)))], [], XH tx n (nI P, nI C, nI R, nI L, hs, ss, cs, gs, vs) dr rd (nI D, sm, nI N, nI K, ce, de, ke, se) i0 i1 kp dd tr m)
    exact ih13 trivial
  · show zq_G _ _ _ _ _ 13 ([(0, .ref 32), (1, .int x), (2, .int (zrc (fun r => zac r gs vs R) (zac ((1 : Int32) <<< (x &&& 31)) gs vs R) 8)), (3, .int 8)], [], XH tx n (nI P, nI C, nI R, nI L, hs, ss, cs, gs, vs) dr rd (nI D, sm, nI N, nI K, ce, de, ke, se) i0 i1 kp dd tr m)
    refine zq_b [zq_il 3, zq_k 8] [zq_ilchk 3, zq_kchk 8] 16 rfl (by decide +kernel) ?_
    show zq_G _ _ _ _ _ 16 ([(0, .ref 32), (1, .int x), (2, .int (zrc (fun r => zac r gs vs R) (zac ((1 : Int32) <<< (x &&& 31)) gs vs R) 8)), (3, .int 8)], [.int 8, .int 8], XH tx n (nI P, nI C, nI R, nI L, hs, ss, cs, gs, vs) dr rd (nI D, sm, nI N, nI K, ce, de, ke, se) i0 i1 kp dd tr m)
    refine zq_if .ge 36 (8 ≤ 8) (by decide +kernel) (zq_cge (a := 8) (b := 8) (by omega) (by omega)) (fun c16 => ?_) (fun c16 => absurd (by omega) c16)
    show zq_G _ _ _ _ _ 36 ([(0, .ref 32), (1, .int x), (2, .int (zrc (fun r => zac r gs vs R) (zac ((1 : Int32) <<< (x &&& 31)) gs vs R) 8)), (3, .int 8)], [], XH tx n (nI P, nI C, nI R, nI L, hs, ss, cs, gs, vs) dr rd (nI D, sm, nI N, nI K, ce, de, ke, se) i0 i1 kp dd tr m)
    refine zq_b [zq_il 2, zq_il 1] [zq_ilchk 2, zq_ilchk 1] 38 rfl (by decide +kernel) ?_
    show zq_G _ _ _ _ _ 38 ([(0, .ref 32), (1, .int x), (2, .int (zrc (fun r => zac r gs vs R) (zac ((1 : Int32) <<< (x &&& 31)) gs vs R) 8)), (3, .int 8)], [.int x, .int (zrc (fun r => zac r gs vs R) (zac ((1 : Int32) <<< (x &&& 31)) gs vs R) 8)], XH tx n (nI P, nI C, nI R, nI L, hs, ss, cs, gs, vs) dr rd (nI D, sm, nI N, nI K, ce, de, ke, se) i0 i1 kp dd tr m)
    refine zq_callN (av := [.int (zrc (fun r => zac r gs vs R) (zac ((1 : Int32) <<< (x &&& 31)) gs vs R) 8), .int x]) (rest := []) (by decide +kernel) k1_29 (c_bit (x := (zrc (fun r => zac r gs vs R) (zac ((1 : Int32) <<< (x &&& 31)) gs vs R) 8)) (p := x)) rfl rfl ?_
    show zq_G _ _ _ _ _ 41 ([(0, .ref 32), (1, .int x), (2, .int (zrc (fun r => zac r gs vs R) (zac ((1 : Int32) <<< (x &&& 31)) gs vs R) 8)), (3, .int 8)], [.int (zbit (zrc (fun r => zac r gs vs R) (zac ((1 : Int32) <<< (x &&& 31)) gs vs R) 8) x)], XH tx n (nI P, nI C, nI R, nI L, hs, ss, cs, gs, vs) dr rd (nI D, sm, nI N, nI K, ce, de, ke, se) i0 i1 kp dd tr m)
    refine zq_b [zq_k 1] [zq_kchk 1] 42 rfl (by decide +kernel) ?_
    show zq_G _ _ _ _ _ 42 ([(0, .ref 32), (1, .int x), (2, .int (zrc (fun r => zac r gs vs R) (zac ((1 : Int32) <<< (x &&& 31)) gs vs R) 8)), (3, .int 8)], [.int 1, .int (zbit (zrc (fun r => zac r gs vs R) (zac ((1 : Int32) <<< (x &&& 31)) gs vs R) 8) x)], XH tx n (nI P, nI C, nI R, nI L, hs, ss, cs, gs, vs) dr rd (nI D, sm, nI N, nI K, ce, de, ke, se) i0 i1 kp dd tr m)
    refine zq_if .ne 49 (¬ (zbit (zrc (fun r => zac r gs vs R) (zac ((1 : Int32) <<< (x &&& 31)) gs vs R) 8) x) = 1) (by decide +kernel) (Iff.rfl) (fun c42 => ?_) (fun c42 => ?_)
    · show zq_G _ _ _ _ _ 49 ([(0, .ref 32), (1, .int x), (2, .int (zrc (fun r => zac r gs vs R) (zac ((1 : Int32) <<< (x &&& 31)) gs vs R) 8)), (3, .int 8)], [], XH tx n (nI P, nI C, nI R, nI L, hs, ss, cs, gs, vs) dr rd (nI D, sm, nI N, nI K, ce, de, ke, se) i0 i1 kp dd tr m)
      refine zq_b [zq_k 0] [zq_kchk 0] 50 rfl (by decide +kernel) ?_
      show zq_G _ _ _ _ _ 50 ([(0, .ref 32), (1, .int x), (2, .int (zrc (fun r => zac r gs vs R) (zac ((1 : Int32) <<< (x &&& 31)) gs vs R) 8)), (3, .int 8)], [.int 0], XH tx n (nI P, nI C, nI R, nI L, hs, ss, cs, gs, vs) dr rd (nI D, sm, nI N, nI K, ce, de, ke, se) i0 i1 kp dd tr m)
      exact zq_zret (by decide +kernel) rfl (Or.inl rfl) (zb_r (zb_f c42)) rfl
    · show zq_G _ _ _ _ _ 45 ([(0, .ref 32), (1, .int x), (2, .int (zrc (fun r => zac r gs vs R) (zac ((1 : Int32) <<< (x &&& 31)) gs vs R) 8)), (3, .int 8)], [], XH tx n (nI P, nI C, nI R, nI L, hs, ss, cs, gs, vs) dr rd (nI D, sm, nI N, nI K, ce, de, ke, se) i0 i1 kp dd tr m)
      refine zq_b [zq_k 1, zq_go] [zq_kchk 1, zq_gochk] 50 rfl (by decide +kernel) ?_
      show zq_G _ _ _ _ _ 50 ([(0, .ref 32), (1, .int x), (2, .int (zrc (fun r => zac r gs vs R) (zac ((1 : Int32) <<< (x &&& 31)) gs vs R) 8)), (3, .int 8)], [.int 1], XH tx n (nI P, nI C, nI R, nI L, hs, ss, cs, gs, vs) dr rd (nI D, sm, nI N, nI K, ce, de, ke, se) i0 i1 kp dd tr m)
      exact zq_zret (by decide +kernel) rfl (Or.inr rfl) (zb_r (zb_t (Decidable.not_not.mp c42))) rfl
set_option maxHeartbeats 4000000 in
set_option maxRecDepth 100000 in
theorem c_get {Q : Nat} {k : Nat} (hQ : Q < 12) (hk : k < 5) : zq_P l mX0_get 1 [.ref 33, .int (nI k)] (XH tx n (nI P, nI C, nI R, nI L, hs, ss, cs, gs, vs) dr rd (nI D, sm, nI N, nI K, ce, de, ke, se) i0 i1 kp (nI Q) tr m) (some (.int (de (Q * 5 + k)))) (XH tx n (nI P, nI C, nI R, nI L, hs, ss, cs, gs, vs) dr rd (nI D, sm, nI N, nI K, ce, de, ke, se) i0 i1 kp (nI Q) tr m) := by
  refine zq_start (by decide +kernel) rfl (Nat.le_of_ble_eq_true rfl) ?_
  show zq_G _ _ _ _ _ 0 ([(0, .ref 33), (1, .int (nI k))], [], XH tx n (nI P, nI C, nI R, nI L, hs, ss, cs, gs, vs) dr rd (nI D, sm, nI N, nI K, ce, de, ke, se) i0 i1 kp (nI Q) tr m)
  refine zq_b [zq_al 0, zq_get 0 1, zq_al 0, zq_get 0 2, zq_il 1] [zq_alchk 0, zq_getchk 0 1, zq_alchk 0, zq_getchk 0 2, zq_ilchk 1] 9 rfl (by decide +kernel) ?_
  show zq_G _ _ _ _ _ 9 ([(0, .ref 33), (1, .int (nI k))], [.int (nI k), .int (nI Q), .ref 15], XH tx n (nI P, nI C, nI R, nI L, hs, ss, cs, gs, vs) dr rd (nI D, sm, nI N, nI K, ce, de, ke, se) i0 i1 kp (nI Q) tr m)
  refine zq_callV (av := [.int (nI Q), .int (nI k)]) (rest := []) (by decide +kernel) k0_21 (c_ofDeed (i := Q) (k := k) (by omega) (by omega)) rfl rfl rfl rfl ?_
  show zq_G _ _ _ _ _ 12 ([(0, .ref 33), (1, .int (nI k))], [.int (de (Q * 5 + k))], XH tx n (nI P, nI C, nI R, nI L, hs, ss, cs, gs, vs) dr rd (nI D, sm, nI N, nI K, ce, de, ke, se) i0 i1 kp (nI Q) tr m)
  exact zq_iret (by decide +kernel) rfl rfl rfl
set_option maxHeartbeats 4000000 in
set_option maxRecDepth 100000 in
theorem c_plain_35 {Q : Nat} (hQ : Q < 12) : zq_P l mX6_worth 2 [.ref 35, .ref 33] (XH tx n (nI P, nI C, nI R, nI L, hs, ss, cs, gs, vs) dr rd (nI D, sm, nI N, nI K, ce, de, ke, se) i0 i1 kp (nI Q) tr m) (some (.int (de (Q * 5 + 2)))) (XH tx n (nI P, nI C, nI R, nI L, hs, ss, cs, gs, vs) dr rd (nI D, sm, nI N, nI K, ce, de, ke, se) i0 i1 kp (nI Q) (tr + 1) m) := by
  refine zq_start (by decide +kernel) rfl (Nat.le_of_ble_eq_true rfl) ?_
  show zq_G _ _ _ _ _ 0 ([(0, .ref 35), (1, .ref 33)], [], XH tx n (nI P, nI C, nI R, nI L, hs, ss, cs, gs, vs) dr rd (nI D, sm, nI N, nI K, ce, de, ke, se) i0 i1 kp (nI Q) tr m)
  refine zq_b [zq_al 1, zq_dup, zq_get 0 3, zq_kj 1, zq_ladd (tr + 1), zq_putj 0 3, zq_al 1, zq_k 2] [zq_alchk 1, zq_is .dup 1, zq_getchk 0 3, zq_klchk 1, zq_is .ladd 1, zq_putchk 0 3 .long, zq_alchk 1, zq_kchk 2] 12 rfl (by decide +kernel) ?_
  refine ⟨rfl, ?_⟩
  show zq_G _ _ _ _ _ 12 ([(0, .ref 35), (1, .ref 33)], [.int 2, .ref 33], XH tx n (nI P, nI C, nI R, nI L, hs, ss, cs, gs, vs) dr rd (nI D, sm, nI N, nI K, ce, de, ke, se) i0 i1 kp (nI Q) (tr + 1) m)
  refine zq_callV (av := [.int 2]) (rest := []) (by decide +kernel) k6_15 (c_get (Q := Q) (k := 2) (by omega) (by omega)) rfl rfl rfl rfl ?_
  show zq_G _ _ _ _ _ 15 ([(0, .ref 35), (1, .ref 33)], [.int (de (Q * 5 + 2))], XH tx n (nI P, nI C, nI R, nI L, hs, ss, cs, gs, vs) dr rd (nI D, sm, nI N, nI K, ce, de, ke, se) i0 i1 kp (nI Q) (tr + 1) m)
  exact zq_iret (by decide +kernel) rfl rfl rfl
set_option maxHeartbeats 4000000 in
set_option maxRecDepth 100000 in
theorem c_plain_36 {Q : Nat} (hQ : Q < 12) : zq_P l mX6_worth 2 [.ref 36, .ref 33] (XH tx n (nI P, nI C, nI R, nI L, hs, ss, cs, gs, vs) dr rd (nI D, sm, nI N, nI K, ce, de, ke, se) i0 i1 kp (nI Q) tr m) (some (.int (de (Q * 5 + 2)))) (XH tx n (nI P, nI C, nI R, nI L, hs, ss, cs, gs, vs) dr rd (nI D, sm, nI N, nI K, ce, de, ke, se) i0 i1 kp (nI Q) (tr + 1) m) := by
  refine zq_start (by decide +kernel) rfl (Nat.le_of_ble_eq_true rfl) ?_
  show zq_G _ _ _ _ _ 0 ([(0, .ref 36), (1, .ref 33)], [], XH tx n (nI P, nI C, nI R, nI L, hs, ss, cs, gs, vs) dr rd (nI D, sm, nI N, nI K, ce, de, ke, se) i0 i1 kp (nI Q) tr m)
  refine zq_b [zq_al 1, zq_dup, zq_get 0 3, zq_kj 1, zq_ladd (tr + 1), zq_putj 0 3, zq_al 1, zq_k 2] [zq_alchk 1, zq_is .dup 1, zq_getchk 0 3, zq_klchk 1, zq_is .ladd 1, zq_putchk 0 3 .long, zq_alchk 1, zq_kchk 2] 12 rfl (by decide +kernel) ?_
  refine ⟨rfl, ?_⟩
  show zq_G _ _ _ _ _ 12 ([(0, .ref 36), (1, .ref 33)], [.int 2, .ref 33], XH tx n (nI P, nI C, nI R, nI L, hs, ss, cs, gs, vs) dr rd (nI D, sm, nI N, nI K, ce, de, ke, se) i0 i1 kp (nI Q) (tr + 1) m)
  refine zq_callV (av := [.int 2]) (rest := []) (by decide +kernel) k6_15 (c_get (Q := Q) (k := 2) (by omega) (by omega)) rfl rfl rfl rfl ?_
  show zq_G _ _ _ _ _ 15 ([(0, .ref 36), (1, .ref 33)], [.int (de (Q * 5 + 2))], XH tx n (nI P, nI C, nI R, nI L, hs, ss, cs, gs, vs) dr rd (nI D, sm, nI N, nI K, ce, de, ke, se) i0 i1 kp (nI Q) (tr + 1) m)
  exact zq_iret (by decide +kernel) rfl rfl rfl
set_option maxHeartbeats 4000000 in
set_option maxRecDepth 100000 in
theorem c_plain_37 {Q : Nat} (hQ : Q < 12) : zq_P l mX6_worth 2 [.ref 37, .ref 33] (XH tx n (nI P, nI C, nI R, nI L, hs, ss, cs, gs, vs) dr rd (nI D, sm, nI N, nI K, ce, de, ke, se) i0 i1 kp (nI Q) tr m) (some (.int (de (Q * 5 + 2)))) (XH tx n (nI P, nI C, nI R, nI L, hs, ss, cs, gs, vs) dr rd (nI D, sm, nI N, nI K, ce, de, ke, se) i0 i1 kp (nI Q) (tr + 1) m) := by
  refine zq_start (by decide +kernel) rfl (Nat.le_of_ble_eq_true rfl) ?_
  show zq_G _ _ _ _ _ 0 ([(0, .ref 37), (1, .ref 33)], [], XH tx n (nI P, nI C, nI R, nI L, hs, ss, cs, gs, vs) dr rd (nI D, sm, nI N, nI K, ce, de, ke, se) i0 i1 kp (nI Q) tr m)
  refine zq_b [zq_al 1, zq_dup, zq_get 0 3, zq_kj 1, zq_ladd (tr + 1), zq_putj 0 3, zq_al 1, zq_k 2] [zq_alchk 1, zq_is .dup 1, zq_getchk 0 3, zq_klchk 1, zq_is .ladd 1, zq_putchk 0 3 .long, zq_alchk 1, zq_kchk 2] 12 rfl (by decide +kernel) ?_
  refine ⟨rfl, ?_⟩
  show zq_G _ _ _ _ _ 12 ([(0, .ref 37), (1, .ref 33)], [.int 2, .ref 33], XH tx n (nI P, nI C, nI R, nI L, hs, ss, cs, gs, vs) dr rd (nI D, sm, nI N, nI K, ce, de, ke, se) i0 i1 kp (nI Q) (tr + 1) m)
  refine zq_callV (av := [.int 2]) (rest := []) (by decide +kernel) k6_15 (c_get (Q := Q) (k := 2) (by omega) (by omega)) rfl rfl rfl rfl ?_
  show zq_G _ _ _ _ _ 15 ([(0, .ref 37), (1, .ref 33)], [.int (de (Q * 5 + 2))], XH tx n (nI P, nI C, nI R, nI L, hs, ss, cs, gs, vs) dr rd (nI D, sm, nI N, nI K, ce, de, ke, se) i0 i1 kp (nI Q) (tr + 1) m)
  exact zq_iret (by decide +kernel) rfl rfl rfl
set_option maxHeartbeats 4000000 in
set_option maxRecDepth 100000 in
theorem c_plain_38 {Q : Nat} (hQ : Q < 12) : zq_P l mX6_worth 2 [.ref 38, .ref 33] (XH tx n (nI P, nI C, nI R, nI L, hs, ss, cs, gs, vs) dr rd (nI D, sm, nI N, nI K, ce, de, ke, se) i0 i1 kp (nI Q) tr m) (some (.int (de (Q * 5 + 2)))) (XH tx n (nI P, nI C, nI R, nI L, hs, ss, cs, gs, vs) dr rd (nI D, sm, nI N, nI K, ce, de, ke, se) i0 i1 kp (nI Q) (tr + 1) m) := by
  refine zq_start (by decide +kernel) rfl (Nat.le_of_ble_eq_true rfl) ?_
  show zq_G _ _ _ _ _ 0 ([(0, .ref 38), (1, .ref 33)], [], XH tx n (nI P, nI C, nI R, nI L, hs, ss, cs, gs, vs) dr rd (nI D, sm, nI N, nI K, ce, de, ke, se) i0 i1 kp (nI Q) tr m)
  refine zq_b [zq_al 1, zq_dup, zq_get 0 3, zq_kj 1, zq_ladd (tr + 1), zq_putj 0 3, zq_al 1, zq_k 2] [zq_alchk 1, zq_is .dup 1, zq_getchk 0 3, zq_klchk 1, zq_is .ladd 1, zq_putchk 0 3 .long, zq_alchk 1, zq_kchk 2] 12 rfl (by decide +kernel) ?_
  refine ⟨rfl, ?_⟩
  show zq_G _ _ _ _ _ 12 ([(0, .ref 38), (1, .ref 33)], [.int 2, .ref 33], XH tx n (nI P, nI C, nI R, nI L, hs, ss, cs, gs, vs) dr rd (nI D, sm, nI N, nI K, ce, de, ke, se) i0 i1 kp (nI Q) (tr + 1) m)
  refine zq_callV (av := [.int 2]) (rest := []) (by decide +kernel) k6_15 (c_get (Q := Q) (k := 2) (by omega) (by omega)) rfl rfl rfl rfl ?_
  show zq_G _ _ _ _ _ 15 ([(0, .ref 38), (1, .ref 33)], [.int (de (Q * 5 + 2))], XH tx n (nI P, nI C, nI R, nI L, hs, ss, cs, gs, vs) dr rd (nI D, sm, nI N, nI K, ce, de, ke, se) i0 i1 kp (nI Q) (tr + 1) m)
  exact zq_iret (by decide +kernel) rfl rfl rfl
set_option maxHeartbeats 4000000 in
set_option maxRecDepth 100000 in
theorem c_plain_39 {Q : Nat} (hQ : Q < 12) : zq_P l mX6_worth 2 [.ref 39, .ref 33] (XH tx n (nI P, nI C, nI R, nI L, hs, ss, cs, gs, vs) dr rd (nI D, sm, nI N, nI K, ce, de, ke, se) i0 i1 kp (nI Q) tr m) (some (.int (de (Q * 5 + 2)))) (XH tx n (nI P, nI C, nI R, nI L, hs, ss, cs, gs, vs) dr rd (nI D, sm, nI N, nI K, ce, de, ke, se) i0 i1 kp (nI Q) (tr + 1) m) := by
  refine zq_start (by decide +kernel) rfl (Nat.le_of_ble_eq_true rfl) ?_
  show zq_G _ _ _ _ _ 0 ([(0, .ref 39), (1, .ref 33)], [], XH tx n (nI P, nI C, nI R, nI L, hs, ss, cs, gs, vs) dr rd (nI D, sm, nI N, nI K, ce, de, ke, se) i0 i1 kp (nI Q) tr m)
  refine zq_b [zq_al 1, zq_dup, zq_get 0 3, zq_kj 1, zq_ladd (tr + 1), zq_putj 0 3, zq_al 1, zq_k 2] [zq_alchk 1, zq_is .dup 1, zq_getchk 0 3, zq_klchk 1, zq_is .ladd 1, zq_putchk 0 3 .long, zq_alchk 1, zq_kchk 2] 12 rfl (by decide +kernel) ?_
  refine ⟨rfl, ?_⟩
  show zq_G _ _ _ _ _ 12 ([(0, .ref 39), (1, .ref 33)], [.int 2, .ref 33], XH tx n (nI P, nI C, nI R, nI L, hs, ss, cs, gs, vs) dr rd (nI D, sm, nI N, nI K, ce, de, ke, se) i0 i1 kp (nI Q) (tr + 1) m)
  refine zq_callV (av := [.int 2]) (rest := []) (by decide +kernel) k6_15 (c_get (Q := Q) (k := 2) (by omega) (by omega)) rfl rfl rfl rfl ?_
  show zq_G _ _ _ _ _ 15 ([(0, .ref 39), (1, .ref 33)], [.int (de (Q * 5 + 2))], XH tx n (nI P, nI C, nI R, nI L, hs, ss, cs, gs, vs) dr rd (nI D, sm, nI N, nI K, ce, de, ke, se) i0 i1 kp (nI Q) (tr + 1) m)
  exact zq_iret (by decide +kernel) rfl rfl rfl
set_option maxHeartbeats 4000000 in
set_option maxRecDepth 100000 in
theorem c_plain_40 {Q : Nat} (hQ : Q < 12) : zq_P l mX6_worth 2 [.ref 40, .ref 33] (XH tx n (nI P, nI C, nI R, nI L, hs, ss, cs, gs, vs) dr rd (nI D, sm, nI N, nI K, ce, de, ke, se) i0 i1 kp (nI Q) tr m) (some (.int (de (Q * 5 + 2)))) (XH tx n (nI P, nI C, nI R, nI L, hs, ss, cs, gs, vs) dr rd (nI D, sm, nI N, nI K, ce, de, ke, se) i0 i1 kp (nI Q) (tr + 1) m) := by
  refine zq_start (by decide +kernel) rfl (Nat.le_of_ble_eq_true rfl) ?_
  show zq_G _ _ _ _ _ 0 ([(0, .ref 40), (1, .ref 33)], [], XH tx n (nI P, nI C, nI R, nI L, hs, ss, cs, gs, vs) dr rd (nI D, sm, nI N, nI K, ce, de, ke, se) i0 i1 kp (nI Q) tr m)
  refine zq_b [zq_al 1, zq_dup, zq_get 0 3, zq_kj 1, zq_ladd (tr + 1), zq_putj 0 3, zq_al 1, zq_k 2] [zq_alchk 1, zq_is .dup 1, zq_getchk 0 3, zq_klchk 1, zq_is .ladd 1, zq_putchk 0 3 .long, zq_alchk 1, zq_kchk 2] 12 rfl (by decide +kernel) ?_
  refine ⟨rfl, ?_⟩
  show zq_G _ _ _ _ _ 12 ([(0, .ref 40), (1, .ref 33)], [.int 2, .ref 33], XH tx n (nI P, nI C, nI R, nI L, hs, ss, cs, gs, vs) dr rd (nI D, sm, nI N, nI K, ce, de, ke, se) i0 i1 kp (nI Q) (tr + 1) m)
  refine zq_callV (av := [.int 2]) (rest := []) (by decide +kernel) k6_15 (c_get (Q := Q) (k := 2) (by omega) (by omega)) rfl rfl rfl rfl ?_
  show zq_G _ _ _ _ _ 15 ([(0, .ref 40), (1, .ref 33)], [.int (de (Q * 5 + 2))], XH tx n (nI P, nI C, nI R, nI L, hs, ss, cs, gs, vs) dr rd (nI D, sm, nI N, nI K, ce, de, ke, se) i0 i1 kp (nI Q) (tr + 1) m)
  exact zq_iret (by decide +kernel) rfl rfl rfl
set_option maxHeartbeats 4000000 in
set_option maxRecDepth 100000 in
theorem c_posed_36 {Q : Nat} {wq : Nat} (hQ : Q < 12) (hw0 : de (Q * 5 + 0) = nI wq) (hw6 : wq < 6) : zq_P l mX7_worth 3 [.ref 36, .ref 33] (XH tx n (nI P, nI C, nI R, nI L, hs, ss, cs, gs, vs) dr rd (nI D, sm, nI N, nI K, ce, de, ke, se) i0 i1 kp (nI Q) tr m) (some (.int (de (Q * 5 + 2) + hs wq))) (XH tx n (nI P, nI C, nI R, nI L, hs, ss, cs, gs, vs) dr rd (nI D, sm, nI N, nI K, ce, de, ke, se) i0 i1 kp (nI Q) ((tr + 10) + 1) m) := by
  refine zq_start (by decide +kernel) rfl (Nat.le_of_ble_eq_true rfl) ?_
  show zq_G _ _ _ _ _ 0 ([(0, .ref 36), (1, .ref 33)], [], XH tx n (nI P, nI C, nI R, nI L, hs, ss, cs, gs, vs) dr rd (nI D, sm, nI N, nI K, ce, de, ke, se) i0 i1 kp (nI Q) tr m)
  refine zq_b [zq_al 1, zq_dup, zq_get 0 3, zq_kj 10, zq_ladd (tr + 10), zq_putj 0 3, zq_al 0, zq_al 1] [zq_alchk 1, zq_is .dup 1, zq_getchk 0 3, zq_klchk 10, zq_is .ladd 1, zq_putchk 0 3 .long, zq_alchk 0, zq_alchk 1] 14 rfl (by decide +kernel) ?_
  refine ⟨rfl, ?_⟩
  show zq_G _ _ _ _ _ 14 ([(0, .ref 36), (1, .ref 33)], [.ref 33, .ref 36], XH tx n (nI P, nI C, nI R, nI L, hs, ss, cs, gs, vs) dr rd (nI D, sm, nI N, nI K, ce, de, ke, se) i0 i1 kp (nI Q) (tr + 10) m)
  refine zq_callU (av := [.ref 33]) (rest := []) (by decide +kernel) k7_17 (c_plain_36 (Q := Q) (by omega)) rfl rfl rfl (by decide) ?_
  show zq_G _ _ _ _ _ 17 ([(0, .ref 36), (1, .ref 33)], [.int (de (Q * 5 + 2))], XH tx n (nI P, nI C, nI R, nI L, hs, ss, cs, gs, vs) dr rd (nI D, sm, nI N, nI K, ce, de, ke, se) i0 i1 kp (nI Q) ((tr + 10) + 1) m)
  refine zq_b [zq_al 1, zq_get 0 0, zq_get 9 4, zq_al 1, zq_k 0] [zq_alchk 1, zq_getchk 0 0, zq_getchk 9 4, zq_alchk 1, zq_kchk 0] 26 rfl (by decide +kernel) ?_
  show zq_G _ _ _ _ _ 26 ([(0, .ref 36), (1, .ref 33)], [.int 0, .ref 33, .ref 3, .int (de (Q * 5 + 2))], XH tx n (nI P, nI C, nI R, nI L, hs, ss, cs, gs, vs) dr rd (nI D, sm, nI N, nI K, ce, de, ke, se) i0 i1 kp (nI Q) ((tr + 10) + 1) m)
  refine zq_callV (av := [.int 0]) (rest := [.ref 3, .int (de (Q * 5 + 2))]) (by decide +kernel) k7_31 (c_get (Q := Q) (k := 0) (by omega) (by omega)) rfl rfl rfl rfl ?_
  show zq_G _ _ _ _ _ 29 ([(0, .ref 36), (1, .ref 33)], [.int (de (Q * 5 + 0)), .ref 3, .int (de (Q * 5 + 2))], XH tx n (nI P, nI C, nI R, nI L, hs, ss, cs, gs, vs) dr rd (nI D, sm, nI N, nI K, ce, de, ke, se) i0 i1 kp (nI Q) ((tr + 10) + 1) m)
  refine zq_eq (σ2 := ([(0, .ref 36), (1, .ref 33)], [.int (nI wq), .ref 3, .int (de (Q * 5 + 2))], XH tx n (nI P, nI C, nI R, nI L, hs, ss, cs, gs, vs) dr rd (nI D, sm, nI N, nI K, ce, de, ke, se) i0 i1 kp (nI Q) ((tr + 10) + 1) m)) (by rw [hw0]) ?_
  refine zq_b [zq_iald wq (hs wq), zq_iadd ((de (Q * 5 + 2)) + (hs wq))] [zq_is .iaload 1, zq_is .iadd 1] 31 rfl (by decide +kernel) ?_
  refine ⟨rfl, (by omega), (by omega), rfl, rfl, ?_⟩
  show zq_G _ _ _ _ _ 31 ([(0, .ref 36), (1, .ref 33)], [.int ((de (Q * 5 + 2)) + (hs wq))], XH tx n (nI P, nI C, nI R, nI L, hs, ss, cs, gs, vs) dr rd (nI D, sm, nI N, nI K, ce, de, ke, se) i0 i1 kp (nI Q) ((tr + 10) + 1) m)
  exact zq_iret (by decide +kernel) rfl rfl rfl
set_option maxHeartbeats 4000000 in
set_option maxRecDepth 100000 in
theorem c_posed_38 {Q : Nat} {wq : Nat} (hQ : Q < 12) (hw0 : de (Q * 5 + 0) = nI wq) (hw6 : wq < 6) : zq_P l mX7_worth 3 [.ref 38, .ref 33] (XH tx n (nI P, nI C, nI R, nI L, hs, ss, cs, gs, vs) dr rd (nI D, sm, nI N, nI K, ce, de, ke, se) i0 i1 kp (nI Q) tr m) (some (.int (de (Q * 5 + 2) + hs wq))) (XH tx n (nI P, nI C, nI R, nI L, hs, ss, cs, gs, vs) dr rd (nI D, sm, nI N, nI K, ce, de, ke, se) i0 i1 kp (nI Q) ((tr + 10) + 1) m) := by
  refine zq_start (by decide +kernel) rfl (Nat.le_of_ble_eq_true rfl) ?_
  show zq_G _ _ _ _ _ 0 ([(0, .ref 38), (1, .ref 33)], [], XH tx n (nI P, nI C, nI R, nI L, hs, ss, cs, gs, vs) dr rd (nI D, sm, nI N, nI K, ce, de, ke, se) i0 i1 kp (nI Q) tr m)
  refine zq_b [zq_al 1, zq_dup, zq_get 0 3, zq_kj 10, zq_ladd (tr + 10), zq_putj 0 3, zq_al 0, zq_al 1] [zq_alchk 1, zq_is .dup 1, zq_getchk 0 3, zq_klchk 10, zq_is .ladd 1, zq_putchk 0 3 .long, zq_alchk 0, zq_alchk 1] 14 rfl (by decide +kernel) ?_
  refine ⟨rfl, ?_⟩
  show zq_G _ _ _ _ _ 14 ([(0, .ref 38), (1, .ref 33)], [.ref 33, .ref 38], XH tx n (nI P, nI C, nI R, nI L, hs, ss, cs, gs, vs) dr rd (nI D, sm, nI N, nI K, ce, de, ke, se) i0 i1 kp (nI Q) (tr + 10) m)
  refine zq_callU (av := [.ref 33]) (rest := []) (by decide +kernel) k7_17 (c_plain_38 (Q := Q) (by omega)) rfl rfl rfl (by decide) ?_
  show zq_G _ _ _ _ _ 17 ([(0, .ref 38), (1, .ref 33)], [.int (de (Q * 5 + 2))], XH tx n (nI P, nI C, nI R, nI L, hs, ss, cs, gs, vs) dr rd (nI D, sm, nI N, nI K, ce, de, ke, se) i0 i1 kp (nI Q) ((tr + 10) + 1) m)
  refine zq_b [zq_al 1, zq_get 0 0, zq_get 9 4, zq_al 1, zq_k 0] [zq_alchk 1, zq_getchk 0 0, zq_getchk 9 4, zq_alchk 1, zq_kchk 0] 26 rfl (by decide +kernel) ?_
  show zq_G _ _ _ _ _ 26 ([(0, .ref 38), (1, .ref 33)], [.int 0, .ref 33, .ref 3, .int (de (Q * 5 + 2))], XH tx n (nI P, nI C, nI R, nI L, hs, ss, cs, gs, vs) dr rd (nI D, sm, nI N, nI K, ce, de, ke, se) i0 i1 kp (nI Q) ((tr + 10) + 1) m)
  refine zq_callV (av := [.int 0]) (rest := [.ref 3, .int (de (Q * 5 + 2))]) (by decide +kernel) k7_31 (c_get (Q := Q) (k := 0) (by omega) (by omega)) rfl rfl rfl rfl ?_
  show zq_G _ _ _ _ _ 29 ([(0, .ref 38), (1, .ref 33)], [.int (de (Q * 5 + 0)), .ref 3, .int (de (Q * 5 + 2))], XH tx n (nI P, nI C, nI R, nI L, hs, ss, cs, gs, vs) dr rd (nI D, sm, nI N, nI K, ce, de, ke, se) i0 i1 kp (nI Q) ((tr + 10) + 1) m)
  refine zq_eq (σ2 := ([(0, .ref 38), (1, .ref 33)], [.int (nI wq), .ref 3, .int (de (Q * 5 + 2))], XH tx n (nI P, nI C, nI R, nI L, hs, ss, cs, gs, vs) dr rd (nI D, sm, nI N, nI K, ce, de, ke, se) i0 i1 kp (nI Q) ((tr + 10) + 1) m)) (by rw [hw0]) ?_
  refine zq_b [zq_iald wq (hs wq), zq_iadd ((de (Q * 5 + 2)) + (hs wq))] [zq_is .iaload 1, zq_is .iadd 1] 31 rfl (by decide +kernel) ?_
  refine ⟨rfl, (by omega), (by omega), rfl, rfl, ?_⟩
  show zq_G _ _ _ _ _ 31 ([(0, .ref 38), (1, .ref 33)], [.int ((de (Q * 5 + 2)) + (hs wq))], XH tx n (nI P, nI C, nI R, nI L, hs, ss, cs, gs, vs) dr rd (nI D, sm, nI N, nI K, ce, de, ke, se) i0 i1 kp (nI Q) ((tr + 10) + 1) m)
  exact zq_iret (by decide +kernel) rfl rfl rfl
set_option maxHeartbeats 4000000 in
set_option maxRecDepth 100000 in
theorem c_hidden_37 {Q : Nat} (hQ : Q < 12) : zq_P l mX3_worth 3 [.ref 37, .ref 33] (XH tx n (nI P, nI C, nI R, nI L, hs, ss, cs, gs, vs) dr rd (nI D, sm, nI N, nI K, ce, de, ke, se) i0 i1 kp (nI Q) tr m) (some (.int (de (Q * 5 + 2) - de (Q * 5 + 3) / 5))) (XH tx n (nI P, nI C, nI R, nI L, hs, ss, cs, gs, vs) dr rd (nI D, sm, nI N, nI K, ce, de, ke, se) i0 i1 kp (nI Q) ((tr + 100) + 1) m) := by
  refine zq_start (by decide +kernel) rfl (Nat.le_of_ble_eq_true rfl) ?_
  show zq_G _ _ _ _ _ 0 ([(0, .ref 37), (1, .ref 33)], [], XH tx n (nI P, nI C, nI R, nI L, hs, ss, cs, gs, vs) dr rd (nI D, sm, nI N, nI K, ce, de, ke, se) i0 i1 kp (nI Q) tr m)
  refine zq_b [zq_al 1, zq_dup, zq_get 0 3, zq_kj 100, zq_ladd (tr + 100), zq_putj 0 3, zq_al 0, zq_al 1] [zq_alchk 1, zq_is .dup 1, zq_getchk 0 3, zq_klchk 100, zq_is .ladd 1, zq_putchk 0 3 .long, zq_alchk 0, zq_alchk 1] 14 rfl (by decide +kernel) ?_
  refine ⟨rfl, ?_⟩
  show zq_G _ _ _ _ _ 14 ([(0, .ref 37), (1, .ref 33)], [.ref 33, .ref 37], XH tx n (nI P, nI C, nI R, nI L, hs, ss, cs, gs, vs) dr rd (nI D, sm, nI N, nI K, ce, de, ke, se) i0 i1 kp (nI Q) (tr + 100) m)
  refine zq_callU (av := [.ref 33]) (rest := []) (by decide +kernel) k3_17 (c_plain_37 (Q := Q) (by omega)) rfl rfl rfl (by decide) ?_
  show zq_G _ _ _ _ _ 17 ([(0, .ref 37), (1, .ref 33)], [.int (de (Q * 5 + 2))], XH tx n (nI P, nI C, nI R, nI L, hs, ss, cs, gs, vs) dr rd (nI D, sm, nI N, nI K, ce, de, ke, se) i0 i1 kp (nI Q) ((tr + 100) + 1) m)
  refine zq_b [zq_al 1, zq_k 3] [zq_alchk 1, zq_kchk 3] 19 rfl (by decide +kernel) ?_
  show zq_G _ _ _ _ _ 19 ([(0, .ref 37), (1, .ref 33)], [.int 3, .ref 33, .int (de (Q * 5 + 2))], XH tx n (nI P, nI C, nI R, nI L, hs, ss, cs, gs, vs) dr rd (nI D, sm, nI N, nI K, ce, de, ke, se) i0 i1 kp (nI Q) ((tr + 100) + 1) m)
  refine zq_callV (av := [.int 3]) (rest := [.int (de (Q * 5 + 2))]) (by decide +kernel) k3_21 (c_get (Q := Q) (k := 3) (by omega) (by omega)) rfl rfl rfl rfl ?_
  show zq_G _ _ _ _ _ 22 ([(0, .ref 37), (1, .ref 33)], [.int (de (Q * 5 + 3)), .int (de (Q * 5 + 2))], XH tx n (nI P, nI C, nI R, nI L, hs, ss, cs, gs, vs) dr rd (nI D, sm, nI N, nI K, ce, de, ke, se) i0 i1 kp (nI Q) ((tr + 100) + 1) m)
  refine zq_b [zq_k 5, zq_idiv ((de (Q * 5 + 3)) / 5), zq_isub ((de (Q * 5 + 2)) - ((de (Q * 5 + 3)) / 5))] [zq_kchk 5, zq_is .idiv 1, zq_is .isub 1] 25 rfl (by decide +kernel) ?_
  refine ⟨(by decide), rfl, rfl, ?_⟩
  show zq_G _ _ _ _ _ 25 ([(0, .ref 37), (1, .ref 33)], [.int ((de (Q * 5 + 2)) - ((de (Q * 5 + 3)) / 5))], XH tx n (nI P, nI C, nI R, nI L, hs, ss, cs, gs, vs) dr rd (nI D, sm, nI N, nI K, ce, de, ke, se) i0 i1 kp (nI Q) ((tr + 100) + 1) m)
  exact zq_iret (by decide +kernel) rfl rfl rfl
set_option maxHeartbeats 4000000 in
set_option maxRecDepth 100000 in
theorem c_hidden_39 {Q : Nat} (hQ : Q < 12) : zq_P l mX3_worth 3 [.ref 39, .ref 33] (XH tx n (nI P, nI C, nI R, nI L, hs, ss, cs, gs, vs) dr rd (nI D, sm, nI N, nI K, ce, de, ke, se) i0 i1 kp (nI Q) tr m) (some (.int (de (Q * 5 + 2) - de (Q * 5 + 3) / 5))) (XH tx n (nI P, nI C, nI R, nI L, hs, ss, cs, gs, vs) dr rd (nI D, sm, nI N, nI K, ce, de, ke, se) i0 i1 kp (nI Q) ((tr + 100) + 1) m) := by
  refine zq_start (by decide +kernel) rfl (Nat.le_of_ble_eq_true rfl) ?_
  show zq_G _ _ _ _ _ 0 ([(0, .ref 39), (1, .ref 33)], [], XH tx n (nI P, nI C, nI R, nI L, hs, ss, cs, gs, vs) dr rd (nI D, sm, nI N, nI K, ce, de, ke, se) i0 i1 kp (nI Q) tr m)
  refine zq_b [zq_al 1, zq_dup, zq_get 0 3, zq_kj 100, zq_ladd (tr + 100), zq_putj 0 3, zq_al 0, zq_al 1] [zq_alchk 1, zq_is .dup 1, zq_getchk 0 3, zq_klchk 100, zq_is .ladd 1, zq_putchk 0 3 .long, zq_alchk 0, zq_alchk 1] 14 rfl (by decide +kernel) ?_
  refine ⟨rfl, ?_⟩
  show zq_G _ _ _ _ _ 14 ([(0, .ref 39), (1, .ref 33)], [.ref 33, .ref 39], XH tx n (nI P, nI C, nI R, nI L, hs, ss, cs, gs, vs) dr rd (nI D, sm, nI N, nI K, ce, de, ke, se) i0 i1 kp (nI Q) (tr + 100) m)
  refine zq_callU (av := [.ref 33]) (rest := []) (by decide +kernel) k3_17 (c_plain_39 (Q := Q) (by omega)) rfl rfl rfl (by decide) ?_
  show zq_G _ _ _ _ _ 17 ([(0, .ref 39), (1, .ref 33)], [.int (de (Q * 5 + 2))], XH tx n (nI P, nI C, nI R, nI L, hs, ss, cs, gs, vs) dr rd (nI D, sm, nI N, nI K, ce, de, ke, se) i0 i1 kp (nI Q) ((tr + 100) + 1) m)
  refine zq_b [zq_al 1, zq_k 3] [zq_alchk 1, zq_kchk 3] 19 rfl (by decide +kernel) ?_
  show zq_G _ _ _ _ _ 19 ([(0, .ref 39), (1, .ref 33)], [.int 3, .ref 33, .int (de (Q * 5 + 2))], XH tx n (nI P, nI C, nI R, nI L, hs, ss, cs, gs, vs) dr rd (nI D, sm, nI N, nI K, ce, de, ke, se) i0 i1 kp (nI Q) ((tr + 100) + 1) m)
  refine zq_callV (av := [.int 3]) (rest := [.int (de (Q * 5 + 2))]) (by decide +kernel) k3_21 (c_get (Q := Q) (k := 3) (by omega) (by omega)) rfl rfl rfl rfl ?_
  show zq_G _ _ _ _ _ 22 ([(0, .ref 39), (1, .ref 33)], [.int (de (Q * 5 + 3)), .int (de (Q * 5 + 2))], XH tx n (nI P, nI C, nI R, nI L, hs, ss, cs, gs, vs) dr rd (nI D, sm, nI N, nI K, ce, de, ke, se) i0 i1 kp (nI Q) ((tr + 100) + 1) m)
  refine zq_b [zq_k 5, zq_idiv ((de (Q * 5 + 3)) / 5), zq_isub ((de (Q * 5 + 2)) - ((de (Q * 5 + 3)) / 5))] [zq_kchk 5, zq_is .idiv 1, zq_is .isub 1] 25 rfl (by decide +kernel) ?_
  refine ⟨(by decide), rfl, rfl, ?_⟩
  show zq_G _ _ _ _ _ 25 ([(0, .ref 39), (1, .ref 33)], [.int ((de (Q * 5 + 2)) - ((de (Q * 5 + 3)) / 5))], XH tx n (nI P, nI C, nI R, nI L, hs, ss, cs, gs, vs) dr rd (nI D, sm, nI N, nI K, ce, de, ke, se) i0 i1 kp (nI Q) ((tr + 100) + 1) m)
  exact zq_iret (by decide +kernel) rfl rfl rfl
set_option maxHeartbeats 4000000 in
set_option maxRecDepth 100000 in
theorem c_lawful_38 {Q : Nat} {wq : Nat} (hQ : Q < 12) (hw0 : de (Q * 5 + 0) = nI wq) (hw6 : wq < 6) : zq_P l mX4_worth 4 [.ref 38, .ref 33] (XH tx n (nI P, nI C, nI R, nI L, hs, ss, cs, gs, vs) dr rd (nI D, sm, nI N, nI K, ce, de, ke, se) i0 i1 kp (nI Q) tr m) (some (.int ((de (Q * 5 + 2) + hs wq) * 2))) (XH tx n (nI P, nI C, nI R, nI L, hs, ss, cs, gs, vs) dr rd (nI D, sm, nI N, nI K, ce, de, ke, se) i0 i1 kp (nI Q) (((tr + 1000) + 10) + 1) m) := by
  refine zq_start (by decide +kernel) rfl (Nat.le_of_ble_eq_true rfl) ?_
  show zq_G _ _ _ _ _ 0 ([(0, .ref 38), (1, .ref 33)], [], XH tx n (nI P, nI C, nI R, nI L, hs, ss, cs, gs, vs) dr rd (nI D, sm, nI N, nI K, ce, de, ke, se) i0 i1 kp (nI Q) tr m)
  refine zq_b [zq_al 1, zq_dup, zq_get 0 3, zq_kj 1000, zq_ladd (tr + 1000), zq_putj 0 3, zq_al 0, zq_al 1] [zq_alchk 1, zq_is .dup 1, zq_getchk 0 3, zq_klchk 1000, zq_is .ladd 1, zq_putchk 0 3 .long, zq_alchk 0, zq_alchk 1] 14 rfl (by decide +kernel) ?_
  refine ⟨rfl, ?_⟩
  show zq_G _ _ _ _ _ 14 ([(0, .ref 38), (1, .ref 33)], [.ref 33, .ref 38], XH tx n (nI P, nI C, nI R, nI L, hs, ss, cs, gs, vs) dr rd (nI D, sm, nI N, nI K, ce, de, ke, se) i0 i1 kp (nI Q) (tr + 1000) m)
  refine zq_callU (av := [.ref 33]) (rest := []) (by decide +kernel) k4_15 (c_posed_38 (Q := Q) (wq := wq) (by omega) hw0 hw6) rfl rfl rfl (by decide) ?_
  show zq_G _ _ _ _ _ 17 ([(0, .ref 38), (1, .ref 33)], [.int (de (Q * 5 + 2) + hs wq)], XH tx n (nI P, nI C, nI R, nI L, hs, ss, cs, gs, vs) dr rd (nI D, sm, nI N, nI K, ce, de, ke, se) i0 i1 kp (nI Q) (((tr + 1000) + 10) + 1) m)
  refine zq_b [zq_k 2, zq_imul ((de (Q * 5 + 2) + hs wq) * 2)] [zq_kchk 2, zq_is .imul 1] 19 rfl (by decide +kernel) ?_
  refine ⟨rfl, ?_⟩
  show zq_G _ _ _ _ _ 19 ([(0, .ref 38), (1, .ref 33)], [.int ((de (Q * 5 + 2) + hs wq) * 2)], XH tx n (nI P, nI C, nI R, nI L, hs, ss, cs, gs, vs) dr rd (nI D, sm, nI N, nI K, ce, de, ke, se) i0 i1 kp (nI Q) (((tr + 1000) + 10) + 1) m)
  exact zq_iret (by decide +kernel) rfl rfl rfl
set_option maxHeartbeats 4000000 in
set_option maxRecDepth 100000 in
theorem c_clouded_39 {Q : Nat} (hQ : Q < 12) : zq_P l mX2_worth 4 [.ref 39, .ref 33] (XH tx n (nI P, nI C, nI R, nI L, hs, ss, cs, gs, vs) dr rd (nI D, sm, nI N, nI K, ce, de, ke, se) i0 i1 kp (nI Q) tr m) (some (.int ((de (Q * 5 + 2) - de (Q * 5 + 3) / 5) + nI C))) (XH tx n (nI P, nI C, nI R, nI L, hs, ss, cs, gs, vs) dr rd (nI D, sm, nI N, nI K, ce, de, ke, se) i0 i1 kp (nI Q) (((tr + 10000) + 100) + 1) m) := by
  refine zq_start (by decide +kernel) rfl (Nat.le_of_ble_eq_true rfl) ?_
  show zq_G _ _ _ _ _ 0 ([(0, .ref 39), (1, .ref 33)], [], XH tx n (nI P, nI C, nI R, nI L, hs, ss, cs, gs, vs) dr rd (nI D, sm, nI N, nI K, ce, de, ke, se) i0 i1 kp (nI Q) tr m)
  refine zq_b [zq_al 1, zq_dup, zq_get 0 3, zq_kj 10000, zq_ladd (tr + 10000), zq_putj 0 3, zq_al 0, zq_al 1] [zq_alchk 1, zq_is .dup 1, zq_getchk 0 3, zq_klchk 10000, zq_is .ladd 1, zq_putchk 0 3 .long, zq_alchk 0, zq_alchk 1] 14 rfl (by decide +kernel) ?_
  refine ⟨rfl, ?_⟩
  show zq_G _ _ _ _ _ 14 ([(0, .ref 39), (1, .ref 33)], [.ref 33, .ref 39], XH tx n (nI P, nI C, nI R, nI L, hs, ss, cs, gs, vs) dr rd (nI D, sm, nI N, nI K, ce, de, ke, se) i0 i1 kp (nI Q) (tr + 10000) m)
  refine zq_callU (av := [.ref 33]) (rest := []) (by decide +kernel) k2_15 (c_hidden_39 (Q := Q) (by omega)) rfl rfl rfl (by decide) ?_
  show zq_G _ _ _ _ _ 17 ([(0, .ref 39), (1, .ref 33)], [.int (de (Q * 5 + 2) - de (Q * 5 + 3) / 5)], XH tx n (nI P, nI C, nI R, nI L, hs, ss, cs, gs, vs) dr rd (nI D, sm, nI N, nI K, ce, de, ke, se) i0 i1 kp (nI Q) (((tr + 10000) + 100) + 1) m)
  refine zq_b [zq_al 1, zq_get 0 0, zq_get 9 1, zq_iadd ((de (Q * 5 + 2) - de (Q * 5 + 3) / 5) + (nI C))] [zq_alchk 1, zq_getchk 0 0, zq_getchk 9 1, zq_is .iadd 1] 25 rfl (by decide +kernel) ?_
  refine ⟨rfl, ?_⟩
  show zq_G _ _ _ _ _ 25 ([(0, .ref 39), (1, .ref 33)], [.int ((de (Q * 5 + 2) - de (Q * 5 + 3) / 5) + (nI C))], XH tx n (nI P, nI C, nI R, nI L, hs, ss, cs, gs, vs) dr rd (nI D, sm, nI N, nI K, ce, de, ke, se) i0 i1 kp (nI Q) (((tr + 10000) + 100) + 1) m)
  exact zq_iret (by decide +kernel) rfl rfl rfl
set_option maxHeartbeats 4000000 in
set_option maxRecDepth 100000 in
theorem c_twice_40 {Q : Nat} (hQ : Q < 12) (hN : N ≤ 12) : zq_P l mX10_worth 3 [.ref 40, .ref 33] (XH tx n (nI P, nI C, nI R, nI L, hs, ss, cs, gs, vs) dr rd (nI D, sm, nI N, nI K, ce, de, ke, se) i0 i1 kp (nI Q) tr m) (some (.int (de (Q * 5 + 2) + nI (zct (fun i => decide (de (i * 5 + 1) = de (Q * 5 + 1))) N)))) (XH tx n (nI P, nI C, nI R, nI L, hs, ss, cs, gs, vs) dr rd (nI D, sm, nI N, nI K, ce, de, ke, se) i0 i1 kp (nI Q) ((tr + 100000) + 1) m) := by
  refine zq_start (by decide +kernel) rfl (Nat.le_of_ble_eq_true rfl) ?_
  show zq_G _ _ _ _ _ 0 ([(0, .ref 40), (1, .ref 33)], [], XH tx n (nI P, nI C, nI R, nI L, hs, ss, cs, gs, vs) dr rd (nI D, sm, nI N, nI K, ce, de, ke, se) i0 i1 kp (nI Q) tr m)
  refine zq_b [zq_al 1, zq_dup, zq_get 0 3, zq_kj 100000, zq_ladd (tr + 100000), zq_putj 0 3, zq_al 0, zq_al 1] [zq_alchk 1, zq_is .dup 1, zq_getchk 0 3, zq_klchk 100000, zq_is .ladd 1, zq_putchk 0 3 .long, zq_alchk 0, zq_alchk 1] 14 rfl (by decide +kernel) ?_
  refine ⟨rfl, ?_⟩
  show zq_G _ _ _ _ _ 14 ([(0, .ref 40), (1, .ref 33)], [.ref 33, .ref 40], XH tx n (nI P, nI C, nI R, nI L, hs, ss, cs, gs, vs) dr rd (nI D, sm, nI N, nI K, ce, de, ke, se) i0 i1 kp (nI Q) (tr + 100000) m)
  refine zq_callU (av := [.ref 33]) (rest := []) (by decide +kernel) k10_17 (c_plain_40 (Q := Q) (by omega)) rfl rfl rfl (by decide) ?_
  show zq_G _ _ _ _ _ 17 ([(0, .ref 40), (1, .ref 33)], [.int (de (Q * 5 + 2))], XH tx n (nI P, nI C, nI R, nI L, hs, ss, cs, gs, vs) dr rd (nI D, sm, nI N, nI K, ce, de, ke, se) i0 i1 kp (nI Q) ((tr + 100000) + 1) m)
  refine zq_b [zq_al 1, zq_get 0 1, zq_al 1, zq_k 1] [zq_alchk 1, zq_getchk 0 1, zq_alchk 1, zq_kchk 1] 23 rfl (by decide +kernel) ?_
  show zq_G _ _ _ _ _ 23 ([(0, .ref 40), (1, .ref 33)], [.int 1, .ref 33, .ref 15, .int (de (Q * 5 + 2))], XH tx n (nI P, nI C, nI R, nI L, hs, ss, cs, gs, vs) dr rd (nI D, sm, nI N, nI K, ce, de, ke, se) i0 i1 kp (nI Q) ((tr + 100000) + 1) m)
  refine zq_callV (av := [.int 1]) (rest := [.ref 15, .int (de (Q * 5 + 2))]) (by decide +kernel) k10_25 (c_get (Q := Q) (k := 1) (by omega) (by omega)) rfl rfl rfl rfl ?_
  show zq_G _ _ _ _ _ 26 ([(0, .ref 40), (1, .ref 33)], [.int (de (Q * 5 + 1)), .ref 15, .int (de (Q * 5 + 2))], XH tx n (nI P, nI C, nI R, nI L, hs, ss, cs, gs, vs) dr rd (nI D, sm, nI N, nI K, ce, de, ke, se) i0 i1 kp (nI Q) ((tr + 100000) + 1) m)
  refine zq_callV (av := [.int (de (Q * 5 + 1))]) (rest := [.int (de (Q * 5 + 2))]) (by decide +kernel) k10_29 (c_deedsOfAct (x := (de (Q * 5 + 1))) hN) rfl rfl rfl rfl ?_
  show zq_G _ _ _ _ _ 29 ([(0, .ref 40), (1, .ref 33)], [.int (nI (zct (fun i => decide (de (i * 5 + 1) = (de (Q * 5 + 1)))) N)), .int (de (Q * 5 + 2))], XH tx n (nI P, nI C, nI R, nI L, hs, ss, cs, gs, vs) dr rd (nI D, sm, nI N, nI K, ce, de, ke, se) i0 i1 kp (nI Q) ((tr + 100000) + 1) m)
  refine zq_b [zq_iadd ((de (Q * 5 + 2)) + (nI (zct (fun i => decide (de (i * 5 + 1) = (de (Q * 5 + 1)))) N)))] [zq_is .iadd 1] 30 rfl (by decide +kernel) ?_
  refine ⟨rfl, ?_⟩
  show zq_G _ _ _ _ _ 30 ([(0, .ref 40), (1, .ref 33)], [.int ((de (Q * 5 + 2)) + (nI (zct (fun i => decide (de (i * 5 + 1) = (de (Q * 5 + 1)))) N)))], XH tx n (nI P, nI C, nI R, nI L, hs, ss, cs, gs, vs) dr rd (nI D, sm, nI N, nI K, ce, de, ke, se) i0 i1 kp (nI Q) ((tr + 100000) + 1) m)
  exact zq_iret (by decide +kernel) rfl rfl rfl
end XV3
