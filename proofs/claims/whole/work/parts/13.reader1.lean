section XV6
variable {l : Launch} {tx : Nat → Int32} {n : Int32} {t dr : zT} {rd : zR} {w i0 i1 : zN} {kp : Nat → Int32} {dd : Int32} {tr : Int64} {m : Nat → zq_C} {h : zq_H}
variable {Z a s e : Nat} {bt : Nat → Nat} {lt rs rt rv : Int32}
set_option maxHeartbeats 4000000 in
set_option maxRecDepth 100000 in
theorem c_isLetter {v : Nat} (hv : v < 1000) : zq_P l mX8_isLetter 0 [.int (nI v)] (h) (some (.int (zb (97 ≤ v ∧ v ≤ 122)))) (h) := by
  refine zq_start (by decide +kernel) rfl (Nat.le_of_ble_eq_true rfl) ?_
  show zq_G _ _ _ _ _ 0 ([(0, .int (nI v))], [], h)
  refine zq_b [zq_il 0, zq_k 97] [zq_ilchk 0, zq_kchk 97] 3 rfl (by decide +kernel) ?_
  show zq_G _ _ _ _ _ 3 ([(0, .int (nI v))], [.int 97, .int (nI v)], h)
  refine zq_if .lt 16 (v < 97) (by decide +kernel) (zq_clt (a := v) (b := 97) (by omega) (by omega)) (fun c3 => ?_) (fun c3 => ?_)
  · show zq_G _ _ _ _ _ 16 ([(0, .int (nI v))], [], h)
    refine zq_b [zq_k 0] [zq_kchk 0] 17 rfl (by decide +kernel) ?_
    show zq_G _ _ _ _ _ 17 ([(0, .int (nI v))], [.int 0], h)
    exact zq_zret (by decide +kernel) rfl (Or.inl rfl) (zb_r (zb_f (by omega))) rfl
  · show zq_G _ _ _ _ _ 6 ([(0, .int (nI v))], [], h)
    refine zq_b [zq_il 0, zq_k 122] [zq_ilchk 0, zq_kchk 122] 9 rfl (by decide +kernel) ?_
    show zq_G _ _ _ _ _ 9 ([(0, .int (nI v))], [.int 122, .int (nI v)], h)
    refine zq_if .gt 16 (122 < v) (by decide +kernel) (zq_cgt (a := v) (b := 122) (by omega) (by omega)) (fun c9 => ?_) (fun c9 => ?_)
    · show zq_G _ _ _ _ _ 16 ([(0, .int (nI v))], [], h)
      refine zq_b [zq_k 0] [zq_kchk 0] 17 rfl (by decide +kernel) ?_
      show zq_G _ _ _ _ _ 17 ([(0, .int (nI v))], [.int 0], h)
      exact zq_zret (by decide +kernel) rfl (Or.inl rfl) (zb_r (zb_f (by omega))) rfl
    · show zq_G _ _ _ _ _ 12 ([(0, .int (nI v))], [], h)
      refine zq_b [zq_k 1, zq_go] [zq_kchk 1, zq_gochk] 17 rfl (by decide +kernel) ?_
      show zq_G _ _ _ _ _ 17 ([(0, .int (nI v))], [.int 1], h)
      exact zq_zret (by decide +kernel) rfl (Or.inr rfl) (zb_r (zb_t (by omega))) rfl
set_option maxHeartbeats 4000000 in
set_option maxRecDepth 100000 in
theorem c_isDigit {v : Nat} (hv : v < 1000) : zq_P l mX8_isDigit 0 [.int (nI v)] (h) (some (.int (zb (48 ≤ v ∧ v ≤ 57)))) (h) := by
  refine zq_start (by decide +kernel) rfl (Nat.le_of_ble_eq_true rfl) ?_
  show zq_G _ _ _ _ _ 0 ([(0, .int (nI v))], [], h)
  refine zq_b [zq_il 0, zq_k 48] [zq_ilchk 0, zq_kchk 48] 3 rfl (by decide +kernel) ?_
  show zq_G _ _ _ _ _ 3 ([(0, .int (nI v))], [.int 48, .int (nI v)], h)
  refine zq_if .lt 16 (v < 48) (by decide +kernel) (zq_clt (a := v) (b := 48) (by omega) (by omega)) (fun c3 => ?_) (fun c3 => ?_)
  · show zq_G _ _ _ _ _ 16 ([(0, .int (nI v))], [], h)
    refine zq_b [zq_k 0] [zq_kchk 0] 17 rfl (by decide +kernel) ?_
    show zq_G _ _ _ _ _ 17 ([(0, .int (nI v))], [.int 0], h)
    exact zq_zret (by decide +kernel) rfl (Or.inl rfl) (zb_r (zb_f (by omega))) rfl
  · show zq_G _ _ _ _ _ 6 ([(0, .int (nI v))], [], h)
    refine zq_b [zq_il 0, zq_k 57] [zq_ilchk 0, zq_kchk 57] 9 rfl (by decide +kernel) ?_
    show zq_G _ _ _ _ _ 9 ([(0, .int (nI v))], [.int 57, .int (nI v)], h)
    refine zq_if .gt 16 (57 < v) (by decide +kernel) (zq_cgt (a := v) (b := 57) (by omega) (by omega)) (fun c9 => ?_) (fun c9 => ?_)
    · show zq_G _ _ _ _ _ 16 ([(0, .int (nI v))], [], h)
      refine zq_b [zq_k 0] [zq_kchk 0] 17 rfl (by decide +kernel) ?_
      show zq_G _ _ _ _ _ 17 ([(0, .int (nI v))], [.int 0], h)
      exact zq_zret (by decide +kernel) rfl (Or.inl rfl) (zb_r (zb_f (by omega))) rfl
    · show zq_G _ _ _ _ _ 12 ([(0, .int (nI v))], [], h)
      refine zq_b [zq_k 1, zq_go] [zq_kchk 1, zq_gochk] 17 rfl (by decide +kernel) ?_
      show zq_G _ _ _ _ _ 17 ([(0, .int (nI v))], [.int 1], h)
      exact zq_zret (by decide +kernel) rfl (Or.inr rfl) (zb_r (zb_t (by omega))) rfl
theorem ite_e1 {e s : Nat} {x y : Int32} (h : s + 1 ≤ e) : (if e - (s + 1) = 0 then x else y) = if e = s + 1 then x else y := by
  by_cases q : e = s + 1
  · rw [if_pos (show e - (s + 1) = 0 by omega), if_pos q]
  · rw [if_neg (show ¬ e - (s + 1) = 0 by omega), if_neg q]
set_option maxHeartbeats 4000000 in
set_option maxRecDepth 100000 in
theorem c_takeLetters {s : Nat} {e : Nat} (hZ : Z ≤ 200) (hbt : ∀ j, j < Z → tx j = nI (bt j) ∧ bt j ≤ 255) (hs : s < Z) (he1 : s + 1 ≤ e) (he2 : e ≤ Z) (hrun : ∀ j, s + 1 ≤ j → j < e → j < Z ∧ letB bt j = true) (hend : ¬ (e < Z ∧ letB bt e = true)) : zq_P l mX8_takeLetters 1 [.ref 14] (XH tx n t dr (nI Z, nI s, lt, rs, rt, rv) w i0 i1 kp dd tr m) none (XH tx n t dr (nI Z, nI e, lt, rs, 1, if e = s + 1 then nI (bt s) else 0) w i0 i1 kp dd tr m) := by
  refine zq_start (by decide +kernel) rfl (Nat.le_of_ble_eq_true rfl) ?_
  show zq_G _ _ _ _ _ 0 ([(0, .ref 14)], [], XH tx n t dr (nI Z, nI s, lt, rs, rt, rv) w i0 i1 kp dd tr m)
  have hbs := (hbt s hs).2
  refine zq_b [zq_al 0, zq_k 1, zq_puti 8 6, zq_al 0, zq_al 0, zq_get 8 0, zq_al 0, zq_get 8 3, zq_iald s (nI (bt s)), zq_puti 8 7, zq_al 0, zq_dup, zq_get 8 3, zq_k 1, zq_iadd (nI (s + 1)), zq_puti 8 3] [zq_alchk 0, zq_kchk 1, zq_putchk 8 6 .int, zq_alchk 0, zq_alchk 0, zq_getchk 8 0, zq_alchk 0, zq_getchk 8 3, zq_is .iaload 1, zq_putchk 8 7 .int, zq_alchk 0, zq_is .dup 1, zq_getchk 8 3, zq_kchk 1, zq_is .iadd 1, zq_putchk 8 3 .int] 28 rfl (by decide +kernel) ?_
  refine ⟨rfl, (by omega), (by omega), (hbt _ (by omega)).1, (nI_add s 1), ?_⟩
  show zq_G _ _ _ _ _ 28 ([(0, .ref 14)], [], XH tx n t dr (nI Z, nI (s + 1), lt, rs, 1, nI (bt s)) w i0 i1 kp dd tr m)
  refine zq_eq (σ2 := ([(0, .ref 14)], [], XH tx n t dr (nI Z, nI (s + 1 + (0 : Nat)), lt, rs, 1, if (0 : Nat) = 0 then nI (bt s) else 0) w i0 i1 kp dd tr m)) (rfl) ?_
  refine zq_loop (fun i => ([(0, .ref 14)], [], XH tx n t dr (nI Z, nI (s + 1 + i), lt, rs, 1, if i = 0 then nI (bt s) else 0) w i0 i1 kp dd tr m)) (fun i => True) (e - (s + 1)) (0) (by omega) (trivial) (fun i hl28 hi28 hI28 ih28 => ?_) (fun hI28 => ?_)
  · show zq_G _ _ _ _ _ 28 ([(0, .ref 14)], [], XH tx n t dr (nI Z, nI (s + 1 + i), lt, rs, 1, if i = 0 then nI (bt s) else 0) w i0 i1 kp dd tr m)
    have hr := hrun (s + 1 + i) (by omega) (by omega)
    have hbi := (hbt (s + 1 + i) hr.1).2
    refine zq_b [zq_al 0, zq_get 8 3, zq_al 0, zq_get 8 2] [zq_alchk 0, zq_getchk 8 3, zq_alchk 0, zq_getchk 8 2] 36 rfl (by decide +kernel) ?_
    show zq_G _ _ _ _ _ 36 ([(0, .ref 14)], [.int (nI Z), .int (nI (s + 1 + i))], XH tx n t dr (nI Z, nI (s + 1 + i), lt, rs, 1, if i = 0 then nI (bt s) else 0) w i0 i1 kp dd tr m)
    refine zq_if .ge 72 (Z ≤ (s + 1 + i)) (by decide +kernel) (zq_cge (a := s + 1 + i) (b := Z) (by omega) (by omega)) (fun c36 => absurd c36 (by omega)) (fun c36 => ?_)
    show zq_G _ _ _ _ _ 39 ([(0, .ref 14)], [], XH tx n t dr (nI Z, nI (s + 1 + i), lt, rs, 1, if i = 0 then nI (bt s) else 0) w i0 i1 kp dd tr m)
    refine zq_b [zq_al 0, zq_get 8 0, zq_al 0, zq_get 8 3, zq_iald (s + 1 + i) (nI (bt (s + 1 + i)))] [zq_alchk 0, zq_getchk 8 0, zq_alchk 0, zq_getchk 8 3, zq_is .iaload 1] 48 rfl (by decide +kernel) ?_
    refine ⟨rfl, (by omega), (by omega), (hbt _ (by omega)).1, ?_⟩
    show zq_G _ _ _ _ _ 48 ([(0, .ref 14)], [.int (nI (bt (s + 1 + i)))], XH tx n t dr (nI Z, nI (s + 1 + i), lt, rs, 1, if i = 0 then nI (bt s) else 0) w i0 i1 kp dd tr m)
    refine zq_callS (av := [.int (nI (bt (s + 1 + i)))]) (rest := []) (by decide +kernel) k8_107 (c_isLetter (v := (bt (s + 1 + i))) (by omega)) rfl rfl ?_
    show zq_G _ _ _ _ _ 51 ([(0, .ref 14)], [.int (zb (97 ≤ (bt (s + 1 + i)) ∧ (bt (s + 1 + i)) ≤ 122))], XH tx n t dr (nI Z, nI (s + 1 + i), lt, rs, 1, if i = 0 then nI (bt s) else 0) w i0 i1 kp dd tr m)
    refine zq_ifz .eq 72 (¬ (97 ≤ (bt (s + 1 + i)) ∧ (bt (s + 1 + i)) ≤ 122)) (by decide +kernel) (zb_eq _) (fun c51 => absurd c51 (fun q => q (of_decide_eq_true hr.2))) (fun c51 => ?_)
    show zq_G _ _ _ _ _ 54 ([(0, .ref 14)], [], XH tx n t dr (nI Z, nI (s + 1 + i), lt, rs, 1, if i = 0 then nI (bt s) else 0) w i0 i1 kp dd tr m)
    refine zq_b [zq_al 0, zq_k 0, zq_puti 8 7, zq_al 0, zq_dup, zq_get 8 3, zq_k 1, zq_iadd (nI (s + 1 + i + 1)), zq_puti 8 3, zq_go] [zq_alchk 0, zq_kchk 0, zq_putchk 8 7 .int, zq_alchk 0, zq_is .dup 1, zq_getchk 8 3, zq_kchk 1, zq_is .iadd 1, zq_putchk 8 3 .int, zq_gochk] 28 rfl (by decide +kernel) ?_
    refine ⟨(nI_add (s + 1 + i) 1), ?_⟩
    show zq_G _ _ _ _ _ 28 ([(0, .ref 14)], [], XH tx n t dr (nI Z, nI (s + 1 + i + 1), lt, rs, 1, 0) w i0 i1 kp dd tr m)
    exact zq_eq (by rw [if_neg (Nat.succ_ne_zero i)]; rfl) (ih28 trivial)
  · show zq_G _ _ _ _ _ 28 ([(0, .ref 14)], [], XH tx n t dr (nI Z, nI (s + 1 + (e - (s + 1))), lt, rs, 1, if e - (s + 1) = 0 then nI (bt s) else 0) w i0 i1 kp dd tr m)
    have hbe : e < Z → bt e ≤ 255 := fun q => (hbt e q).2
    refine zq_eq (σ2 := ([(0, .ref 14)], [], XH tx n t dr (nI Z, nI e, lt, rs, 1, if e = s + 1 then nI (bt s) else 0) w i0 i1 kp dd tr m)) (by rw [show s + 1 + (e - (s + 1)) = e by omega, ite_e1 he1]) ?_
    refine zq_b [zq_al 0, zq_get 8 3, zq_al 0, zq_get 8 2] [zq_alchk 0, zq_getchk 8 3, zq_alchk 0, zq_getchk 8 2] 36 rfl (by decide +kernel) ?_
    show zq_G _ _ _ _ _ 36 ([(0, .ref 14)], [.int (nI Z), .int (nI e)], XH tx n t dr (nI Z, nI e, lt, rs, 1, if e = s + 1 then nI (bt s) else 0) w i0 i1 kp dd tr m)
    refine zq_if .ge 72 (Z ≤ e) (by decide +kernel) (zq_cge (a := e) (b := Z) (by omega) (by omega)) (fun c36 => ?_) (fun c36 => ?_)
    · show zq_G _ _ _ _ _ 72 ([(0, .ref 14)], [], XH tx n t dr (nI Z, nI e, lt, rs, 1, if e = s + 1 then nI (bt s) else 0) w i0 i1 kp dd tr m)
      exact zq_vret (by decide +kernel) rfl rfl rfl
    · show zq_G _ _ _ _ _ 39 ([(0, .ref 14)], [], XH tx n t dr (nI Z, nI e, lt, rs, 1, if e = s + 1 then nI (bt s) else 0) w i0 i1 kp dd tr m)
      refine zq_b [zq_al 0, zq_get 8 0, zq_al 0, zq_get 8 3, zq_iald e (nI (bt e))] [zq_alchk 0, zq_getchk 8 0, zq_alchk 0, zq_getchk 8 3, zq_is .iaload 1] 48 rfl (by decide +kernel) ?_
      refine ⟨rfl, (by omega), (by omega), (hbt _ (by omega)).1, ?_⟩
      show zq_G _ _ _ _ _ 48 ([(0, .ref 14)], [.int (nI (bt e))], XH tx n t dr (nI Z, nI e, lt, rs, 1, if e = s + 1 then nI (bt s) else 0) w i0 i1 kp dd tr m)
      refine zq_callS (av := [.int (nI (bt e))]) (rest := []) (by decide +kernel) k8_107 (c_isLetter (v := (bt e)) (by have := hbe (by omega); omega)) rfl rfl ?_
      show zq_G _ _ _ _ _ 51 ([(0, .ref 14)], [.int (zb (97 ≤ (bt e) ∧ (bt e) ≤ 122))], XH tx n t dr (nI Z, nI e, lt, rs, 1, if e = s + 1 then nI (bt s) else 0) w i0 i1 kp dd tr m)
      refine zq_ifz .eq 72 (¬ (97 ≤ (bt e) ∧ (bt e) ≤ 122)) (by decide +kernel) (zb_eq _) (fun c51 => ?_) (fun c51 => absurd (fun q => hend ⟨by omega, decide_eq_true q⟩) c51)
      show zq_G _ _ _ _ _ 72 ([(0, .ref 14)], [], XH tx n t dr (nI Z, nI e, lt, rs, 1, if e = s + 1 then nI (bt s) else 0) w i0 i1 kp dd tr m)
      exact zq_vret (by decide +kernel) rfl rfl rfl
set_option maxHeartbeats 4000000 in
set_option maxRecDepth 100000 in
theorem c_takeDigits {s : Nat} {e : Nat} (hZ : Z ≤ 200) (hbt : ∀ j, j < Z → tx j = nI (bt j) ∧ bt j ≤ 255) (hs : s < Z) (he1 : s ≤ e) (he2 : e ≤ Z) (hrun : ∀ j, s ≤ j → j < e → j < Z ∧ digB bt j = true) (hend : ¬ (e < Z ∧ digB bt e = true)) : zq_P l mX8_takeDigits 1 [.ref 14] (XH tx n t dr (nI Z, nI s, lt, nI s, rt, rv) w i0 i1 kp dd tr m) none (XH tx n t dr (nI Z, nI e, lt, nI s, nI (if 99 < dvN bt s (e - s) ∨ (bt s = 48 ∧ 1 < e - s) then 4 else 2), nI (dvN bt s (e - s))) w i0 i1 kp dd tr m) := by
  refine zq_start (by decide +kernel) rfl (Nat.le_of_ble_eq_true rfl) ?_
  show zq_G _ _ _ _ _ 0 ([(0, .ref 14)], [], XH tx n t dr (nI Z, nI s, lt, nI s, rt, rv) w i0 i1 kp dd tr m)
  have hbs := (hbt s hs).2
  refine zq_b [zq_al 0, zq_get 8 0, zq_al 0, zq_get 8 3, zq_iald s (nI (bt s)), zq_k 48] [zq_alchk 0, zq_getchk 8 0, zq_alchk 0, zq_getchk 8 3, zq_is .iaload 1, zq_kchk 48] 11 rfl (by decide +kernel) ?_
  refine ⟨rfl, (by omega), (by omega), (hbt _ (by omega)).1, ?_⟩
  show zq_G _ _ _ _ _ 11 ([(0, .ref 14)], [.int 48, .int (nI (bt s))], XH tx n t dr (nI Z, nI s, lt, nI s, rt, rv) w i0 i1 kp dd tr m)
  refine zq_if .ne 18 (¬ (bt s) = 48) (by decide +kernel) (zq_cne (a := bt s) (b := 48) (by omega) (by omega)) (fun c11 => ?_) (fun c11 => ?_)
  · show zq_G _ _ _ _ _ 18 ([(0, .ref 14)], [], XH tx n t dr (nI Z, nI s, lt, nI s, rt, rv) w i0 i1 kp dd tr m)
    refine zq_b [zq_k 0, zq_is1 1, zq_al 0, zq_k 0, zq_puti 8 7] [zq_kchk 0, zq_is1chk 1, zq_alchk 0, zq_kchk 0, zq_putchk 8 7 .int] 25 rfl (by decide +kernel) ?_
    show zq_G _ _ _ _ _ 25 ([(0, .ref 14), (1, .int 0)], [], XH tx n t dr (nI Z, nI s, lt, nI s, rt, 0) w i0 i1 kp dd tr m)
    refine zq_eq (σ2 := ([(0, .ref 14), (1, .int 0)], [], XH tx n t dr (nI Z, nI (s + (0 : Nat)), lt, nI s, rt, nI (dvN bt s (0 : Nat))) w i0 i1 kp dd tr m)) (rfl) ?_
    refine zq_loop (fun i => ([(0, .ref 14), (1, .int 0)], [], XH tx n t dr (nI Z, nI (s + i), lt, nI s, rt, nI (dvN bt s i)) w i0 i1 kp dd tr m)) (fun i => True) (e - s) (0) (by omega) (trivial) (fun i hl25 hi25 hI25 ih25 => ?_) (fun hI25 => ?_)
    · show zq_G _ _ _ _ _ 25 ([(0, .ref 14), (1, .int 0)], [], XH tx n t dr (nI Z, nI (s + i), lt, nI s, rt, nI (dvN bt s i)) w i0 i1 kp dd tr m)
      have hr := hrun (s + i) (by omega) (by omega)
      have hbi := (hbt (s + i) hr.1).2
      have hdg := of_decide_eq_true hr.2
      have hvl := dvN_le bt s i
      refine zq_b [zq_al 0, zq_get 8 3, zq_al 0, zq_get 8 2] [zq_alchk 0, zq_getchk 8 3, zq_alchk 0, zq_getchk 8 2] 33 rfl (by decide +kernel) ?_
      show zq_G _ _ _ _ _ 33 ([(0, .ref 14), (1, .int 0)], [.int (nI Z), .int (nI (s + i))], XH tx n t dr (nI Z, nI (s + i), lt, nI s, rt, nI (dvN bt s i)) w i0 i1 kp dd tr m)
      refine zq_if .ge 93 (Z ≤ (s + i)) (by decide +kernel) (zq_cge (a := s + i) (b := Z) (by omega) (by omega)) (fun c33 => absurd c33 (by omega)) (fun c33 => ?_)
      show zq_G _ _ _ _ _ 36 ([(0, .ref 14), (1, .int 0)], [], XH tx n t dr (nI Z, nI (s + i), lt, nI s, rt, nI (dvN bt s i)) w i0 i1 kp dd tr m)
      refine zq_b [zq_al 0, zq_get 8 0, zq_al 0, zq_get 8 3, zq_iald (s + i) (nI (bt (s + i)))] [zq_alchk 0, zq_getchk 8 0, zq_alchk 0, zq_getchk 8 3, zq_is .iaload 1] 45 rfl (by decide +kernel) ?_
      refine ⟨rfl, (by omega), (by omega), (hbt _ (by omega)).1, ?_⟩
      show zq_G _ _ _ _ _ 45 ([(0, .ref 14), (1, .int 0)], [.int (nI (bt (s + i)))], XH tx n t dr (nI Z, nI (s + i), lt, nI s, rt, nI (dvN bt s i)) w i0 i1 kp dd tr m)
      refine zq_callS (av := [.int (nI (bt (s + i)))]) (rest := []) (by decide +kernel) k8_113 (c_isDigit (v := (bt (s + i))) (by omega)) rfl rfl ?_
      show zq_G _ _ _ _ _ 48 ([(0, .ref 14), (1, .int 0)], [.int (zb (48 ≤ (bt (s + i)) ∧ (bt (s + i)) ≤ 57))], XH tx n t dr (nI Z, nI (s + i), lt, nI s, rt, nI (dvN bt s i)) w i0 i1 kp dd tr m)
      refine zq_ifz .eq 93 (¬ (48 ≤ (bt (s + i)) ∧ (bt (s + i)) ≤ 57)) (by decide +kernel) (zb_eq _) (fun c48 => absurd c48 (fun q => q hdg)) (fun c48 => ?_)
      show zq_G _ _ _ _ _ 51 ([(0, .ref 14), (1, .int 0)], [], XH tx n t dr (nI Z, nI (s + i), lt, nI s, rt, nI (dvN bt s i)) w i0 i1 kp dd tr m)
      refine zq_b [zq_al 0, zq_al 0, zq_get 8 7, zq_k 10, zq_imul (nI ((dvN bt s i) * 10)), zq_al 0, zq_get 8 0, zq_al 0, zq_get 8 3, zq_iald (s + i) (nI (bt (s + i))), zq_iadd (nI (((dvN bt s i) * 10) + (bt (s + i)))), zq_k 48, zq_isub (nI (dvN bt s i * 10 + bt (s + i) - 48)), zq_k 100] [zq_alchk 0, zq_alchk 0, zq_getchk 8 7, zq_kchk 10, zq_is .imul 1, zq_alchk 0, zq_getchk 8 0, zq_alchk 0, zq_getchk 8 3, zq_is .iaload 1, zq_is .iadd 1, zq_kchk 48, zq_is .isub 1, zq_kchk 100] 74 rfl (by decide +kernel) ?_
      refine ⟨(pk_mul (dvN bt s i) 10), rfl, (by omega), (by omega), (hbt _ (by omega)).1, (nI_add ((dvN bt s i) * 10) (bt (s + i))), (pk_sub (a := dvN bt s i * 10 + bt (s + i)) (b := 48) (by omega)), ?_⟩
      show zq_G _ _ _ _ _ 74 ([(0, .ref 14), (1, .int 0)], [.int 100, .int (nI (dvN bt s i * 10 + bt (s + i) - 48)), .ref 14], XH tx n t dr (nI Z, nI (s + i), lt, nI s, rt, nI (dvN bt s i)) w i0 i1 kp dd tr m)
      refine zq_mmin (rest := [.ref 14]) (by decide +kernel) k8_19 rfl ?_
      show zq_G _ _ _ _ _ 77 ([(0, .ref 14), (1, .int 0)], [.int (if 100 < (nI (dvN bt s i * 10 + bt (s + i) - 48)) then 100 else (nI (dvN bt s i * 10 + bt (s + i) - 48))), .ref 14], XH tx n t dr (nI Z, nI (s + i), lt, nI s, rt, nI (dvN bt s i)) w i0 i1 kp dd tr m)
      refine zq_eq (σ2 := ([(0, .ref 14), (1, .int 0)], [.int (nI (min (dvN bt s i * 10 + bt (s + i) - 48) 100)), .ref 14], XH tx n t dr (nI Z, nI (s + i), lt, nI s, rt, nI (dvN bt s i)) w i0 i1 kp dd tr m)) (by rw [← nI_min (dvN bt s i * 10 + bt (s + i) - 48) 100 (by omega) (by omega)]; rfl) ?_
      refine zq_b [zq_puti 8 7, zq_al 0, zq_dup, zq_get 8 3, zq_k 1, zq_iadd (nI (s + i + 1)), zq_puti 8 3, zq_go] [zq_putchk 8 7 .int, zq_alchk 0, zq_is .dup 1, zq_getchk 8 3, zq_kchk 1, zq_is .iadd 1, zq_putchk 8 3 .int, zq_gochk] 25 rfl (by decide +kernel) ?_
      refine ⟨(nI_add (s + i) 1), ?_⟩
      show zq_G _ _ _ _ _ 25 ([(0, .ref 14), (1, .int 0)], [], XH tx n t dr (nI Z, nI (s + i + 1), lt, nI s, rt, nI (min (dvN bt s i * 10 + bt (s + i) - 48) 100)) w i0 i1 kp dd tr m)
      exact ih25 trivial
    · show zq_G _ _ _ _ _ 25 ([(0, .ref 14), (1, .int 0)], [], XH tx n t dr (nI Z, nI (s + (e - s)), lt, nI s, rt, nI (dvN bt s (e - s))) w i0 i1 kp dd tr m)
      have hbe : e < Z → bt e ≤ 255 := fun q => (hbt e q).2
      have hvl := dvN_le bt s (e - s)
      refine zq_eq (σ2 := ([(0, .ref 14), (1, .int 0)], [], XH tx n t dr (nI Z, nI e, lt, nI s, rt, nI (dvN bt s (e - s))) w i0 i1 kp dd tr m)) (by rw [show s + (e - s) = e by omega]) ?_
      refine zq_b [zq_al 0, zq_get 8 3, zq_al 0, zq_get 8 2] [zq_alchk 0, zq_getchk 8 3, zq_alchk 0, zq_getchk 8 2] 33 rfl (by decide +kernel) ?_
      show zq_G _ _ _ _ _ 33 ([(0, .ref 14), (1, .int 0)], [.int (nI Z), .int (nI e)], XH tx n t dr (nI Z, nI e, lt, nI s, rt, nI (dvN bt s (e - s))) w i0 i1 kp dd tr m)
      refine zq_if .ge 93 (Z ≤ e) (by decide +kernel) (zq_cge (a := e) (b := Z) (by omega) (by omega)) (fun c33 => ?_) (fun c33 => ?_)
      · show zq_G _ _ _ _ _ 93 ([(0, .ref 14), (1, .int 0)], [], XH tx n t dr (nI Z, nI e, lt, nI s, rt, nI (dvN bt s (e - s))) w i0 i1 kp dd tr m)
        refine zq_b [zq_al 0, zq_get 8 7, zq_k 99] [zq_alchk 0, zq_getchk 8 7, zq_kchk 99] 99 rfl (by decide +kernel) ?_
        show zq_G _ _ _ _ _ 99 ([(0, .ref 14), (1, .int 0)], [.int 99, .int (nI (dvN bt s (e - s)))], XH tx n t dr (nI Z, nI e, lt, nI s, rt, nI (dvN bt s (e - s))) w i0 i1 kp dd tr m)
        refine zq_if .gt 119 (99 < (dvN bt s (e - s))) (by decide +kernel) (zq_cgt (a := dvN bt s (e - s)) (b := 99) (by omega) (by omega)) (fun c99 => ?_) (fun c99 => ?_)
        · show zq_G _ _ _ _ _ 119 ([(0, .ref 14), (1, .int 0)], [], XH tx n t dr (nI Z, nI e, lt, nI s, rt, nI (dvN bt s (e - s))) w i0 i1 kp dd tr m)
          refine zq_b [zq_k 1, zq_go, zq_is1 2, zq_al 0, zq_il 2] [zq_kchk 1, zq_gochk, zq_is1chk 2, zq_alchk 0, zq_ilchk 2] 127 rfl (by decide +kernel) ?_
          show zq_G _ _ _ _ _ 127 ([(0, .ref 14), (1, .int 0), (2, .int 1)], [.int 1, .ref 14], XH tx n t dr (nI Z, nI e, lt, nI s, rt, nI (dvN bt s (e - s))) w i0 i1 kp dd tr m)
          refine zq_ifz .eq 134 (1 = 0) (by decide +kernel) (zq_ceq (a := 1) (b := 0) (by omega) (by omega)) (fun c127 => absurd c127 (by decide)) (fun c127 => ?_)
          show zq_G _ _ _ _ _ 130 ([(0, .ref 14), (1, .int 0), (2, .int 1)], [.ref 14], XH tx n t dr (nI Z, nI e, lt, nI s, rt, nI (dvN bt s (e - s))) w i0 i1 kp dd tr m)
          refine zq_b [zq_k 4, zq_go, zq_puti 8 6] [zq_kchk 4, zq_gochk, zq_putchk 8 6 .int] 138 rfl (by decide +kernel) ?_
          show zq_G _ _ _ _ _ 138 ([(0, .ref 14), (1, .int 0), (2, .int 1)], [], XH tx n t dr (nI Z, nI e, lt, nI s, 4, nI (dvN bt s (e - s))) w i0 i1 kp dd tr m)
          exact zq_vret (by decide +kernel) rfl rfl (by rw [if_pos (Or.inl c99)]; rfl)
        · show zq_G _ _ _ _ _ 102 ([(0, .ref 14), (1, .int 0)], [], XH tx n t dr (nI Z, nI e, lt, nI s, rt, nI (dvN bt s (e - s))) w i0 i1 kp dd tr m)
          refine zq_b [zq_il 1] [zq_ilchk 1] 103 rfl (by decide +kernel) ?_
          show zq_G _ _ _ _ _ 103 ([(0, .ref 14), (1, .int 0)], [.int 0], XH tx n t dr (nI Z, nI e, lt, nI s, rt, nI (dvN bt s (e - s))) w i0 i1 kp dd tr m)
          refine zq_ifz .eq 123 (0 = 0) (by decide +kernel) (zq_ceq (a := 0) (b := 0) (by omega) (by omega)) (fun c103 => ?_) (fun c103 => absurd rfl c103)
          show zq_G _ _ _ _ _ 123 ([(0, .ref 14), (1, .int 0)], [], XH tx n t dr (nI Z, nI e, lt, nI s, rt, nI (dvN bt s (e - s))) w i0 i1 kp dd tr m)
          refine zq_b [zq_k 0, zq_is1 2, zq_al 0, zq_il 2] [zq_kchk 0, zq_is1chk 2, zq_alchk 0, zq_ilchk 2] 127 rfl (by decide +kernel) ?_
          show zq_G _ _ _ _ _ 127 ([(0, .ref 14), (1, .int 0), (2, .int 0)], [.int 0, .ref 14], XH tx n t dr (nI Z, nI e, lt, nI s, rt, nI (dvN bt s (e - s))) w i0 i1 kp dd tr m)
          refine zq_ifz .eq 134 (0 = 0) (by decide +kernel) (zq_ceq (a := 0) (b := 0) (by omega) (by omega)) (fun c127 => ?_) (fun c127 => absurd rfl c127)
          show zq_G _ _ _ _ _ 134 ([(0, .ref 14), (1, .int 0), (2, .int 0)], [.ref 14], XH tx n t dr (nI Z, nI e, lt, nI s, rt, nI (dvN bt s (e - s))) w i0 i1 kp dd tr m)
          refine zq_b [zq_k 2, zq_puti 8 6] [zq_kchk 2, zq_putchk 8 6 .int] 138 rfl (by decide +kernel) ?_
          show zq_G _ _ _ _ _ 138 ([(0, .ref 14), (1, .int 0), (2, .int 0)], [], XH tx n t dr (nI Z, nI e, lt, nI s, 2, nI (dvN bt s (e - s))) w i0 i1 kp dd tr m)
          exact zq_vret (by decide +kernel) rfl rfl (by rw [if_neg (by omega)]; rfl)
      · show zq_G _ _ _ _ _ 36 ([(0, .ref 14), (1, .int 0)], [], XH tx n t dr (nI Z, nI e, lt, nI s, rt, nI (dvN bt s (e - s))) w i0 i1 kp dd tr m)
        refine zq_b [zq_al 0, zq_get 8 0, zq_al 0, zq_get 8 3, zq_iald e (nI (bt e))] [zq_alchk 0, zq_getchk 8 0, zq_alchk 0, zq_getchk 8 3, zq_is .iaload 1] 45 rfl (by decide +kernel) ?_
        refine ⟨rfl, (by omega), (by omega), (hbt _ (by omega)).1, ?_⟩
        show zq_G _ _ _ _ _ 45 ([(0, .ref 14), (1, .int 0)], [.int (nI (bt e))], XH tx n t dr (nI Z, nI e, lt, nI s, rt, nI (dvN bt s (e - s))) w i0 i1 kp dd tr m)
        refine zq_callS (av := [.int (nI (bt e))]) (rest := []) (by decide +kernel) k8_113 (c_isDigit (v := (bt e)) (by have := hbe (by omega); omega)) rfl rfl ?_
        show zq_G _ _ _ _ _ 48 ([(0, .ref 14), (1, .int 0)], [.int (zb (48 ≤ (bt e) ∧ (bt e) ≤ 57))], XH tx n t dr (nI Z, nI e, lt, nI s, rt, nI (dvN bt s (e - s))) w i0 i1 kp dd tr m)
        refine zq_ifz .eq 93 (¬ (48 ≤ (bt e) ∧ (bt e) ≤ 57)) (by decide +kernel) (zb_eq _) (fun c48 => ?_) (fun c48 => absurd (fun q => hend ⟨by omega, decide_eq_true q⟩) c48)
        show zq_G _ _ _ _ _ 93 ([(0, .ref 14), (1, .int 0)], [], XH tx n t dr (nI Z, nI e, lt, nI s, rt, nI (dvN bt s (e - s))) w i0 i1 kp dd tr m)
        refine zq_b [zq_al 0, zq_get 8 7, zq_k 99] [zq_alchk 0, zq_getchk 8 7, zq_kchk 99] 99 rfl (by decide +kernel) ?_
        show zq_G _ _ _ _ _ 99 ([(0, .ref 14), (1, .int 0)], [.int 99, .int (nI (dvN bt s (e - s)))], XH tx n t dr (nI Z, nI e, lt, nI s, rt, nI (dvN bt s (e - s))) w i0 i1 kp dd tr m)
        refine zq_if .gt 119 (99 < (dvN bt s (e - s))) (by decide +kernel) (zq_cgt (a := dvN bt s (e - s)) (b := 99) (by omega) (by omega)) (fun c99 => ?_) (fun c99 => ?_)
        · show zq_G _ _ _ _ _ 119 ([(0, .ref 14), (1, .int 0)], [], XH tx n t dr (nI Z, nI e, lt, nI s, rt, nI (dvN bt s (e - s))) w i0 i1 kp dd tr m)
          refine zq_b [zq_k 1, zq_go, zq_is1 2, zq_al 0, zq_il 2] [zq_kchk 1, zq_gochk, zq_is1chk 2, zq_alchk 0, zq_ilchk 2] 127 rfl (by decide +kernel) ?_
          show zq_G _ _ _ _ _ 127 ([(0, .ref 14), (1, .int 0), (2, .int 1)], [.int 1, .ref 14], XH tx n t dr (nI Z, nI e, lt, nI s, rt, nI (dvN bt s (e - s))) w i0 i1 kp dd tr m)
          refine zq_ifz .eq 134 (1 = 0) (by decide +kernel) (zq_ceq (a := 1) (b := 0) (by omega) (by omega)) (fun c127 => absurd c127 (by decide)) (fun c127 => ?_)
          show zq_G _ _ _ _ _ 130 ([(0, .ref 14), (1, .int 0), (2, .int 1)], [.ref 14], XH tx n t dr (nI Z, nI e, lt, nI s, rt, nI (dvN bt s (e - s))) w i0 i1 kp dd tr m)
          refine zq_b [zq_k 4, zq_go, zq_puti 8 6] [zq_kchk 4, zq_gochk, zq_putchk 8 6 .int] 138 rfl (by decide +kernel) ?_
          show zq_G _ _ _ _ _ 138 ([(0, .ref 14), (1, .int 0), (2, .int 1)], [], XH tx n t dr (nI Z, nI e, lt, nI s, 4, nI (dvN bt s (e - s))) w i0 i1 kp dd tr m)
          exact zq_vret (by decide +kernel) rfl rfl (by rw [if_pos (Or.inl c99)]; rfl)
        · show zq_G _ _ _ _ _ 102 ([(0, .ref 14), (1, .int 0)], [], XH tx n t dr (nI Z, nI e, lt, nI s, rt, nI (dvN bt s (e - s))) w i0 i1 kp dd tr m)
          refine zq_b [zq_il 1] [zq_ilchk 1] 103 rfl (by decide +kernel) ?_
          show zq_G _ _ _ _ _ 103 ([(0, .ref 14), (1, .int 0)], [.int 0], XH tx n t dr (nI Z, nI e, lt, nI s, rt, nI (dvN bt s (e - s))) w i0 i1 kp dd tr m)
          refine zq_ifz .eq 123 (0 = 0) (by decide +kernel) (zq_ceq (a := 0) (b := 0) (by omega) (by omega)) (fun c103 => ?_) (fun c103 => absurd rfl c103)
          show zq_G _ _ _ _ _ 123 ([(0, .ref 14), (1, .int 0)], [], XH tx n t dr (nI Z, nI e, lt, nI s, rt, nI (dvN bt s (e - s))) w i0 i1 kp dd tr m)
          refine zq_b [zq_k 0, zq_is1 2, zq_al 0, zq_il 2] [zq_kchk 0, zq_is1chk 2, zq_alchk 0, zq_ilchk 2] 127 rfl (by decide +kernel) ?_
          show zq_G _ _ _ _ _ 127 ([(0, .ref 14), (1, .int 0), (2, .int 0)], [.int 0, .ref 14], XH tx n t dr (nI Z, nI e, lt, nI s, rt, nI (dvN bt s (e - s))) w i0 i1 kp dd tr m)
          refine zq_ifz .eq 134 (0 = 0) (by decide +kernel) (zq_ceq (a := 0) (b := 0) (by omega) (by omega)) (fun c127 => ?_) (fun c127 => absurd rfl c127)
          show zq_G _ _ _ _ _ 134 ([(0, .ref 14), (1, .int 0), (2, .int 0)], [.ref 14], XH tx n t dr (nI Z, nI e, lt, nI s, rt, nI (dvN bt s (e - s))) w i0 i1 kp dd tr m)
          refine zq_b [zq_k 2, zq_puti 8 6] [zq_kchk 2, zq_putchk 8 6 .int] 138 rfl (by decide +kernel) ?_
          show zq_G _ _ _ _ _ 138 ([(0, .ref 14), (1, .int 0), (2, .int 0)], [], XH tx n t dr (nI Z, nI e, lt, nI s, 2, nI (dvN bt s (e - s))) w i0 i1 kp dd tr m)
          exact zq_vret (by decide +kernel) rfl rfl (by rw [if_neg (by omega)]; rfl)
  · show zq_G _ _ _ _ _ 14 ([(0, .ref 14)], [], XH tx n t dr (nI Z, nI s, lt, nI s, rt, rv) w i0 i1 kp dd tr m)
    refine zq_b [zq_k 1, zq_go, zq_is1 1, zq_al 0, zq_k 0, zq_puti 8 7] [zq_kchk 1, zq_gochk, zq_is1chk 1, zq_alchk 0, zq_kchk 0, zq_putchk 8 7 .int] 25 rfl (by decide +kernel) ?_
    show zq_G _ _ _ _ _ 25 ([(0, .ref 14), (1, .int 1)], [], XH tx n t dr (nI Z, nI s, lt, nI s, rt, 0) w i0 i1 kp dd tr m)
    refine zq_eq (σ2 := ([(0, .ref 14), (1, .int 1)], [], XH tx n t dr (nI Z, nI (s + (0 : Nat)), lt, nI s, rt, nI (dvN bt s (0 : Nat))) w i0 i1 kp dd tr m)) (rfl) ?_
    refine zq_loop (fun i => ([(0, .ref 14), (1, .int 1)], [], XH tx n t dr (nI Z, nI (s + i), lt, nI s, rt, nI (dvN bt s i)) w i0 i1 kp dd tr m)) (fun i => True) (e - s) (0) (by omega) (trivial) (fun i hl25 hi25 hI25 ih25 => ?_) (fun hI25 => ?_)
    · show zq_G _ _ _ _ _ 25 ([(0, .ref 14), (1, .int 1)], [], XH tx n t dr (nI Z, nI (s + i), lt, nI s, rt, nI (dvN bt s i)) w i0 i1 kp dd tr m)
      have hr := hrun (s + i) (by omega) (by omega)
      have hbi := (hbt (s + i) hr.1).2
      have hdg := of_decide_eq_true hr.2
      have hvl := dvN_le bt s i
      refine zq_b [zq_al 0, zq_get 8 3, zq_al 0, zq_get 8 2] [zq_alchk 0, zq_getchk 8 3, zq_alchk 0, zq_getchk 8 2] 33 rfl (by decide +kernel) ?_
      show zq_G _ _ _ _ _ 33 ([(0, .ref 14), (1, .int 1)], [.int (nI Z), .int (nI (s + i))], XH tx n t dr (nI Z, nI (s + i), lt, nI s, rt, nI (dvN bt s i)) w i0 i1 kp dd tr m)
      refine zq_if .ge 93 (Z ≤ (s + i)) (by decide +kernel) (zq_cge (a := s + i) (b := Z) (by omega) (by omega)) (fun c33 => absurd c33 (by omega)) (fun c33 => ?_)
      show zq_G _ _ _ _ _ 36 ([(0, .ref 14), (1, .int 1)], [], XH tx n t dr (nI Z, nI (s + i), lt, nI s, rt, nI (dvN bt s i)) w i0 i1 kp dd tr m)
      refine zq_b [zq_al 0, zq_get 8 0, zq_al 0, zq_get 8 3, zq_iald (s + i) (nI (bt (s + i)))] [zq_alchk 0, zq_getchk 8 0, zq_alchk 0, zq_getchk 8 3, zq_is .iaload 1] 45 rfl (by decide +kernel) ?_
      refine ⟨rfl, (by omega), (by omega), (hbt _ (by omega)).1, ?_⟩
      show zq_G _ _ _ _ _ 45 ([(0, .ref 14), (1, .int 1)], [.int (nI (bt (s + i)))], XH tx n t dr (nI Z, nI (s + i), lt, nI s, rt, nI (dvN bt s i)) w i0 i1 kp dd tr m)
      refine zq_callS (av := [.int (nI (bt (s + i)))]) (rest := []) (by decide +kernel) k8_113 (c_isDigit (v := (bt (s + i))) (by omega)) rfl rfl ?_
      show zq_G _ _ _ _ _ 48 ([(0, .ref 14), (1, .int 1)], [.int (zb (48 ≤ (bt (s + i)) ∧ (bt (s + i)) ≤ 57))], XH tx n t dr (nI Z, nI (s + i), lt, nI s, rt, nI (dvN bt s i)) w i0 i1 kp dd tr m)
      refine zq_ifz .eq 93 (¬ (48 ≤ (bt (s + i)) ∧ (bt (s + i)) ≤ 57)) (by decide +kernel) (zb_eq _) (fun c48 => absurd c48 (fun q => q hdg)) (fun c48 => ?_)
      show zq_G _ _ _ _ _ 51 ([(0, .ref 14), (1, .int 1)], [], XH tx n t dr (nI Z, nI (s + i), lt, nI s, rt, nI (dvN bt s i)) w i0 i1 kp dd tr m)
      refine zq_b [zq_al 0, zq_al 0, zq_get 8 7, zq_k 10, zq_imul (nI ((dvN bt s i) * 10)), zq_al 0, zq_get 8 0, zq_al 0, zq_get 8 3, zq_iald (s + i) (nI (bt (s + i))), zq_iadd (nI (((dvN bt s i) * 10) + (bt (s + i)))), zq_k 48, zq_isub (nI (dvN bt s i * 10 + bt (s + i) - 48)), zq_k 100] [zq_alchk 0, zq_alchk 0, zq_getchk 8 7, zq_kchk 10, zq_is .imul 1, zq_alchk 0, zq_getchk 8 0, zq_alchk 0, zq_getchk 8 3, zq_is .iaload 1, zq_is .iadd 1, zq_kchk 48, zq_is .isub 1, zq_kchk 100] 74 rfl (by decide +kernel) ?_
      refine ⟨(pk_mul (dvN bt s i) 10), rfl, (by omega), (by omega), (hbt _ (by omega)).1, (nI_add ((dvN bt s i) * 10) (bt (s + i))), (pk_sub (a := dvN bt s i * 10 + bt (s + i)) (b := 48) (by omega)), ?_⟩
      show zq_G _ _ _ _ _ 74 ([(0, .ref 14), (1, .int 1)], [.int 100, .int (nI (dvN bt s i * 10 + bt (s + i) - 48)), .ref 14], XH tx n t dr (nI Z, nI (s + i), lt, nI s, rt, nI (dvN bt s i)) w i0 i1 kp dd tr m)
      refine zq_mmin (rest := [.ref 14]) (by decide +kernel) k8_19 rfl ?_
      show zq_G _ _ _ _ _ 77 ([(0, .ref 14), (1, .int 1)], [.int (if 100 < (nI (dvN bt s i * 10 + bt (s + i) - 48)) then 100 else (nI (dvN bt s i * 10 + bt (s + i) - 48))), .ref 14], XH tx n t dr (nI Z, nI (s + i), lt, nI s, rt, nI (dvN bt s i)) w i0 i1 kp dd tr m)
      refine zq_eq (σ2 := ([(0, .ref 14), (1, .int 1)], [.int (nI (min (dvN bt s i * 10 + bt (s + i) - 48) 100)), .ref 14], XH tx n t dr (nI Z, nI (s + i), lt, nI s, rt, nI (dvN bt s i)) w i0 i1 kp dd tr m)) (by rw [← nI_min (dvN bt s i * 10 + bt (s + i) - 48) 100 (by omega) (by omega)]; rfl) ?_
      refine zq_b [zq_puti 8 7, zq_al 0, zq_dup, zq_get 8 3, zq_k 1, zq_iadd (nI (s + i + 1)), zq_puti 8 3, zq_go] [zq_putchk 8 7 .int, zq_alchk 0, zq_is .dup 1, zq_getchk 8 3, zq_kchk 1, zq_is .iadd 1, zq_putchk 8 3 .int, zq_gochk] 25 rfl (by decide +kernel) ?_
      refine ⟨(nI_add (s + i) 1), ?_⟩
      show zq_G _ _ _ _ _ 25 ([(0, .ref 14), (1, .int 1)], [], XH tx n t dr (nI Z, nI (s + i + 1), lt, nI s, rt, nI (min (dvN bt s i * 10 + bt (s + i) - 48) 100)) w i0 i1 kp dd tr m)
      exact ih25 trivial
    · show zq_G _ _ _ _ _ 25 ([(0, .ref 14), (1, .int 1)], [], XH tx n t dr (nI Z, nI (s + (e - s)), lt, nI s, rt, nI (dvN bt s (e - s))) w i0 i1 kp dd tr m)
      have hbe : e < Z → bt e ≤ 255 := fun q => (hbt e q).2
      have hvl := dvN_le bt s (e - s)
      refine zq_eq (σ2 := ([(0, .ref 14), (1, .int 1)], [], XH tx n t dr (nI Z, nI e, lt, nI s, rt, nI (dvN bt s (e - s))) w i0 i1 kp dd tr m)) (by rw [show s + (e - s) = e by omega]) ?_
      refine zq_b [zq_al 0, zq_get 8 3, zq_al 0, zq_get 8 2] [zq_alchk 0, zq_getchk 8 3, zq_alchk 0, zq_getchk 8 2] 33 rfl (by decide +kernel) ?_
      show zq_G _ _ _ _ _ 33 ([(0, .ref 14), (1, .int 1)], [.int (nI Z), .int (nI e)], XH tx n t dr (nI Z, nI e, lt, nI s, rt, nI (dvN bt s (e - s))) w i0 i1 kp dd tr m)
      refine zq_if .ge 93 (Z ≤ e) (by decide +kernel) (zq_cge (a := e) (b := Z) (by omega) (by omega)) (fun c33 => ?_) (fun c33 => ?_)
      · show zq_G _ _ _ _ _ 93 ([(0, .ref 14), (1, .int 1)], [], XH tx n t dr (nI Z, nI e, lt, nI s, rt, nI (dvN bt s (e - s))) w i0 i1 kp dd tr m)
        refine zq_b [zq_al 0, zq_get 8 7, zq_k 99] [zq_alchk 0, zq_getchk 8 7, zq_kchk 99] 99 rfl (by decide +kernel) ?_
        show zq_G _ _ _ _ _ 99 ([(0, .ref 14), (1, .int 1)], [.int 99, .int (nI (dvN bt s (e - s)))], XH tx n t dr (nI Z, nI e, lt, nI s, rt, nI (dvN bt s (e - s))) w i0 i1 kp dd tr m)
        refine zq_if .gt 119 (99 < (dvN bt s (e - s))) (by decide +kernel) (zq_cgt (a := dvN bt s (e - s)) (b := 99) (by omega) (by omega)) (fun c99 => ?_) (fun c99 => ?_)
        · show zq_G _ _ _ _ _ 119 ([(0, .ref 14), (1, .int 1)], [], XH tx n t dr (nI Z, nI e, lt, nI s, rt, nI (dvN bt s (e - s))) w i0 i1 kp dd tr m)
          refine zq_b [zq_k 1, zq_go, zq_is1 2, zq_al 0, zq_il 2] [zq_kchk 1, zq_gochk, zq_is1chk 2, zq_alchk 0, zq_ilchk 2] 127 rfl (by decide +kernel) ?_
          show zq_G _ _ _ _ _ 127 ([(0, .ref 14), (1, .int 1), (2, .int 1)], [.int 1, .ref 14], XH tx n t dr (nI Z, nI e, lt, nI s, rt, nI (dvN bt s (e - s))) w i0 i1 kp dd tr m)
          refine zq_ifz .eq 134 (1 = 0) (by decide +kernel) (zq_ceq (a := 1) (b := 0) (by omega) (by omega)) (fun c127 => absurd c127 (by decide)) (fun c127 => ?_)
          show zq_G _ _ _ _ _ 130 ([(0, .ref 14), (1, .int 1), (2, .int 1)], [.ref 14], XH tx n t dr (nI Z, nI e, lt, nI s, rt, nI (dvN bt s (e - s))) w i0 i1 kp dd tr m)
          refine zq_b [zq_k 4, zq_go, zq_puti 8 6] [zq_kchk 4, zq_gochk, zq_putchk 8 6 .int] 138 rfl (by decide +kernel) ?_
          show zq_G _ _ _ _ _ 138 ([(0, .ref 14), (1, .int 1), (2, .int 1)], [], XH tx n t dr (nI Z, nI e, lt, nI s, 4, nI (dvN bt s (e - s))) w i0 i1 kp dd tr m)
          exact zq_vret (by decide +kernel) rfl rfl (by rw [if_pos (Or.inl c99)]; rfl)
        · show zq_G _ _ _ _ _ 102 ([(0, .ref 14), (1, .int 1)], [], XH tx n t dr (nI Z, nI e, lt, nI s, rt, nI (dvN bt s (e - s))) w i0 i1 kp dd tr m)
          refine zq_b [zq_il 1] [zq_ilchk 1] 103 rfl (by decide +kernel) ?_
          show zq_G _ _ _ _ _ 103 ([(0, .ref 14), (1, .int 1)], [.int 1], XH tx n t dr (nI Z, nI e, lt, nI s, rt, nI (dvN bt s (e - s))) w i0 i1 kp dd tr m)
          refine zq_ifz .eq 123 (1 = 0) (by decide +kernel) (zq_ceq (a := 1) (b := 0) (by omega) (by omega)) (fun c103 => absurd c103 (by decide)) (fun c103 => ?_)
          show zq_G _ _ _ _ _ 106 ([(0, .ref 14), (1, .int 1)], [], XH tx n t dr (nI Z, nI e, lt, nI s, rt, nI (dvN bt s (e - s))) w i0 i1 kp dd tr m)
          refine zq_b [zq_al 0, zq_get 8 3, zq_al 0, zq_get 8 5, zq_isub (nI (e - s)), zq_k 1] [zq_alchk 0, zq_getchk 8 3, zq_alchk 0, zq_getchk 8 5, zq_is .isub 1, zq_kchk 1] 116 rfl (by decide +kernel) ?_
          refine ⟨(pk_sub (a := e) (b := s) (by omega)), ?_⟩
          show zq_G _ _ _ _ _ 116 ([(0, .ref 14), (1, .int 1)], [.int 1, .int (nI (e - s))], XH tx n t dr (nI Z, nI e, lt, nI s, rt, nI (dvN bt s (e - s))) w i0 i1 kp dd tr m)
          refine zq_if .le 123 ((e - s) ≤ 1) (by decide +kernel) (zq_cle (a := e - s) (b := 1) (by omega) (by omega)) (fun c116 => ?_) (fun c116 => ?_)
          · show zq_G _ _ _ _ _ 123 ([(0, .ref 14), (1, .int 1)], [], XH tx n t dr (nI Z, nI e, lt, nI s, rt, nI (dvN bt s (e - s))) w i0 i1 kp dd tr m)
            refine zq_b [zq_k 0, zq_is1 2, zq_al 0, zq_il 2] [zq_kchk 0, zq_is1chk 2, zq_alchk 0, zq_ilchk 2] 127 rfl (by decide +kernel) ?_
            show zq_G _ _ _ _ _ 127 ([(0, .ref 14), (1, .int 1), (2, .int 0)], [.int 0, .ref 14], XH tx n t dr (nI Z, nI e, lt, nI s, rt, nI (dvN bt s (e - s))) w i0 i1 kp dd tr m)
            refine zq_ifz .eq 134 (0 = 0) (by decide +kernel) (zq_ceq (a := 0) (b := 0) (by omega) (by omega)) (fun c127 => ?_) (fun c127 => absurd rfl c127)
            show zq_G _ _ _ _ _ 134 ([(0, .ref 14), (1, .int 1), (2, .int 0)], [.ref 14], XH tx n t dr (nI Z, nI e, lt, nI s, rt, nI (dvN bt s (e - s))) w i0 i1 kp dd tr m)
            refine zq_b [zq_k 2, zq_puti 8 6] [zq_kchk 2, zq_putchk 8 6 .int] 138 rfl (by decide +kernel) ?_
            show zq_G _ _ _ _ _ 138 ([(0, .ref 14), (1, .int 1), (2, .int 0)], [], XH tx n t dr (nI Z, nI e, lt, nI s, 2, nI (dvN bt s (e - s))) w i0 i1 kp dd tr m)
            exact zq_vret (by decide +kernel) rfl rfl (by rw [if_neg (by omega)]; rfl)
          · show zq_G _ _ _ _ _ 119 ([(0, .ref 14), (1, .int 1)], [], XH tx n t dr (nI Z, nI e, lt, nI s, rt, nI (dvN bt s (e - s))) w i0 i1 kp dd tr m)
            refine zq_b [zq_k 1, zq_go, zq_is1 2, zq_al 0, zq_il 2] [zq_kchk 1, zq_gochk, zq_is1chk 2, zq_alchk 0, zq_ilchk 2] 127 rfl (by decide +kernel) ?_
            show zq_G _ _ _ _ _ 127 ([(0, .ref 14), (1, .int 1), (2, .int 1)], [.int 1, .ref 14], XH tx n t dr (nI Z, nI e, lt, nI s, rt, nI (dvN bt s (e - s))) w i0 i1 kp dd tr m)
            refine zq_ifz .eq 134 (1 = 0) (by decide +kernel) (zq_ceq (a := 1) (b := 0) (by omega) (by omega)) (fun c127 => absurd c127 (by decide)) (fun c127 => ?_)
            show zq_G _ _ _ _ _ 130 ([(0, .ref 14), (1, .int 1), (2, .int 1)], [.ref 14], XH tx n t dr (nI Z, nI e, lt, nI s, rt, nI (dvN bt s (e - s))) w i0 i1 kp dd tr m)
            refine zq_b [zq_k 4, zq_go, zq_puti 8 6] [zq_kchk 4, zq_gochk, zq_putchk 8 6 .int] 138 rfl (by decide +kernel) ?_
            show zq_G _ _ _ _ _ 138 ([(0, .ref 14), (1, .int 1), (2, .int 1)], [], XH tx n t dr (nI Z, nI e, lt, nI s, 4, nI (dvN bt s (e - s))) w i0 i1 kp dd tr m)
            exact zq_vret (by decide +kernel) rfl rfl (by rw [if_pos (Or.inr ⟨by omega, by omega⟩)]; rfl)
      · show zq_G _ _ _ _ _ 36 ([(0, .ref 14), (1, .int 1)], [], XH tx n t dr (nI Z, nI e, lt, nI s, rt, nI (dvN bt s (e - s))) w i0 i1 kp dd tr m)
        refine zq_b [zq_al 0, zq_get 8 0, zq_al 0, zq_get 8 3, zq_iald e (nI (bt e))] [zq_alchk 0, zq_getchk 8 0, zq_alchk 0, zq_getchk 8 3, zq_is .iaload 1] 45 rfl (by decide +kernel) ?_
        refine ⟨rfl, (by omega), (by omega), (hbt _ (by omega)).1, ?_⟩
        show zq_G _ _ _ _ _ 45 ([(0, .ref 14), (1, .int 1)], [.int (nI (bt e))], XH tx n t dr (nI Z, nI e, lt, nI s, rt, nI (dvN bt s (e - s))) w i0 i1 kp dd tr m)
        refine zq_callS (av := [.int (nI (bt e))]) (rest := []) (by decide +kernel) k8_113 (c_isDigit (v := (bt e)) (by have := hbe (by omega); omega)) rfl rfl ?_
        show zq_G _ _ _ _ _ 48 ([(0, .ref 14), (1, .int 1)], [.int (zb (48 ≤ (bt e) ∧ (bt e) ≤ 57))], XH tx n t dr (nI Z, nI e, lt, nI s, rt, nI (dvN bt s (e - s))) w i0 i1 kp dd tr m)
        refine zq_ifz .eq 93 (¬ (48 ≤ (bt e) ∧ (bt e) ≤ 57)) (by decide +kernel) (zb_eq _) (fun c48 => ?_) (fun c48 => absurd (fun q => hend ⟨by omega, decide_eq_true q⟩) c48)
        show zq_G _ _ _ _ _ 93 ([(0, .ref 14), (1, .int 1)], [], XH tx n t dr (nI Z, nI e, lt, nI s, rt, nI (dvN bt s (e - s))) w i0 i1 kp dd tr m)
        refine zq_b [zq_al 0, zq_get 8 7, zq_k 99] [zq_alchk 0, zq_getchk 8 7, zq_kchk 99] 99 rfl (by decide +kernel) ?_
        show zq_G _ _ _ _ _ 99 ([(0, .ref 14), (1, .int 1)], [.int 99, .int (nI (dvN bt s (e - s)))], XH tx n t dr (nI Z, nI e, lt, nI s, rt, nI (dvN bt s (e - s))) w i0 i1 kp dd tr m)
        refine zq_if .gt 119 (99 < (dvN bt s (e - s))) (by decide +kernel) (zq_cgt (a := dvN bt s (e - s)) (b := 99) (by omega) (by omega)) (fun c99 => ?_) (fun c99 => ?_)
        · show zq_G _ _ _ _ _ 119 ([(0, .ref 14), (1, .int 1)], [], XH tx n t dr (nI Z, nI e, lt, nI s, rt, nI (dvN bt s (e - s))) w i0 i1 kp dd tr m)
          refine zq_b [zq_k 1, zq_go, zq_is1 2, zq_al 0, zq_il 2] [zq_kchk 1, zq_gochk, zq_is1chk 2, zq_alchk 0, zq_ilchk 2] 127 rfl (by decide +kernel) ?_
          show zq_G _ _ _ _ _ 127 ([(0, .ref 14), (1, .int 1), (2, .int 1)], [.int 1, .ref 14], XH tx n t dr (nI Z, nI e, lt, nI s, rt, nI (dvN bt s (e - s))) w i0 i1 kp dd tr m)
          refine zq_ifz .eq 134 (1 = 0) (by decide +kernel) (zq_ceq (a := 1) (b := 0) (by omega) (by omega)) (fun c127 => absurd c127 (by decide)) (fun c127 => ?_)
          show zq_G _ _ _ _ _ 130 ([(0, .ref 14), (1, .int 1), (2, .int 1)], [.ref 14], XH tx n t dr (nI Z, nI e, lt, nI s, rt, nI (dvN bt s (e - s))) w i0 i1 kp dd tr m)
          refine zq_b [zq_k 4, zq_go, zq_puti 8 6] [zq_kchk 4, zq_gochk, zq_putchk 8 6 .int] 138 rfl (by decide +kernel) ?_
          show zq_G _ _ _ _ _ 138 ([(0, .ref 14), (1, .int 1), (2, .int 1)], [], XH tx n t dr (nI Z, nI e, lt, nI s, 4, nI (dvN bt s (e - s))) w i0 i1 kp dd tr m)
          exact zq_vret (by decide +kernel) rfl rfl (by rw [if_pos (Or.inl c99)]; rfl)
        · show zq_G _ _ _ _ _ 102 ([(0, .ref 14), (1, .int 1)], [], XH tx n t dr (nI Z, nI e, lt, nI s, rt, nI (dvN bt s (e - s))) w i0 i1 kp dd tr m)
          refine zq_b [zq_il 1] [zq_ilchk 1] 103 rfl (by decide +kernel) ?_
          show zq_G _ _ _ _ _ 103 ([(0, .ref 14), (1, .int 1)], [.int 1], XH tx n t dr (nI Z, nI e, lt, nI s, rt, nI (dvN bt s (e - s))) w i0 i1 kp dd tr m)
          refine zq_ifz .eq 123 (1 = 0) (by decide +kernel) (zq_ceq (a := 1) (b := 0) (by omega) (by omega)) (fun c103 => absurd c103 (by decide)) (fun c103 => ?_)
          show zq_G _ _ _ _ _ 106 ([(0, .ref 14), (1, .int 1)], [], XH tx n t dr (nI Z, nI e, lt, nI s, rt, nI (dvN bt s (e - s))) w i0 i1 kp dd tr m)
          refine zq_b [zq_al 0, zq_get 8 3, zq_al 0, zq_get 8 5, zq_isub (nI (e - s)), zq_k 1] [zq_alchk 0, zq_getchk 8 3, zq_alchk 0, zq_getchk 8 5, zq_is .isub 1, zq_kchk 1] 116 rfl (by decide +kernel) ?_
          refine ⟨(pk_sub (a := e) (b := s) (by omega)), ?_⟩
          show zq_G _ _ _ _ _ 116 ([(0, .ref 14), (1, .int 1)], [.int 1, .int (nI (e - s))], XH tx n t dr (nI Z, nI e, lt, nI s, rt, nI (dvN bt s (e - s))) w i0 i1 kp dd tr m)
          refine zq_if .le 123 ((e - s) ≤ 1) (by decide +kernel) (zq_cle (a := e - s) (b := 1) (by omega) (by omega)) (fun c116 => ?_) (fun c116 => ?_)
          · show zq_G _ _ _ _ _ 123 ([(0, .ref 14), (1, .int 1)], [], XH tx n t dr (nI Z, nI e, lt, nI s, rt, nI (dvN bt s (e - s))) w i0 i1 kp dd tr m)
            refine zq_b [zq_k 0, zq_is1 2, zq_al 0, zq_il 2] [zq_kchk 0, zq_is1chk 2, zq_alchk 0, zq_ilchk 2] 127 rfl (by decide +kernel) ?_
            show zq_G _ _ _ _ _ 127 ([(0, .ref 14), (1, .int 1), (2, .int 0)], [.int 0, .ref 14], XH tx n t dr (nI Z, nI e, lt, nI s, rt, nI (dvN bt s (e - s))) w i0 i1 kp dd tr m)
            refine zq_ifz .eq 134 (0 = 0) (by decide +kernel) (zq_ceq (a := 0) (b := 0) (by omega) (by omega)) (fun c127 => ?_) (fun c127 => absurd rfl c127)
            show zq_G _ _ _ _ _ 134 ([(0, .ref 14), (1, .int 1), (2, .int 0)], [.ref 14], XH tx n t dr (nI Z, nI e, lt, nI s, rt, nI (dvN bt s (e - s))) w i0 i1 kp dd tr m)
            refine zq_b [zq_k 2, zq_puti 8 6] [zq_kchk 2, zq_putchk 8 6 .int] 138 rfl (by decide +kernel) ?_
            show zq_G _ _ _ _ _ 138 ([(0, .ref 14), (1, .int 1), (2, .int 0)], [], XH tx n t dr (nI Z, nI e, lt, nI s, 2, nI (dvN bt s (e - s))) w i0 i1 kp dd tr m)
            exact zq_vret (by decide +kernel) rfl rfl (by rw [if_neg (by omega)]; rfl)
          · show zq_G _ _ _ _ _ 119 ([(0, .ref 14), (1, .int 1)], [], XH tx n t dr (nI Z, nI e, lt, nI s, rt, nI (dvN bt s (e - s))) w i0 i1 kp dd tr m)
            refine zq_b [zq_k 1, zq_go, zq_is1 2, zq_al 0, zq_il 2] [zq_kchk 1, zq_gochk, zq_is1chk 2, zq_alchk 0, zq_ilchk 2] 127 rfl (by decide +kernel) ?_
            show zq_G _ _ _ _ _ 127 ([(0, .ref 14), (1, .int 1), (2, .int 1)], [.int 1, .ref 14], XH tx n t dr (nI Z, nI e, lt, nI s, rt, nI (dvN bt s (e - s))) w i0 i1 kp dd tr m)
            refine zq_ifz .eq 134 (1 = 0) (by decide +kernel) (zq_ceq (a := 1) (b := 0) (by omega) (by omega)) (fun c127 => absurd c127 (by decide)) (fun c127 => ?_)
            show zq_G _ _ _ _ _ 130 ([(0, .ref 14), (1, .int 1), (2, .int 1)], [.ref 14], XH tx n t dr (nI Z, nI e, lt, nI s, rt, nI (dvN bt s (e - s))) w i0 i1 kp dd tr m)
            refine zq_b [zq_k 4, zq_go, zq_puti 8 6] [zq_kchk 4, zq_gochk, zq_putchk 8 6 .int] 138 rfl (by decide +kernel) ?_
            show zq_G _ _ _ _ _ 138 ([(0, .ref 14), (1, .int 1), (2, .int 1)], [], XH tx n t dr (nI Z, nI e, lt, nI s, 4, nI (dvN bt s (e - s))) w i0 i1 kp dd tr m)
            exact zq_vret (by decide +kernel) rfl rfl (by rw [if_pos (Or.inr ⟨by omega, by omega⟩)]; rfl)
set_option maxHeartbeats 4000000 in
set_option maxRecDepth 100000 in
theorem n_end {s : Nat} (hZ : Z ≤ 200) (hbt : ∀ j, j < Z → tx j = nI (bt j) ∧ bt j ≤ 255) (has : a ≤ s) (hsp : ∀ j, a ≤ j → j < s → j < Z ∧ bt j = 32) (hs : s = Z) : zq_P l mX8_nextToken 2 [.ref 14] (XH tx n t dr (nI Z, nI a, lt, rs, rt, rv) w i0 i1 kp dd tr m) none (XH tx n t dr (nI Z, nI s, lt, nI s, 0, rv) w i0 i1 kp dd tr m) := by
  refine zq_start (by decide +kernel) rfl (Nat.le_of_ble_eq_true rfl) ?_
  show zq_G _ _ _ _ _ 0 ([(0, .ref 14)], [], XH tx n t dr (nI Z, nI a, lt, rs, rt, rv) w i0 i1 kp dd tr m)
  refine zq_loop (fun i => ([(0, .ref 14)], [], XH tx n t dr (nI Z, nI (a + i), lt, rs, rt, rv) w i0 i1 kp dd tr m)) (fun i => True) (s - a) (0) (by omega) (trivial) (fun i hl0 hi0 hI0 ih0 => ?_) (fun hI0 => ?_)
  · show zq_G _ _ _ _ _ 0 ([(0, .ref 14)], [], XH tx n t dr (nI Z, nI (a + i), lt, rs, rt, rv) w i0 i1 kp dd tr m)
    have hr := hsp (a + i) (by omega) (by omega)
    have hbi := (hbt (a + i) hr.1).2
    refine zq_b [zq_al 0, zq_get 8 3, zq_al 0, zq_get 8 2] [zq_alchk 0, zq_getchk 8 3, zq_alchk 0, zq_getchk 8 2] 8 rfl (by decide +kernel) ?_
    show zq_G _ _ _ _ _ 8 ([(0, .ref 14)], [.int (nI Z), .int (nI (a + i))], XH tx n t dr (nI Z, nI (a + i), lt, rs, rt, rv) w i0 i1 kp dd tr m)
    refine zq_if .ge 38 (Z ≤ (a + i)) (by decide +kernel) (zq_cge (a := a + i) (b := Z) (by omega) (by omega)) (fun c8 => absurd c8 (by omega)) (fun c8 => ?_)
    show zq_G _ _ _ _ _ 11 ([(0, .ref 14)], [], XH tx n t dr (nI Z, nI (a + i), lt, rs, rt, rv) w i0 i1 kp dd tr m)
    refine zq_b [zq_al 0, zq_get 8 0, zq_al 0, zq_get 8 3, zq_iald (a + i) (nI (bt (a + i))), zq_k 32] [zq_alchk 0, zq_getchk 8 0, zq_alchk 0, zq_getchk 8 3, zq_is .iaload 1, zq_kchk 32] 22 rfl (by decide +kernel) ?_
    refine ⟨rfl, (by omega), (by omega), (hbt _ (by omega)).1, ?_⟩
    show zq_G _ _ _ _ _ 22 ([(0, .ref 14)], [.int 32, .int (nI (bt (a + i)))], XH tx n t dr (nI Z, nI (a + i), lt, rs, rt, rv) w i0 i1 kp dd tr m)
    refine zq_if .ne 38 (¬ (bt (a + i)) = 32) (by decide +kernel) (zq_cne (a := bt (a + i)) (b := 32) (by omega) (by omega)) (fun c22 => absurd c22 (by omega)) (fun c22 => ?_)
    show zq_G _ _ _ _ _ 25 ([(0, .ref 14)], [], XH tx n t dr (nI Z, nI (a + i), lt, rs, rt, rv) w i0 i1 kp dd tr m)
    refine zq_b [zq_al 0, zq_dup, zq_get 8 3, zq_k 1, zq_iadd (nI (a + i + 1)), zq_puti 8 3, zq_go] [zq_alchk 0, zq_is .dup 1, zq_getchk 8 3, zq_kchk 1, zq_is .iadd 1, zq_putchk 8 3 .int, zq_gochk] 0 rfl (by decide +kernel) ?_
    refine ⟨(nI_add (a + i) 1), ?_⟩
    show zq_G _ _ _ _ _ 0 ([(0, .ref 14)], [], XH tx n t dr (nI Z, nI (a + i + 1), lt, rs, rt, rv) w i0 i1 kp dd tr m)
    exact ih0 trivial
  · show zq_G _ _ _ _ _ 0 ([(0, .ref 14)], [], XH tx n t dr (nI Z, nI (a + (s - a)), lt, rs, rt, rv) w i0 i1 kp dd tr m)
    refine zq_eq (σ2 := ([(0, .ref 14)], [], XH tx n t dr (nI Z, nI s, lt, rs, rt, rv) w i0 i1 kp dd tr m)) (by rw [show a + (s - a) = s by omega]) ?_
    refine zq_b [zq_al 0, zq_get 8 3, zq_al 0, zq_get 8 2] [zq_alchk 0, zq_getchk 8 3, zq_alchk 0, zq_getchk 8 2] 8 rfl (by decide +kernel) ?_
    show zq_G _ _ _ _ _ 8 ([(0, .ref 14)], [.int (nI Z), .int (nI s)], XH tx n t dr (nI Z, nI s, lt, rs, rt, rv) w i0 i1 kp dd tr m)
    refine zq_if .ge 38 (Z ≤ s) (by decide +kernel) (zq_cge (a := s) (b := Z) (by omega) (by omega)) (fun c8 => ?_) (fun c8 => absurd (by omega) c8)
    show zq_G _ _ _ _ _ 38 ([(0, .ref 14)], [], XH tx n t dr (nI Z, nI s, lt, rs, rt, rv) w i0 i1 kp dd tr m)
    refine zq_b [zq_al 0, zq_al 0, zq_get 8 3, zq_puti 8 5, zq_al 0, zq_get 8 3, zq_al 0, zq_get 8 2] [zq_alchk 0, zq_alchk 0, zq_getchk 8 3, zq_putchk 8 5 .int, zq_alchk 0, zq_getchk 8 3, zq_alchk 0, zq_getchk 8 2] 54 rfl (by decide +kernel) ?_
    show zq_G _ _ _ _ _ 54 ([(0, .ref 14)], [.int (nI Z), .int (nI s)], XH tx n t dr (nI Z, nI s, lt, nI s, rt, rv) w i0 i1 kp dd tr m)
    refine zq_if .lt 65 (s < Z) (by decide +kernel) (zq_clt (a := s) (b := Z) (by omega) (by omega)) (fun c54 => absurd c54 (by omega)) (fun c54 => ?_)
    show zq_G _ _ _ _ _ 57 ([(0, .ref 14)], [], XH tx n t dr (nI Z, nI s, lt, nI s, rt, rv) w i0 i1 kp dd tr m)
    refine zq_b [zq_al 0, zq_k 0, zq_puti 8 6, zq_go] [zq_alchk 0, zq_kchk 0, zq_putchk 8 6 .int, zq_gochk] 142 rfl (by decide +kernel) ?_
    show zq_G _ _ _ _ _ 142 ([(0, .ref 14)], [], XH tx n t dr (nI Z, nI s, lt, nI s, 0, rv) w i0 i1 kp dd tr m)
    exact zq_vret (by decide +kernel) rfl rfl rfl
set_option maxHeartbeats 4000000 in
set_option maxRecDepth 100000 in
theorem n_let {s : Nat} {e : Nat} (hZ : Z ≤ 200) (hbt : ∀ j, j < Z → tx j = nI (bt j) ∧ bt j ≤ 255) (has : a ≤ s) (hsp : ∀ j, a ≤ j → j < s → j < Z ∧ bt j = 32) (hs : s < Z) (hns : ¬ bt s = 32) (hl : 97 ≤ bt s ∧ bt s ≤ 122) (he1 : s + 1 ≤ e) (he2 : e ≤ Z) (hrun : ∀ j, s + 1 ≤ j → j < e → j < Z ∧ letB bt j = true) (hend : ¬ (e < Z ∧ letB bt e = true)) : zq_P l mX8_nextToken 2 [.ref 14] (XH tx n t dr (nI Z, nI a, lt, rs, rt, rv) w i0 i1 kp dd tr m) none (XH tx n t dr (nI Z, nI e, lt, nI s, 1, if e = s + 1 then nI (bt s) else 0) w i0 i1 kp dd tr m) := by
  refine zq_start (by decide +kernel) rfl (Nat.le_of_ble_eq_true rfl) ?_
  show zq_G _ _ _ _ _ 0 ([(0, .ref 14)], [], XH tx n t dr (nI Z, nI a, lt, rs, rt, rv) w i0 i1 kp dd tr m)
  refine zq_loop (fun i => ([(0, .ref 14)], [], XH tx n t dr (nI Z, nI (a + i), lt, rs, rt, rv) w i0 i1 kp dd tr m)) (fun i => True) (s - a) (0) (by omega) (trivial) (fun i hl0 hi0 hI0 ih0 => ?_) (fun hI0 => ?_)
  · show zq_G _ _ _ _ _ 0 ([(0, .ref 14)], [], XH tx n t dr (nI Z, nI (a + i), lt, rs, rt, rv) w i0 i1 kp dd tr m)
    have hr := hsp (a + i) (by omega) (by omega)
    have hbi := (hbt (a + i) hr.1).2
    refine zq_b [zq_al 0, zq_get 8 3, zq_al 0, zq_get 8 2] [zq_alchk 0, zq_getchk 8 3, zq_alchk 0, zq_getchk 8 2] 8 rfl (by decide +kernel) ?_
    show zq_G _ _ _ _ _ 8 ([(0, .ref 14)], [.int (nI Z), .int (nI (a + i))], XH tx n t dr (nI Z, nI (a + i), lt, rs, rt, rv) w i0 i1 kp dd tr m)
    refine zq_if .ge 38 (Z ≤ (a + i)) (by decide +kernel) (zq_cge (a := a + i) (b := Z) (by omega) (by omega)) (fun c8 => absurd c8 (by omega)) (fun c8 => ?_)
    show zq_G _ _ _ _ _ 11 ([(0, .ref 14)], [], XH tx n t dr (nI Z, nI (a + i), lt, rs, rt, rv) w i0 i1 kp dd tr m)
    refine zq_b [zq_al 0, zq_get 8 0, zq_al 0, zq_get 8 3, zq_iald (a + i) (nI (bt (a + i))), zq_k 32] [zq_alchk 0, zq_getchk 8 0, zq_alchk 0, zq_getchk 8 3, zq_is .iaload 1, zq_kchk 32] 22 rfl (by decide +kernel) ?_
    refine ⟨rfl, (by omega), (by omega), (hbt _ (by omega)).1, ?_⟩
    show zq_G _ _ _ _ _ 22 ([(0, .ref 14)], [.int 32, .int (nI (bt (a + i)))], XH tx n t dr (nI Z, nI (a + i), lt, rs, rt, rv) w i0 i1 kp dd tr m)
    refine zq_if .ne 38 (¬ (bt (a + i)) = 32) (by decide +kernel) (zq_cne (a := bt (a + i)) (b := 32) (by omega) (by omega)) (fun c22 => absurd c22 (by omega)) (fun c22 => ?_)
    show zq_G _ _ _ _ _ 25 ([(0, .ref 14)], [], XH tx n t dr (nI Z, nI (a + i), lt, rs, rt, rv) w i0 i1 kp dd tr m)
    refine zq_b [zq_al 0, zq_dup, zq_get 8 3, zq_k 1, zq_iadd (nI (a + i + 1)), zq_puti 8 3, zq_go] [zq_alchk 0, zq_is .dup 1, zq_getchk 8 3, zq_kchk 1, zq_is .iadd 1, zq_putchk 8 3 .int, zq_gochk] 0 rfl (by decide +kernel) ?_
    refine ⟨(nI_add (a + i) 1), ?_⟩
    show zq_G _ _ _ _ _ 0 ([(0, .ref 14)], [], XH tx n t dr (nI Z, nI (a + i + 1), lt, rs, rt, rv) w i0 i1 kp dd tr m)
    exact ih0 trivial
  · show zq_G _ _ _ _ _ 0 ([(0, .ref 14)], [], XH tx n t dr (nI Z, nI (a + (s - a)), lt, rs, rt, rv) w i0 i1 kp dd tr m)
    have hbs := (hbt s hs).2
    refine zq_eq (σ2 := ([(0, .ref 14)], [], XH tx n t dr (nI Z, nI s, lt, rs, rt, rv) w i0 i1 kp dd tr m)) (by rw [show a + (s - a) = s by omega]) ?_
    refine zq_b [zq_al 0, zq_get 8 3, zq_al 0, zq_get 8 2] [zq_alchk 0, zq_getchk 8 3, zq_alchk 0, zq_getchk 8 2] 8 rfl (by decide +kernel) ?_
    show zq_G _ _ _ _ _ 8 ([(0, .ref 14)], [.int (nI Z), .int (nI s)], XH tx n t dr (nI Z, nI s, lt, rs, rt, rv) w i0 i1 kp dd tr m)
    refine zq_if .ge 38 (Z ≤ s) (by decide +kernel) (zq_cge (a := s) (b := Z) (by omega) (by omega)) (fun c8 => absurd c8 (by omega)) (fun c8 => ?_)
    show zq_G _ _ _ _ _ 11 ([(0, .ref 14)], [], XH tx n t dr (nI Z, nI s, lt, rs, rt, rv) w i0 i1 kp dd tr m)
    refine zq_b [zq_al 0, zq_get 8 0, zq_al 0, zq_get 8 3, zq_iald s (nI (bt s)), zq_k 32] [zq_alchk 0, zq_getchk 8 0, zq_alchk 0, zq_getchk 8 3, zq_is .iaload 1, zq_kchk 32] 22 rfl (by decide +kernel) ?_
    refine ⟨rfl, (by omega), (by omega), (hbt _ (by omega)).1, ?_⟩
    show zq_G _ _ _ _ _ 22 ([(0, .ref 14)], [.int 32, .int (nI (bt s))], XH tx n t dr (nI Z, nI s, lt, rs, rt, rv) w i0 i1 kp dd tr m)
    refine zq_if .ne 38 (¬ (bt s) = 32) (by decide +kernel) (zq_cne (a := bt s) (b := 32) (by omega) (by omega)) (fun c22 => ?_) (fun c22 => absurd (by omega) c22)
    show zq_G _ _ _ _ _ 38 ([(0, .ref 14)], [], XH tx n t dr (nI Z, nI s, lt, rs, rt, rv) w i0 i1 kp dd tr m)
    refine zq_b [zq_al 0, zq_al 0, zq_get 8 3, zq_puti 8 5, zq_al 0, zq_get 8 3, zq_al 0, zq_get 8 2] [zq_alchk 0, zq_alchk 0, zq_getchk 8 3, zq_putchk 8 5 .int, zq_alchk 0, zq_getchk 8 3, zq_alchk 0, zq_getchk 8 2] 54 rfl (by decide +kernel) ?_
    show zq_G _ _ _ _ _ 54 ([(0, .ref 14)], [.int (nI Z), .int (nI s)], XH tx n t dr (nI Z, nI s, lt, nI s, rt, rv) w i0 i1 kp dd tr m)
    refine zq_if .lt 65 (s < Z) (by decide +kernel) (zq_clt (a := s) (b := Z) (by omega) (by omega)) (fun c54 => ?_) (fun c54 => absurd (by omega) c54)
    show zq_G _ _ _ _ _ 65 ([(0, .ref 14)], [], XH tx n t dr (nI Z, nI s, lt, nI s, rt, rv) w i0 i1 kp dd tr m)
    refine zq_b [zq_al 0, zq_get 8 0, zq_al 0, zq_get 8 3, zq_iald s (nI (bt s))] [zq_alchk 0, zq_getchk 8 0, zq_alchk 0, zq_getchk 8 3, zq_is .iaload 1] 74 rfl (by decide +kernel) ?_
    refine ⟨rfl, (by omega), (by omega), (hbt _ (by omega)).1, ?_⟩
    show zq_G _ _ _ _ _ 74 ([(0, .ref 14)], [.int (nI (bt s))], XH tx n t dr (nI Z, nI s, lt, nI s, rt, rv) w i0 i1 kp dd tr m)
    refine zq_callS (av := [.int (nI (bt s))]) (rest := []) (by decide +kernel) k8_107 (c_isLetter (v := (bt s)) (by omega)) rfl rfl ?_
    show zq_G _ _ _ _ _ 77 ([(0, .ref 14)], [.int (zb (97 ≤ (bt s) ∧ (bt s) ≤ 122))], XH tx n t dr (nI Z, nI s, lt, nI s, rt, rv) w i0 i1 kp dd tr m)
    refine zq_ifz .eq 87 (¬ (97 ≤ (bt s) ∧ (bt s) ≤ 122)) (by decide +kernel) (zb_eq _) (fun c77 => absurd c77 (fun q => q hl)) (fun c77 => ?_)
    show zq_G _ _ _ _ _ 80 ([(0, .ref 14)], [], XH tx n t dr (nI Z, nI s, lt, nI s, rt, rv) w i0 i1 kp dd tr m)
    refine zq_b [zq_al 0] [zq_alchk 0] 81 rfl (by decide +kernel) ?_
    show zq_G _ _ _ _ _ 81 ([(0, .ref 14)], [.ref 14], XH tx n t dr (nI Z, nI s, lt, nI s, rt, rv) w i0 i1 kp dd tr m)
    refine zq_callV (av := []) (rest := []) (by decide +kernel) k8_110 (c_takeLetters (s := s) (e := e) hZ hbt hs he1 he2 hrun hend) rfl rfl rfl rfl ?_
    show zq_G _ _ _ _ _ 84 ([(0, .ref 14)], [], XH tx n t dr (nI Z, nI e, lt, nI s, 1, if e = s + 1 then nI (bt s) else 0) w i0 i1 kp dd tr m)
    refine zq_b [zq_go] [zq_gochk] 142 rfl (by decide +kernel) ?_
    show zq_G _ _ _ _ _ 142 ([(0, .ref 14)], [], XH tx n t dr (nI Z, nI e, lt, nI s, 1, if e = s + 1 then nI (bt s) else 0) w i0 i1 kp dd tr m)
    exact zq_vret (by decide +kernel) rfl rfl rfl
set_option maxHeartbeats 4000000 in
set_option maxRecDepth 100000 in
theorem n_dig {s : Nat} {e : Nat} (hZ : Z ≤ 200) (hbt : ∀ j, j < Z → tx j = nI (bt j) ∧ bt j ≤ 255) (has : a ≤ s) (hsp : ∀ j, a ≤ j → j < s → j < Z ∧ bt j = 32) (hs : s < Z) (hns : ¬ bt s = 32) (hl : ¬ (97 ≤ bt s ∧ bt s ≤ 122)) (hd : 48 ≤ bt s ∧ bt s ≤ 57) (he1 : s ≤ e) (he2 : e ≤ Z) (hrun : ∀ j, s ≤ j → j < e → j < Z ∧ digB bt j = true) (hend : ¬ (e < Z ∧ digB bt e = true)) : zq_P l mX8_nextToken 2 [.ref 14] (XH tx n t dr (nI Z, nI a, lt, rs, rt, rv) w i0 i1 kp dd tr m) none (XH tx n t dr (nI Z, nI e, lt, nI s, nI (if 99 < dvN bt s (e - s) ∨ (bt s = 48 ∧ 1 < e - s) then 4 else 2), nI (dvN bt s (e - s))) w i0 i1 kp dd tr m) := by
  refine zq_start (by decide +kernel) rfl (Nat.le_of_ble_eq_true rfl) ?_
  show zq_G _ _ _ _ _ 0 ([(0, .ref 14)], [], XH tx n t dr (nI Z, nI a, lt, rs, rt, rv) w i0 i1 kp dd tr m)
  refine zq_loop (fun i => ([(0, .ref 14)], [], XH tx n t dr (nI Z, nI (a + i), lt, rs, rt, rv) w i0 i1 kp dd tr m)) (fun i => True) (s - a) (0) (by omega) (trivial) (fun i hl0 hi0 hI0 ih0 => ?_) (fun hI0 => ?_)
  · show zq_G _ _ _ _ _ 0 ([(0, .ref 14)], [], XH tx n t dr (nI Z, nI (a + i), lt, rs, rt, rv) w i0 i1 kp dd tr m)
    have hr := hsp (a + i) (by omega) (by omega)
    have hbi := (hbt (a + i) hr.1).2
    refine zq_b [zq_al 0, zq_get 8 3, zq_al 0, zq_get 8 2] [zq_alchk 0, zq_getchk 8 3, zq_alchk 0, zq_getchk 8 2] 8 rfl (by decide +kernel) ?_
    show zq_G _ _ _ _ _ 8 ([(0, .ref 14)], [.int (nI Z), .int (nI (a + i))], XH tx n t dr (nI Z, nI (a + i), lt, rs, rt, rv) w i0 i1 kp dd tr m)
    refine zq_if .ge 38 (Z ≤ (a + i)) (by decide +kernel) (zq_cge (a := a + i) (b := Z) (by omega) (by omega)) (fun c8 => absurd c8 (by omega)) (fun c8 => ?_)
    show zq_G _ _ _ _ _ 11 ([(0, .ref 14)], [], XH tx n t dr (nI Z, nI (a + i), lt, rs, rt, rv) w i0 i1 kp dd tr m)
    refine zq_b [zq_al 0, zq_get 8 0, zq_al 0, zq_get 8 3, zq_iald (a + i) (nI (bt (a + i))), zq_k 32] [zq_alchk 0, zq_getchk 8 0, zq_alchk 0, zq_getchk 8 3, zq_is .iaload 1, zq_kchk 32] 22 rfl (by decide +kernel) ?_
    refine ⟨rfl, (by omega), (by omega), (hbt _ (by omega)).1, ?_⟩
    show zq_G _ _ _ _ _ 22 ([(0, .ref 14)], [.int 32, .int (nI (bt (a + i)))], XH tx n t dr (nI Z, nI (a + i), lt, rs, rt, rv) w i0 i1 kp dd tr m)
    refine zq_if .ne 38 (¬ (bt (a + i)) = 32) (by decide +kernel) (zq_cne (a := bt (a + i)) (b := 32) (by omega) (by omega)) (fun c22 => absurd c22 (by omega)) (fun c22 => ?_)
    show zq_G _ _ _ _ _ 25 ([(0, .ref 14)], [], XH tx n t dr (nI Z, nI (a + i), lt, rs, rt, rv) w i0 i1 kp dd tr m)
    refine zq_b [zq_al 0, zq_dup, zq_get 8 3, zq_k 1, zq_iadd (nI (a + i + 1)), zq_puti 8 3, zq_go] [zq_alchk 0, zq_is .dup 1, zq_getchk 8 3, zq_kchk 1, zq_is .iadd 1, zq_putchk 8 3 .int, zq_gochk] 0 rfl (by decide +kernel) ?_
    refine ⟨(nI_add (a + i) 1), ?_⟩
    show zq_G _ _ _ _ _ 0 ([(0, .ref 14)], [], XH tx n t dr (nI Z, nI (a + i + 1), lt, rs, rt, rv) w i0 i1 kp dd tr m)
    exact ih0 trivial
  · show zq_G _ _ _ _ _ 0 ([(0, .ref 14)], [], XH tx n t dr (nI Z, nI (a + (s - a)), lt, rs, rt, rv) w i0 i1 kp dd tr m)
    have hbs := (hbt s hs).2
    refine zq_eq (σ2 := ([(0, .ref 14)], [], XH tx n t dr (nI Z, nI s, lt, rs, rt, rv) w i0 i1 kp dd tr m)) (by rw [show a + (s - a) = s by omega]) ?_
    refine zq_b [zq_al 0, zq_get 8 3, zq_al 0, zq_get 8 2] [zq_alchk 0, zq_getchk 8 3, zq_alchk 0, zq_getchk 8 2] 8 rfl (by decide +kernel) ?_
    show zq_G _ _ _ _ _ 8 ([(0, .ref 14)], [.int (nI Z), .int (nI s)], XH tx n t dr (nI Z, nI s, lt, rs, rt, rv) w i0 i1 kp dd tr m)
    refine zq_if .ge 38 (Z ≤ s) (by decide +kernel) (zq_cge (a := s) (b := Z) (by omega) (by omega)) (fun c8 => absurd c8 (by omega)) (fun c8 => ?_)
    show zq_G _ _ _ _ _ 11 ([(0, .ref 14)], [], XH tx n t dr (nI Z, nI s, lt, rs, rt, rv) w i0 i1 kp dd tr m)
    refine zq_b [zq_al 0, zq_get 8 0, zq_al 0, zq_get 8 3, zq_iald s (nI (bt s)), zq_k 32] [zq_alchk 0, zq_getchk 8 0, zq_alchk 0, zq_getchk 8 3, zq_is .iaload 1, zq_kchk 32] 22 rfl (by decide +kernel) ?_
    refine ⟨rfl, (by omega), (by omega), (hbt _ (by omega)).1, ?_⟩
    show zq_G _ _ _ _ _ 22 ([(0, .ref 14)], [.int 32, .int (nI (bt s))], XH tx n t dr (nI Z, nI s, lt, rs, rt, rv) w i0 i1 kp dd tr m)
    refine zq_if .ne 38 (¬ (bt s) = 32) (by decide +kernel) (zq_cne (a := bt s) (b := 32) (by omega) (by omega)) (fun c22 => ?_) (fun c22 => absurd (by omega) c22)
    show zq_G _ _ _ _ _ 38 ([(0, .ref 14)], [], XH tx n t dr (nI Z, nI s, lt, rs, rt, rv) w i0 i1 kp dd tr m)
    refine zq_b [zq_al 0, zq_al 0, zq_get 8 3, zq_puti 8 5, zq_al 0, zq_get 8 3, zq_al 0, zq_get 8 2] [zq_alchk 0, zq_alchk 0, zq_getchk 8 3, zq_putchk 8 5 .int, zq_alchk 0, zq_getchk 8 3, zq_alchk 0, zq_getchk 8 2] 54 rfl (by decide +kernel) ?_
    show zq_G _ _ _ _ _ 54 ([(0, .ref 14)], [.int (nI Z), .int (nI s)], XH tx n t dr (nI Z, nI s, lt, nI s, rt, rv) w i0 i1 kp dd tr m)
    refine zq_if .lt 65 (s < Z) (by decide +kernel) (zq_clt (a := s) (b := Z) (by omega) (by omega)) (fun c54 => ?_) (fun c54 => absurd (by omega) c54)
    show zq_G _ _ _ _ _ 65 ([(0, .ref 14)], [], XH tx n t dr (nI Z, nI s, lt, nI s, rt, rv) w i0 i1 kp dd tr m)
    refine zq_b [zq_al 0, zq_get 8 0, zq_al 0, zq_get 8 3, zq_iald s (nI (bt s))] [zq_alchk 0, zq_getchk 8 0, zq_alchk 0, zq_getchk 8 3, zq_is .iaload 1] 74 rfl (by decide +kernel) ?_
    refine ⟨rfl, (by omega), (by omega), (hbt _ (by omega)).1, ?_⟩
    show zq_G _ _ _ _ _ 74 ([(0, .ref 14)], [.int (nI (bt s))], XH tx n t dr (nI Z, nI s, lt, nI s, rt, rv) w i0 i1 kp dd tr m)
    refine zq_callS (av := [.int (nI (bt s))]) (rest := []) (by decide +kernel) k8_107 (c_isLetter (v := (bt s)) (by omega)) rfl rfl ?_
    show zq_G _ _ _ _ _ 77 ([(0, .ref 14)], [.int (zb (97 ≤ (bt s) ∧ (bt s) ≤ 122))], XH tx n t dr (nI Z, nI s, lt, nI s, rt, rv) w i0 i1 kp dd tr m)
    refine zq_ifz .eq 87 (¬ (97 ≤ (bt s) ∧ (bt s) ≤ 122)) (by decide +kernel) (zb_eq _) (fun c77 => ?_) (fun c77 => absurd hl c77)
    show zq_G _ _ _ _ _ 87 ([(0, .ref 14)], [], XH tx n t dr (nI Z, nI s, lt, nI s, rt, rv) w i0 i1 kp dd tr m)
    refine zq_b [zq_al 0, zq_get 8 0, zq_al 0, zq_get 8 3, zq_iald s (nI (bt s))] [zq_alchk 0, zq_getchk 8 0, zq_alchk 0, zq_getchk 8 3, zq_is .iaload 1] 96 rfl (by decide +kernel) ?_
    refine ⟨rfl, (by omega), (by omega), (hbt _ (by omega)).1, ?_⟩
    show zq_G _ _ _ _ _ 96 ([(0, .ref 14)], [.int (nI (bt s))], XH tx n t dr (nI Z, nI s, lt, nI s, rt, rv) w i0 i1 kp dd tr m)
    refine zq_callS (av := [.int (nI (bt s))]) (rest := []) (by decide +kernel) k8_113 (c_isDigit (v := (bt s)) (by omega)) rfl rfl ?_
    show zq_G _ _ _ _ _ 99 ([(0, .ref 14)], [.int (zb (48 ≤ (bt s) ∧ (bt s) ≤ 57))], XH tx n t dr (nI Z, nI s, lt, nI s, rt, rv) w i0 i1 kp dd tr m)
    refine zq_ifz .eq 109 (¬ (48 ≤ (bt s) ∧ (bt s) ≤ 57)) (by decide +kernel) (zb_eq _) (fun c99 => absurd c99 (fun q => q hd)) (fun c99 => ?_)
    show zq_G _ _ _ _ _ 102 ([(0, .ref 14)], [], XH tx n t dr (nI Z, nI s, lt, nI s, rt, rv) w i0 i1 kp dd tr m)
    refine zq_b [zq_al 0] [zq_alchk 0] 103 rfl (by decide +kernel) ?_
    show zq_G _ _ _ _ _ 103 ([(0, .ref 14)], [.ref 14], XH tx n t dr (nI Z, nI s, lt, nI s, rt, rv) w i0 i1 kp dd tr m)
    refine zq_callV (av := []) (rest := []) (by decide +kernel) k8_116 (c_takeDigits (s := s) (e := e) hZ hbt hs he1 he2 hrun hend) rfl rfl rfl rfl ?_
    show zq_G _ _ _ _ _ 106 ([(0, .ref 14)], [], XH tx n t dr (nI Z, nI e, lt, nI s, nI (if 99 < dvN bt s (e - s) ∨ (bt s = 48 ∧ 1 < e - s) then 4 else 2), nI (dvN bt s (e - s))) w i0 i1 kp dd tr m)
    refine zq_b [zq_go] [zq_gochk] 142 rfl (by decide +kernel) ?_
    show zq_G _ _ _ _ _ 142 ([(0, .ref 14)], [], XH tx n t dr (nI Z, nI e, lt, nI s, nI (if 99 < dvN bt s (e - s) ∨ (bt s = 48 ∧ 1 < e - s) then 4 else 2), nI (dvN bt s (e - s))) w i0 i1 kp dd tr m)
    exact zq_vret (by decide +kernel) rfl rfl rfl
set_option maxHeartbeats 4000000 in
set_option maxRecDepth 100000 in
theorem n_stop {s : Nat} (hZ : Z ≤ 200) (hbt : ∀ j, j < Z → tx j = nI (bt j) ∧ bt j ≤ 255) (has : a ≤ s) (hsp : ∀ j, a ≤ j → j < s → j < Z ∧ bt j = 32) (hs : s < Z) (hns : ¬ bt s = 32) (hl : ¬ (97 ≤ bt s ∧ bt s ≤ 122)) (hd : ¬ (48 ≤ bt s ∧ bt s ≤ 57)) (h59 : bt s = 59) : zq_P l mX8_nextToken 2 [.ref 14] (XH tx n t dr (nI Z, nI a, lt, rs, rt, rv) w i0 i1 kp dd tr m) none (XH tx n t dr (nI Z, nI (s + 1), lt, nI s, 3, rv) w i0 i1 kp dd tr m) := by
  refine zq_start (by decide +kernel) rfl (Nat.le_of_ble_eq_true rfl) ?_
  show zq_G _ _ _ _ _ 0 ([(0, .ref 14)], [], XH tx n t dr (nI Z, nI a, lt, rs, rt, rv) w i0 i1 kp dd tr m)
  refine zq_loop (fun i => ([(0, .ref 14)], [], XH tx n t dr (nI Z, nI (a + i), lt, rs, rt, rv) w i0 i1 kp dd tr m)) (fun i => True) (s - a) (0) (by omega) (trivial) (fun i hl0 hi0 hI0 ih0 => ?_) (fun hI0 => ?_)
  · show zq_G _ _ _ _ _ 0 ([(0, .ref 14)], [], XH tx n t dr (nI Z, nI (a + i), lt, rs, rt, rv) w i0 i1 kp dd tr m)
    have hr := hsp (a + i) (by omega) (by omega)
    have hbi := (hbt (a + i) hr.1).2
    refine zq_b [zq_al 0, zq_get 8 3, zq_al 0, zq_get 8 2] [zq_alchk 0, zq_getchk 8 3, zq_alchk 0, zq_getchk 8 2] 8 rfl (by decide +kernel) ?_
    show zq_G _ _ _ _ _ 8 ([(0, .ref 14)], [.int (nI Z), .int (nI (a + i))], XH tx n t dr (nI Z, nI (a + i), lt, rs, rt, rv) w i0 i1 kp dd tr m)
    refine zq_if .ge 38 (Z ≤ (a + i)) (by decide +kernel) (zq_cge (a := a + i) (b := Z) (by omega) (by omega)) (fun c8 => absurd c8 (by omega)) (fun c8 => ?_)
    show zq_G _ _ _ _ _ 11 ([(0, .ref 14)], [], XH tx n t dr (nI Z, nI (a + i), lt, rs, rt, rv) w i0 i1 kp dd tr m)
    refine zq_b [zq_al 0, zq_get 8 0, zq_al 0, zq_get 8 3, zq_iald (a + i) (nI (bt (a + i))), zq_k 32] [zq_alchk 0, zq_getchk 8 0, zq_alchk 0, zq_getchk 8 3, zq_is .iaload 1, zq_kchk 32] 22 rfl (by decide +kernel) ?_
    refine ⟨rfl, (by omega), (by omega), (hbt _ (by omega)).1, ?_⟩
    show zq_G _ _ _ _ _ 22 ([(0, .ref 14)], [.int 32, .int (nI (bt (a + i)))], XH tx n t dr (nI Z, nI (a + i), lt, rs, rt, rv) w i0 i1 kp dd tr m)
    refine zq_if .ne 38 (¬ (bt (a + i)) = 32) (by decide +kernel) (zq_cne (a := bt (a + i)) (b := 32) (by omega) (by omega)) (fun c22 => absurd c22 (by omega)) (fun c22 => ?_)
    show zq_G _ _ _ _ _ 25 ([(0, .ref 14)], [], XH tx n t dr (nI Z, nI (a + i), lt, rs, rt, rv) w i0 i1 kp dd tr m)
    refine zq_b [zq_al 0, zq_dup, zq_get 8 3, zq_k 1, zq_iadd (nI (a + i + 1)), zq_puti 8 3, zq_go] [zq_alchk 0, zq_is .dup 1, zq_getchk 8 3, zq_kchk 1, zq_is .iadd 1, zq_putchk 8 3 .int, zq_gochk] 0 rfl (by decide +kernel) ?_
    refine ⟨(nI_add (a + i) 1), ?_⟩
    show zq_G _ _ _ _ _ 0 ([(0, .ref 14)], [], XH tx n t dr (nI Z, nI (a + i + 1), lt, rs, rt, rv) w i0 i1 kp dd tr m)
    exact ih0 trivial
  · show zq_G _ _ _ _ _ 0 ([(0, .ref 14)], [], XH tx n t dr (nI Z, nI (a + (s - a)), lt, rs, rt, rv) w i0 i1 kp dd tr m)
    have hbs := (hbt s hs).2
    refine zq_eq (σ2 := ([(0, .ref 14)], [], XH tx n t dr (nI Z, nI s, lt, rs, rt, rv) w i0 i1 kp dd tr m)) (by rw [show a + (s - a) = s by omega]) ?_
    refine zq_b [zq_al 0, zq_get 8 3, zq_al 0, zq_get 8 2] [zq_alchk 0, zq_getchk 8 3, zq_alchk 0, zq_getchk 8 2] 8 rfl (by decide +kernel) ?_
    show zq_G _ _ _ _ _ 8 ([(0, .ref 14)], [.int (nI Z), .int (nI s)], XH tx n t dr (nI Z, nI s, lt, rs, rt, rv) w i0 i1 kp dd tr m)
    refine zq_if .ge 38 (Z ≤ s) (by decide +kernel) (zq_cge (a := s) (b := Z) (by omega) (by omega)) (fun c8 => absurd c8 (by omega)) (fun c8 => ?_)
    show zq_G _ _ _ _ _ 11 ([(0, .ref 14)], [], XH tx n t dr (nI Z, nI s, lt, rs, rt, rv) w i0 i1 kp dd tr m)
    refine zq_b [zq_al 0, zq_get 8 0, zq_al 0, zq_get 8 3, zq_iald s (nI (bt s)), zq_k 32] [zq_alchk 0, zq_getchk 8 0, zq_alchk 0, zq_getchk 8 3, zq_is .iaload 1, zq_kchk 32] 22 rfl (by decide +kernel) ?_
    refine ⟨rfl, (by omega), (by omega), (hbt _ (by omega)).1, ?_⟩
    show zq_G _ _ _ _ _ 22 ([(0, .ref 14)], [.int 32, .int (nI (bt s))], XH tx n t dr (nI Z, nI s, lt, rs, rt, rv) w i0 i1 kp dd tr m)
    refine zq_if .ne 38 (¬ (bt s) = 32) (by decide +kernel) (zq_cne (a := bt s) (b := 32) (by omega) (by omega)) (fun c22 => ?_) (fun c22 => absurd (by omega) c22)
    show zq_G _ _ _ _ _ 38 ([(0, .ref 14)], [], XH tx n t dr (nI Z, nI s, lt, rs, rt, rv) w i0 i1 kp dd tr m)
    refine zq_b [zq_al 0, zq_al 0, zq_get 8 3, zq_puti 8 5, zq_al 0, zq_get 8 3, zq_al 0, zq_get 8 2] [zq_alchk 0, zq_alchk 0, zq_getchk 8 3, zq_putchk 8 5 .int, zq_alchk 0, zq_getchk 8 3, zq_alchk 0, zq_getchk 8 2] 54 rfl (by decide +kernel) ?_
    show zq_G _ _ _ _ _ 54 ([(0, .ref 14)], [.int (nI Z), .int (nI s)], XH tx n t dr (nI Z, nI s, lt, nI s, rt, rv) w i0 i1 kp dd tr m)
    refine zq_if .lt 65 (s < Z) (by decide +kernel) (zq_clt (a := s) (b := Z) (by omega) (by omega)) (fun c54 => ?_) (fun c54 => absurd (by omega) c54)
    show zq_G _ _ _ _ _ 65 ([(0, .ref 14)], [], XH tx n t dr (nI Z, nI s, lt, nI s, rt, rv) w i0 i1 kp dd tr m)
    refine zq_b [zq_al 0, zq_get 8 0, zq_al 0, zq_get 8 3, zq_iald s (nI (bt s))] [zq_alchk 0, zq_getchk 8 0, zq_alchk 0, zq_getchk 8 3, zq_is .iaload 1] 74 rfl (by decide +kernel) ?_
    refine ⟨rfl, (by omega), (by omega), (hbt _ (by omega)).1, ?_⟩
    show zq_G _ _ _ _ _ 74 ([(0, .ref 14)], [.int (nI (bt s))], XH tx n t dr (nI Z, nI s, lt, nI s, rt, rv) w i0 i1 kp dd tr m)
    refine zq_callS (av := [.int (nI (bt s))]) (rest := []) (by decide +kernel) k8_107 (c_isLetter (v := (bt s)) (by omega)) rfl rfl ?_
    show zq_G _ _ _ _ _ 77 ([(0, .ref 14)], [.int (zb (97 ≤ (bt s) ∧ (bt s) ≤ 122))], XH tx n t dr (nI Z, nI s, lt, nI s, rt, rv) w i0 i1 kp dd tr m)
    refine zq_ifz .eq 87 (¬ (97 ≤ (bt s) ∧ (bt s) ≤ 122)) (by decide +kernel) (zb_eq _) (fun c77 => ?_) (fun c77 => absurd hl c77)
    show zq_G _ _ _ _ _ 87 ([(0, .ref 14)], [], XH tx n t dr (nI Z, nI s, lt, nI s, rt, rv) w i0 i1 kp dd tr m)
    refine zq_b [zq_al 0, zq_get 8 0, zq_al 0, zq_get 8 3, zq_iald s (nI (bt s))] [zq_alchk 0, zq_getchk 8 0, zq_alchk 0, zq_getchk 8 3, zq_is .iaload 1] 96 rfl (by decide +kernel) ?_
    refine ⟨rfl, (by omega), (by omega), (hbt _ (by omega)).1, ?_⟩
    show zq_G _ _ _ _ _ 96 ([(0, .ref 14)], [.int (nI (bt s))], XH tx n t dr (nI Z, nI s, lt, nI s, rt, rv) w i0 i1 kp dd tr m)
    refine zq_callS (av := [.int (nI (bt s))]) (rest := []) (by decide +kernel) k8_113 (c_isDigit (v := (bt s)) (by omega)) rfl rfl ?_
    show zq_G _ _ _ _ _ 99 ([(0, .ref 14)], [.int (zb (48 ≤ (bt s) ∧ (bt s) ≤ 57))], XH tx n t dr (nI Z, nI s, lt, nI s, rt, rv) w i0 i1 kp dd tr m)
    refine zq_ifz .eq 109 (¬ (48 ≤ (bt s) ∧ (bt s) ≤ 57)) (by decide +kernel) (zb_eq _) (fun c99 => ?_) (fun c99 => absurd hd c99)
    show zq_G _ _ _ _ _ 109 ([(0, .ref 14)], [], XH tx n t dr (nI Z, nI s, lt, nI s, rt, rv) w i0 i1 kp dd tr m)
    refine zq_b [zq_al 0, zq_al 0, zq_get 8 0, zq_al 0, zq_get 8 3, zq_iald s (nI (bt s)), zq_k 59] [zq_alchk 0, zq_alchk 0, zq_getchk 8 0, zq_alchk 0, zq_getchk 8 3, zq_is .iaload 1, zq_kchk 59] 121 rfl (by decide +kernel) ?_
    refine ⟨rfl, (by omega), (by omega), (hbt _ (by omega)).1, ?_⟩
    show zq_G _ _ _ _ _ 121 ([(0, .ref 14)], [.int 59, .int (nI (bt s)), .ref 14], XH tx n t dr (nI Z, nI s, lt, nI s, rt, rv) w i0 i1 kp dd tr m)
    refine zq_if .ne 128 (¬ (bt s) = 59) (by decide +kernel) (zq_cne (a := bt s) (b := 59) (by omega) (by omega)) (fun c121 => absurd c121 (by omega)) (fun c121 => ?_)
    show zq_G _ _ _ _ _ 124 ([(0, .ref 14)], [.ref 14], XH tx n t dr (nI Z, nI s, lt, nI s, rt, rv) w i0 i1 kp dd tr m)
    refine zq_b [zq_k 3, zq_go, zq_puti 8 6, zq_al 0, zq_dup, zq_get 8 3, zq_k 1, zq_iadd (nI (s + 1)), zq_puti 8 3] [zq_kchk 3, zq_gochk, zq_putchk 8 6 .int, zq_alchk 0, zq_is .dup 1, zq_getchk 8 3, zq_kchk 1, zq_is .iadd 1, zq_putchk 8 3 .int] 142 rfl (by decide +kernel) ?_
    refine ⟨(nI_add s 1), ?_⟩
    show zq_G _ _ _ _ _ 142 ([(0, .ref 14)], [], XH tx n t dr (nI Z, nI (s + 1), lt, nI s, 3, rv) w i0 i1 kp dd tr m)
    exact zq_vret (by decide +kernel) rfl rfl rfl
set_option maxHeartbeats 4000000 in
set_option maxRecDepth 100000 in
theorem n_wrong {s : Nat} (hZ : Z ≤ 200) (hbt : ∀ j, j < Z → tx j = nI (bt j) ∧ bt j ≤ 255) (has : a ≤ s) (hsp : ∀ j, a ≤ j → j < s → j < Z ∧ bt j = 32) (hs : s < Z) (hns : ¬ bt s = 32) (hl : ¬ (97 ≤ bt s ∧ bt s ≤ 122)) (hd : ¬ (48 ≤ bt s ∧ bt s ≤ 57)) (h59 : ¬ bt s = 59) : zq_P l mX8_nextToken 2 [.ref 14] (XH tx n t dr (nI Z, nI a, lt, rs, rt, rv) w i0 i1 kp dd tr m) none (XH tx n t dr (nI Z, nI (s + 1), lt, nI s, 4, rv) w i0 i1 kp dd tr m) := by
  refine zq_start (by decide +kernel) rfl (Nat.le_of_ble_eq_true rfl) ?_
  show zq_G _ _ _ _ _ 0 ([(0, .ref 14)], [], XH tx n t dr (nI Z, nI a, lt, rs, rt, rv) w i0 i1 kp dd tr m)
  refine zq_loop (fun i => ([(0, .ref 14)], [], XH tx n t dr (nI Z, nI (a + i), lt, rs, rt, rv) w i0 i1 kp dd tr m)) (fun i => True) (s - a) (0) (by omega) (trivial) (fun i hl0 hi0 hI0 ih0 => ?_) (fun hI0 => ?_)
  · show zq_G _ _ _ _ _ 0 ([(0, .ref 14)], [], XH tx n t dr (nI Z, nI (a + i), lt, rs, rt, rv) w i0 i1 kp dd tr m)
    have hr := hsp (a + i) (by omega) (by omega)
    have hbi := (hbt (a + i) hr.1).2
    refine zq_b [zq_al 0, zq_get 8 3, zq_al 0, zq_get 8 2] [zq_alchk 0, zq_getchk 8 3, zq_alchk 0, zq_getchk 8 2] 8 rfl (by decide +kernel) ?_
    show zq_G _ _ _ _ _ 8 ([(0, .ref 14)], [.int (nI Z), .int (nI (a + i))], XH tx n t dr (nI Z, nI (a + i), lt, rs, rt, rv) w i0 i1 kp dd tr m)
    refine zq_if .ge 38 (Z ≤ (a + i)) (by decide +kernel) (zq_cge (a := a + i) (b := Z) (by omega) (by omega)) (fun c8 => absurd c8 (by omega)) (fun c8 => ?_)
    show zq_G _ _ _ _ _ 11 ([(0, .ref 14)], [], XH tx n t dr (nI Z, nI (a + i), lt, rs, rt, rv) w i0 i1 kp dd tr m)
    refine zq_b [zq_al 0, zq_get 8 0, zq_al 0, zq_get 8 3, zq_iald (a + i) (nI (bt (a + i))), zq_k 32] [zq_alchk 0, zq_getchk 8 0, zq_alchk 0, zq_getchk 8 3, zq_is .iaload 1, zq_kchk 32] 22 rfl (by decide +kernel) ?_
    refine ⟨rfl, (by omega), (by omega), (hbt _ (by omega)).1, ?_⟩
    show zq_G _ _ _ _ _ 22 ([(0, .ref 14)], [.int 32, .int (nI (bt (a + i)))], XH tx n t dr (nI Z, nI (a + i), lt, rs, rt, rv) w i0 i1 kp dd tr m)
    refine zq_if .ne 38 (¬ (bt (a + i)) = 32) (by decide +kernel) (zq_cne (a := bt (a + i)) (b := 32) (by omega) (by omega)) (fun c22 => absurd c22 (by omega)) (fun c22 => ?_)
    show zq_G _ _ _ _ _ 25 ([(0, .ref 14)], [], XH tx n t dr (nI Z, nI (a + i), lt, rs, rt, rv) w i0 i1 kp dd tr m)
    refine zq_b [zq_al 0, zq_dup, zq_get 8 3, zq_k 1, zq_iadd (nI (a + i + 1)), zq_puti 8 3, zq_go] [zq_alchk 0, zq_is .dup 1, zq_getchk 8 3, zq_kchk 1, zq_is .iadd 1, zq_putchk 8 3 .int, zq_gochk] 0 rfl (by decide +kernel) ?_
    refine ⟨(nI_add (a + i) 1), ?_⟩
    show zq_G _ _ _ _ _ 0 ([(0, .ref 14)], [], XH tx n t dr (nI Z, nI (a + i + 1), lt, rs, rt, rv) w i0 i1 kp dd tr m)
    exact ih0 trivial
  · show zq_G _ _ _ _ _ 0 ([(0, .ref 14)], [], XH tx n t dr (nI Z, nI (a + (s - a)), lt, rs, rt, rv) w i0 i1 kp dd tr m)
    have hbs := (hbt s hs).2
    refine zq_eq (σ2 := ([(0, .ref 14)], [], XH tx n t dr (nI Z, nI s, lt, rs, rt, rv) w i0 i1 kp dd tr m)) (by rw [show a + (s - a) = s by omega]) ?_
    refine zq_b [zq_al 0, zq_get 8 3, zq_al 0, zq_get 8 2] [zq_alchk 0, zq_getchk 8 3, zq_alchk 0, zq_getchk 8 2] 8 rfl (by decide +kernel) ?_
    show zq_G _ _ _ _ _ 8 ([(0, .ref 14)], [.int (nI Z), .int (nI s)], XH tx n t dr (nI Z, nI s, lt, rs, rt, rv) w i0 i1 kp dd tr m)
    refine zq_if .ge 38 (Z ≤ s) (by decide +kernel) (zq_cge (a := s) (b := Z) (by omega) (by omega)) (fun c8 => absurd c8 (by omega)) (fun c8 => ?_)
    show zq_G _ _ _ _ _ 11 ([(0, .ref 14)], [], XH tx n t dr (nI Z, nI s, lt, rs, rt, rv) w i0 i1 kp dd tr m)
    refine zq_b [zq_al 0, zq_get 8 0, zq_al 0, zq_get 8 3, zq_iald s (nI (bt s)), zq_k 32] [zq_alchk 0, zq_getchk 8 0, zq_alchk 0, zq_getchk 8 3, zq_is .iaload 1, zq_kchk 32] 22 rfl (by decide +kernel) ?_
    refine ⟨rfl, (by omega), (by omega), (hbt _ (by omega)).1, ?_⟩
    show zq_G _ _ _ _ _ 22 ([(0, .ref 14)], [.int 32, .int (nI (bt s))], XH tx n t dr (nI Z, nI s, lt, rs, rt, rv) w i0 i1 kp dd tr m)
    refine zq_if .ne 38 (¬ (bt s) = 32) (by decide +kernel) (zq_cne (a := bt s) (b := 32) (by omega) (by omega)) (fun c22 => ?_) (fun c22 => absurd (by omega) c22)
    show zq_G _ _ _ _ _ 38 ([(0, .ref 14)], [], XH tx n t dr (nI Z, nI s, lt, rs, rt, rv) w i0 i1 kp dd tr m)
    refine zq_b [zq_al 0, zq_al 0, zq_get 8 3, zq_puti 8 5, zq_al 0, zq_get 8 3, zq_al 0, zq_get 8 2] [zq_alchk 0, zq_alchk 0, zq_getchk 8 3, zq_putchk 8 5 .int, zq_alchk 0, zq_getchk 8 3, zq_alchk 0, zq_getchk 8 2] 54 rfl (by decide +kernel) ?_
    show zq_G _ _ _ _ _ 54 ([(0, .ref 14)], [.int (nI Z), .int (nI s)], XH tx n t dr (nI Z, nI s, lt, nI s, rt, rv) w i0 i1 kp dd tr m)
    refine zq_if .lt 65 (s < Z) (by decide +kernel) (zq_clt (a := s) (b := Z) (by omega) (by omega)) (fun c54 => ?_) (fun c54 => absurd (by omega) c54)
    show zq_G _ _ _ _ _ 65 ([(0, .ref 14)], [], XH tx n t dr (nI Z, nI s, lt, nI s, rt, rv) w i0 i1 kp dd tr m)
    refine zq_b [zq_al 0, zq_get 8 0, zq_al 0, zq_get 8 3, zq_iald s (nI (bt s))] [zq_alchk 0, zq_getchk 8 0, zq_alchk 0, zq_getchk 8 3, zq_is .iaload 1] 74 rfl (by decide +kernel) ?_
    refine ⟨rfl, (by omega), (by omega), (hbt _ (by omega)).1, ?_⟩
    show zq_G _ _ _ _ _ 74 ([(0, .ref 14)], [.int (nI (bt s))], XH tx n t dr (nI Z, nI s, lt, nI s, rt, rv) w i0 i1 kp dd tr m)
    refine zq_callS (av := [.int (nI (bt s))]) (rest := []) (by decide +kernel) k8_107 (c_isLetter (v := (bt s)) (by omega)) rfl rfl ?_
    show zq_G _ _ _ _ _ 77 ([(0, .ref 14)], [.int (zb (97 ≤ (bt s) ∧ (bt s) ≤ 122))], XH tx n t dr (nI Z, nI s, lt, nI s, rt, rv) w i0 i1 kp dd tr m)
    refine zq_ifz .eq 87 (¬ (97 ≤ (bt s) ∧ (bt s) ≤ 122)) (by decide +kernel) (zb_eq _) (fun c77 => ?_) (fun c77 => absurd hl c77)
    show zq_G _ _ _ _ _ 87 ([(0, .ref 14)], [], XH tx n t dr (nI Z, nI s, lt, nI s, rt, rv) w i0 i1 kp dd tr m)
    refine zq_b [zq_al 0, zq_get 8 0, zq_al 0, zq_get 8 3, zq_iald s (nI (bt s))] [zq_alchk 0, zq_getchk 8 0, zq_alchk 0, zq_getchk 8 3, zq_is .iaload 1] 96 rfl (by decide +kernel) ?_
    refine ⟨rfl, (by omega), (by omega), (hbt _ (by omega)).1, ?_⟩
    show zq_G _ _ _ _ _ 96 ([(0, .ref 14)], [.int (nI (bt s))], XH tx n t dr (nI Z, nI s, lt, nI s, rt, rv) w i0 i1 kp dd tr m)
    refine zq_callS (av := [.int (nI (bt s))]) (rest := []) (by decide +kernel) k8_113 (c_isDigit (v := (bt s)) (by omega)) rfl rfl ?_
    show zq_G _ _ _ _ _ 99 ([(0, .ref 14)], [.int (zb (48 ≤ (bt s) ∧ (bt s) ≤ 57))], XH tx n t dr (nI Z, nI s, lt, nI s, rt, rv) w i0 i1 kp dd tr m)
    refine zq_ifz .eq 109 (¬ (48 ≤ (bt s) ∧ (bt s) ≤ 57)) (by decide +kernel) (zb_eq _) (fun c99 => ?_) (fun c99 => absurd hd c99)
    show zq_G _ _ _ _ _ 109 ([(0, .ref 14)], [], XH tx n t dr (nI Z, nI s, lt, nI s, rt, rv) w i0 i1 kp dd tr m)
    refine zq_b [zq_al 0, zq_al 0, zq_get 8 0, zq_al 0, zq_get 8 3, zq_iald s (nI (bt s)), zq_k 59] [zq_alchk 0, zq_alchk 0, zq_getchk 8 0, zq_alchk 0, zq_getchk 8 3, zq_is .iaload 1, zq_kchk 59] 121 rfl (by decide +kernel) ?_
    refine ⟨rfl, (by omega), (by omega), (hbt _ (by omega)).1, ?_⟩
    show zq_G _ _ _ _ _ 121 ([(0, .ref 14)], [.int 59, .int (nI (bt s)), .ref 14], XH tx n t dr (nI Z, nI s, lt, nI s, rt, rv) w i0 i1 kp dd tr m)
    refine zq_if .ne 128 (¬ (bt s) = 59) (by decide +kernel) (zq_cne (a := bt s) (b := 59) (by omega) (by omega)) (fun c121 => ?_) (fun c121 => absurd h59 c121)
    show zq_G _ _ _ _ _ 128 ([(0, .ref 14)], [.ref 14], XH tx n t dr (nI Z, nI s, lt, nI s, rt, rv) w i0 i1 kp dd tr m)
    refine zq_b [zq_k 4, zq_puti 8 6, zq_al 0, zq_dup, zq_get 8 3, zq_k 1, zq_iadd (nI (s + 1)), zq_puti 8 3] [zq_kchk 4, zq_putchk 8 6 .int, zq_alchk 0, zq_is .dup 1, zq_getchk 8 3, zq_kchk 1, zq_is .iadd 1, zq_putchk 8 3 .int] 142 rfl (by decide +kernel) ?_
    refine ⟨(nI_add s 1), ?_⟩
    show zq_G _ _ _ _ _ 142 ([(0, .ref 14)], [], XH tx n t dr (nI Z, nI (s + 1), lt, nI s, 4, rv) w i0 i1 kp dd tr m)
    exact zq_vret (by decide +kernel) rfl rfl rfl
set_option maxHeartbeats 4000000 in
theorem c_next (hZ : Z ≤ 200) (hbt : ∀ j, j < Z → tx j = nI (bt j) ∧ bt j ≤ 255) (ha : a ≤ Z) : zq_P l mX8_nextToken 2 [.ref 14] (XH tx n t dr (nI Z, nI a, lt, rs, rt, rv) w i0 i1 kp dd tr m) none (XH tx n t dr (nI Z, nI (tkE bt Z a), lt, nI (tkS bt Z a), nI (tkK bt Z a), nxV bt Z rv a) w i0 i1 kp dd tr m) := by
  have has := tkS_le bt Z a
  have hsm := tkS_max (bt := bt) ha
  have hin := zrun_in (blkB bt) Z Z a
  have hsp : ∀ j, a ≤ j → j < tkS bt Z a → j < Z ∧ bt j = 32 := fun j h1 h2 => ⟨(hin j h1 h2).1, of_decide_eq_true (hin j h1 h2).2⟩
  by_cases h0 : Z ≤ tkS bt Z a
  · have e1 : tkE bt Z a = tkS bt Z a := by unfold tkE; rw [if_pos h0]
    have e2 : tkK bt Z a = 0 := by unfold tkK; rw [if_pos h0]
    have e3 : nxV bt Z rv a = rv := by unfold nxV; rw [if_pos h0]
    rw [e1, e2, e3]
    exact n_end (s := tkS bt Z a) hZ hbt has hsp (by omega)
  · have hs : tkS bt Z a < Z := by omega
    have hns : ¬ bt (tkS bt Z a) = 32 := fun q => zrun_end (blkB bt) Z Z a (by omega) ⟨hs, decide_eq_true q⟩
    by_cases hl : letB bt (tkS bt Z a) = true
    · have e1 : tkE bt Z a = zrun (letB bt) Z Z (tkS bt Z a + 1) := by unfold tkE; rw [if_neg h0, if_pos hl]
      have e2 : tkK bt Z a = 1 := by unfold tkK; rw [if_neg h0, if_pos hl]
      have e3 : nxV bt Z rv a = if tkE bt Z a = tkS bt Z a + 1 then nI (bt (tkS bt Z a)) else 0 := by
        unfold nxV tkV
        rw [if_neg h0, if_pos (Or.inl hl), if_pos hl]
        split <;> rfl
      rw [e3, e2]
      refine n_let (s := tkS bt Z a) (e := tkE bt Z a) hZ hbt has hsp hs hns (of_decide_eq_true hl) ?_ (tkE_max ha) ?_ ?_
      · rw [e1]; exact zrun_le _ _ _ _
      · rw [e1]; exact zrun_in _ _ _ _
      · rw [e1]; exact zrun_end _ _ _ _ (by omega)
    · by_cases hd : digB bt (tkS bt Z a) = true
      · have e1 : tkE bt Z a = zrun (digB bt) Z Z (tkS bt Z a) := by unfold tkE; rw [if_neg h0, if_neg hl, if_pos hd]
        have e2 : tkK bt Z a = if 99 < dvN bt (tkS bt Z a) (tkE bt Z a - tkS bt Z a) ∨ (bt (tkS bt Z a) = 48 ∧ 1 < tkE bt Z a - tkS bt Z a) then 4 else 2 := by unfold tkK; rw [if_neg h0, if_neg hl, if_pos hd]
        have e3 : nxV bt Z rv a = nI (dvN bt (tkS bt Z a) (tkE bt Z a - tkS bt Z a)) := by
          unfold nxV tkV
          rw [if_neg h0, if_pos (Or.inr hd), if_neg hl]
        rw [e3, e2]
        refine n_dig (s := tkS bt Z a) (e := tkE bt Z a) hZ hbt has hsp hs hns (fun q => hl (decide_eq_true q)) (of_decide_eq_true hd) ?_ (tkE_max ha) ?_ ?_
        · rw [e1]; exact zrun_le _ _ _ _
        · rw [e1]; exact zrun_in _ _ _ _
        · rw [e1]; exact zrun_end _ _ _ _ (by omega)
      · have e1 : tkE bt Z a = tkS bt Z a + 1 := by unfold tkE; rw [if_neg h0, if_neg hl, if_neg hd]
        have e3 : nxV bt Z rv a = rv := by
          unfold nxV
          rw [if_neg h0, if_neg (by rintro (q | q); exact hl q; exact hd q)]
        by_cases h59 : bt (tkS bt Z a) = 59
        · have e2 : tkK bt Z a = 3 := by unfold tkK; rw [if_neg h0, if_neg hl, if_neg hd, if_pos h59]
          rw [e1, e2, e3]
          exact n_stop (s := tkS bt Z a) hZ hbt has hsp hs hns (fun q => hl (decide_eq_true q)) (fun q => hd (decide_eq_true q)) h59
        · have e2 : tkK bt Z a = 4 := by unfold tkK; rw [if_neg h0, if_neg hl, if_neg hd, if_neg h59]
          rw [e1, e2, e3]
          exact n_wrong (s := tkS bt Z a) hZ hbt has hsp hs hns (fun q => hl (decide_eq_true q)) (fun q => hd (decide_eq_true q)) h59
set_option maxHeartbeats 4000000 in
set_option maxRecDepth 100000 in
theorem c_num_t {lo : Nat} {hi : Nat} (hZ : Z ≤ 200) (hbt : ∀ j, j < Z → tx j = nI (bt j) ∧ bt j ≤ 255) (ha : a ≤ Z) (hk : tkK bt Z a = 2) (h1 : lo ≤ tkV bt Z a) (h2 : tkV bt Z a ≤ hi) (h3 : hi < 256) : zq_P l mX8_readNumber 3 [.ref 14, .int (nI lo), .int (nI hi)] (XH tx n t dr (nI Z, nI a, lt, rs, rt, rv) w i0 i1 kp dd tr m) (some (.int 1)) (XH tx n t dr (nI Z, nI (tkE bt Z a), lt, nI (tkS bt Z a), 2, nI (tkV bt Z a)) w i0 i1 kp dd tr m) := by
  refine zq_start (by decide +kernel) rfl (Nat.le_of_ble_eq_true rfl) ?_
  show zq_G _ _ _ _ _ 0 ([(0, .ref 14), (1, .int (nI lo)), (2, .int (nI hi))], [], XH tx n t dr (nI Z, nI a, lt, rs, rt, rv) w i0 i1 kp dd tr m)
  refine zq_b [zq_al 0] [zq_alchk 0] 1 rfl (by decide +kernel) ?_
  show zq_G _ _ _ _ _ 1 ([(0, .ref 14), (1, .int (nI lo)), (2, .int (nI hi))], [.ref 14], XH tx n t dr (nI Z, nI a, lt, rs, rt, rv) w i0 i1 kp dd tr m)
  refine zq_callV (av := []) (rest := []) (by decide +kernel) k8_41 (c_next hZ hbt (by omega)) rfl rfl rfl rfl ?_
  show zq_G _ _ _ _ _ 4 ([(0, .ref 14), (1, .int (nI lo)), (2, .int (nI hi))], [], XH tx n t dr (nI Z, nI (tkE bt Z a), lt, nI (tkS bt Z a), nI (tkK bt Z a), nxV bt Z rv a) w i0 i1 kp dd tr m)
  refine zq_eq (σ2 := ([(0, .ref 14), (1, .int (nI lo)), (2, .int (nI hi))], [], XH tx n t dr (nI Z, nI (tkE bt Z a), lt, nI (tkS bt Z a), 2, nI (tkV bt Z a)) w i0 i1 kp dd tr m)) (by rw [hk, nxV_2 rv hk]; rfl) ?_
  refine zq_b [zq_al 0, zq_get 8 6, zq_k 2] [zq_alchk 0, zq_getchk 8 6, zq_kchk 2] 9 rfl (by decide +kernel) ?_
  show zq_G _ _ _ _ _ 9 ([(0, .ref 14), (1, .int (nI lo)), (2, .int (nI hi))], [.int 2, .int 2], XH tx n t dr (nI Z, nI (tkE bt Z a), lt, nI (tkS bt Z a), 2, nI (tkV bt Z a)) w i0 i1 kp dd tr m)
  refine zq_if .ne 32 (¬ 2 = 2) (by decide +kernel) (zq_cne (a := 2) (b := 2) (by omega) (by omega)) (fun c9 => absurd c9 (fun q => q rfl)) (fun c9 => ?_)
  show zq_G _ _ _ _ _ 12 ([(0, .ref 14), (1, .int (nI lo)), (2, .int (nI hi))], [], XH tx n t dr (nI Z, nI (tkE bt Z a), lt, nI (tkS bt Z a), 2, nI (tkV bt Z a)) w i0 i1 kp dd tr m)
  refine zq_b [zq_al 0, zq_get 8 7, zq_il 1] [zq_alchk 0, zq_getchk 8 7, zq_ilchk 1] 17 rfl (by decide +kernel) ?_
  show zq_G _ _ _ _ _ 17 ([(0, .ref 14), (1, .int (nI lo)), (2, .int (nI hi))], [.int (nI lo), .int (nI (tkV bt Z a))], XH tx n t dr (nI Z, nI (tkE bt Z a), lt, nI (tkS bt Z a), 2, nI (tkV bt Z a)) w i0 i1 kp dd tr m)
  refine zq_if .lt 32 ((tkV bt Z a) < lo) (by decide +kernel) (zq_clt (a := tkV bt Z a) (b := lo) (by omega) (by omega)) (fun c17 => absurd c17 (by omega)) (fun c17 => ?_)
  show zq_G _ _ _ _ _ 20 ([(0, .ref 14), (1, .int (nI lo)), (2, .int (nI hi))], [], XH tx n t dr (nI Z, nI (tkE bt Z a), lt, nI (tkS bt Z a), 2, nI (tkV bt Z a)) w i0 i1 kp dd tr m)
  refine zq_b [zq_al 0, zq_get 8 7, zq_il 2] [zq_alchk 0, zq_getchk 8 7, zq_ilchk 2] 25 rfl (by decide +kernel) ?_
  show zq_G _ _ _ _ _ 25 ([(0, .ref 14), (1, .int (nI lo)), (2, .int (nI hi))], [.int (nI hi), .int (nI (tkV bt Z a))], XH tx n t dr (nI Z, nI (tkE bt Z a), lt, nI (tkS bt Z a), 2, nI (tkV bt Z a)) w i0 i1 kp dd tr m)
  refine zq_if .gt 32 (hi < (tkV bt Z a)) (by decide +kernel) (zq_cgt (a := tkV bt Z a) (b := hi) (by omega) (by omega)) (fun c25 => absurd c25 (by omega)) (fun c25 => ?_)
  show zq_G _ _ _ _ _ 28 ([(0, .ref 14), (1, .int (nI lo)), (2, .int (nI hi))], [], XH tx n t dr (nI Z, nI (tkE bt Z a), lt, nI (tkS bt Z a), 2, nI (tkV bt Z a)) w i0 i1 kp dd tr m)
  refine zq_b [zq_k 1, zq_go] [zq_kchk 1, zq_gochk] 33 rfl (by decide +kernel) ?_
  show zq_G _ _ _ _ _ 33 ([(0, .ref 14), (1, .int (nI lo)), (2, .int (nI hi))], [.int 1], XH tx n t dr (nI Z, nI (tkE bt Z a), lt, nI (tkS bt Z a), 2, nI (tkV bt Z a)) w i0 i1 kp dd tr m)
  exact zq_zret (by decide +kernel) rfl (Or.inr rfl) rfl rfl
set_option maxHeartbeats 4000000 in
set_option maxRecDepth 100000 in
theorem c_num_f {lo : Nat} {hi : Nat} (hZ : Z ≤ 200) (hbt : ∀ j, j < Z → tx j = nI (bt j) ∧ bt j ≤ 255) (ha : a ≤ Z) (hk : ¬ (tkK bt Z a = 2 ∧ lo ≤ tkV bt Z a ∧ tkV bt Z a ≤ hi)) (h3 : hi < 256 ∧ lo < 256) : zq_P l mX8_readNumber 3 [.ref 14, .int (nI lo), .int (nI hi)] (XH tx n t dr (nI Z, nI a, lt, rs, rt, rv) w i0 i1 kp dd tr m) (some (.int 0)) (XH tx n t dr (nI Z, nI (tkE bt Z a), lt, nI (tkS bt Z a), nI (tkK bt Z a), nxV bt Z rv a) w i0 i1 kp dd tr m) := by
  refine zq_start (by decide +kernel) rfl (Nat.le_of_ble_eq_true rfl) ?_
  show zq_G _ _ _ _ _ 0 ([(0, .ref 14), (1, .int (nI lo)), (2, .int (nI hi))], [], XH tx n t dr (nI Z, nI a, lt, rs, rt, rv) w i0 i1 kp dd tr m)
  have hk4 := tkK_le bt Z a
  have hvl : ¬ tkK bt Z a = 0 → tkV bt Z a ≤ 255 := fun q => tkV_le (fun j hj => (hbt j hj).2) q
  refine zq_b [zq_al 0] [zq_alchk 0] 1 rfl (by decide +kernel) ?_
  show zq_G _ _ _ _ _ 1 ([(0, .ref 14), (1, .int (nI lo)), (2, .int (nI hi))], [.ref 14], XH tx n t dr (nI Z, nI a, lt, rs, rt, rv) w i0 i1 kp dd tr m)
  refine zq_callV (av := []) (rest := []) (by decide +kernel) k8_41 (c_next hZ hbt (by omega)) rfl rfl rfl rfl ?_
  show zq_G _ _ _ _ _ 4 ([(0, .ref 14), (1, .int (nI lo)), (2, .int (nI hi))], [], XH tx n t dr (nI Z, nI (tkE bt Z a), lt, nI (tkS bt Z a), nI (tkK bt Z a), nxV bt Z rv a) w i0 i1 kp dd tr m)
  refine zq_b [zq_al 0, zq_get 8 6, zq_k 2] [zq_alchk 0, zq_getchk 8 6, zq_kchk 2] 9 rfl (by decide +kernel) ?_
  show zq_G _ _ _ _ _ 9 ([(0, .ref 14), (1, .int (nI lo)), (2, .int (nI hi))], [.int 2, .int (nI (tkK bt Z a))], XH tx n t dr (nI Z, nI (tkE bt Z a), lt, nI (tkS bt Z a), nI (tkK bt Z a), nxV bt Z rv a) w i0 i1 kp dd tr m)
  refine zq_if .ne 32 (¬ (tkK bt Z a) = 2) (by decide +kernel) (zq_cne (a := tkK bt Z a) (b := 2) (by omega) (by omega)) (fun c9 => ?_) (fun c9 => ?_)
  · show zq_G _ _ _ _ _ 32 ([(0, .ref 14), (1, .int (nI lo)), (2, .int (nI hi))], [], XH tx n t dr (nI Z, nI (tkE bt Z a), lt, nI (tkS bt Z a), nI (tkK bt Z a), nxV bt Z rv a) w i0 i1 kp dd tr m)
    refine zq_b [zq_k 0] [zq_kchk 0] 33 rfl (by decide +kernel) ?_
    show zq_G _ _ _ _ _ 33 ([(0, .ref 14), (1, .int (nI lo)), (2, .int (nI hi))], [.int 0], XH tx n t dr (nI Z, nI (tkE bt Z a), lt, nI (tkS bt Z a), nI (tkK bt Z a), nxV bt Z rv a) w i0 i1 kp dd tr m)
    exact zq_zret (by decide +kernel) rfl (Or.inl rfl) rfl rfl
  · show zq_G _ _ _ _ _ 12 ([(0, .ref 14), (1, .int (nI lo)), (2, .int (nI hi))], [], XH tx n t dr (nI Z, nI (tkE bt Z a), lt, nI (tkS bt Z a), nI (tkK bt Z a), nxV bt Z rv a) w i0 i1 kp dd tr m)
    have c9x := Decidable.not_not.mp c9; have hvl := hvl (by omega)
    refine zq_b [zq_al 0, zq_get 8 7, zq_il 1] [zq_alchk 0, zq_getchk 8 7, zq_ilchk 1] 17 rfl (by decide +kernel) ?_
    show zq_G _ _ _ _ _ 17 ([(0, .ref 14), (1, .int (nI lo)), (2, .int (nI hi))], [.int (nI lo), .int (nxV bt Z rv a)], XH tx n t dr (nI Z, nI (tkE bt Z a), lt, nI (tkS bt Z a), nI (tkK bt Z a), nxV bt Z rv a) w i0 i1 kp dd tr m)
    refine zq_if .lt 32 (tkV bt Z a < lo) (by decide +kernel) (by rw [nxV_2 rv c9x]; exact zq_clt (by omega) (by omega)) (fun c17 => ?_) (fun c17 => ?_)
    · show zq_G _ _ _ _ _ 32 ([(0, .ref 14), (1, .int (nI lo)), (2, .int (nI hi))], [], XH tx n t dr (nI Z, nI (tkE bt Z a), lt, nI (tkS bt Z a), nI (tkK bt Z a), nxV bt Z rv a) w i0 i1 kp dd tr m)
      refine zq_b [zq_k 0] [zq_kchk 0] 33 rfl (by decide +kernel) ?_
      show zq_G _ _ _ _ _ 33 ([(0, .ref 14), (1, .int (nI lo)), (2, .int (nI hi))], [.int 0], XH tx n t dr (nI Z, nI (tkE bt Z a), lt, nI (tkS bt Z a), nI (tkK bt Z a), nxV bt Z rv a) w i0 i1 kp dd tr m)
      exact zq_zret (by decide +kernel) rfl (Or.inl rfl) rfl rfl
    · show zq_G _ _ _ _ _ 20 ([(0, .ref 14), (1, .int (nI lo)), (2, .int (nI hi))], [], XH tx n t dr (nI Z, nI (tkE bt Z a), lt, nI (tkS bt Z a), nI (tkK bt Z a), nxV bt Z rv a) w i0 i1 kp dd tr m)
      refine zq_b [zq_al 0, zq_get 8 7, zq_il 2] [zq_alchk 0, zq_getchk 8 7, zq_ilchk 2] 25 rfl (by decide +kernel) ?_
      show zq_G _ _ _ _ _ 25 ([(0, .ref 14), (1, .int (nI lo)), (2, .int (nI hi))], [.int (nI hi), .int (nxV bt Z rv a)], XH tx n t dr (nI Z, nI (tkE bt Z a), lt, nI (tkS bt Z a), nI (tkK bt Z a), nxV bt Z rv a) w i0 i1 kp dd tr m)
      refine zq_if .gt 32 (hi < tkV bt Z a) (by decide +kernel) (by rw [nxV_2 rv c9x]; exact zq_cgt (by omega) (by omega)) (fun c25 => ?_) (fun c25 => ?_)
      · show zq_G _ _ _ _ _ 32 ([(0, .ref 14), (1, .int (nI lo)), (2, .int (nI hi))], [], XH tx n t dr (nI Z, nI (tkE bt Z a), lt, nI (tkS bt Z a), nI (tkK bt Z a), nxV bt Z rv a) w i0 i1 kp dd tr m)
        refine zq_b [zq_k 0] [zq_kchk 0] 33 rfl (by decide +kernel) ?_
        show zq_G _ _ _ _ _ 33 ([(0, .ref 14), (1, .int (nI lo)), (2, .int (nI hi))], [.int 0], XH tx n t dr (nI Z, nI (tkE bt Z a), lt, nI (tkS bt Z a), nI (tkK bt Z a), nxV bt Z rv a) w i0 i1 kp dd tr m)
        exact zq_zret (by decide +kernel) rfl (Or.inl rfl) rfl rfl
      · show zq_G _ _ _ _ _ 28 ([(0, .ref 14), (1, .int (nI lo)), (2, .int (nI hi))], [], XH tx n t dr (nI Z, nI (tkE bt Z a), lt, nI (tkS bt Z a), nI (tkK bt Z a), nxV bt Z rv a) w i0 i1 kp dd tr m)
        exact absurd ⟨c9x, by omega, by omega⟩ hk
set_option maxHeartbeats 4000000 in
set_option maxRecDepth 100000 in
theorem c_stop  (hZ : Z ≤ 200) (hbt : ∀ j, j < Z → tx j = nI (bt j) ∧ bt j ≤ 255) (ha : a ≤ Z) : zq_P l mX8_readStop 3 [.ref 14] (XH tx n t dr (nI Z, nI a, lt, rs, rt, rv) w i0 i1 kp dd tr m) (some (.int (zb (tkK bt Z a = 3)))) (XH tx n t dr (nI Z, nI (tkE bt Z a), lt, nI (tkS bt Z a), nI (tkK bt Z a), nxV bt Z rv a) w i0 i1 kp dd tr m) := by
  refine zq_start (by decide +kernel) rfl (Nat.le_of_ble_eq_true rfl) ?_
  show zq_G _ _ _ _ _ 0 ([(0, .ref 14)], [], XH tx n t dr (nI Z, nI a, lt, rs, rt, rv) w i0 i1 kp dd tr m)
  have hk4 := tkK_le bt Z a
  refine zq_b [zq_al 0] [zq_alchk 0] 1 rfl (by decide +kernel) ?_
  show zq_G _ _ _ _ _ 1 ([(0, .ref 14)], [.ref 14], XH tx n t dr (nI Z, nI a, lt, rs, rt, rv) w i0 i1 kp dd tr m)
  refine zq_callV (av := []) (rest := []) (by decide +kernel) k8_41 (c_next hZ hbt (by omega)) rfl rfl rfl rfl ?_
  show zq_G _ _ _ _ _ 4 ([(0, .ref 14)], [], XH tx n t dr (nI Z, nI (tkE bt Z a), lt, nI (tkS bt Z a), nI (tkK bt Z a), nxV bt Z rv a) w i0 i1 kp dd tr m)
  refine zq_b [zq_al 0, zq_get 8 6, zq_k 3] [zq_alchk 0, zq_getchk 8 6, zq_kchk 3] 9 rfl (by decide +kernel) ?_
  show zq_G _ _ _ _ _ 9 ([(0, .ref 14)], [.int 3, .int (nI (tkK bt Z a))], XH tx n t dr (nI Z, nI (tkE bt Z a), lt, nI (tkS bt Z a), nI (tkK bt Z a), nxV bt Z rv a) w i0 i1 kp dd tr m)
  refine zq_if .ne 16 (¬ (tkK bt Z a) = 3) (by decide +kernel) (zq_cne (a := tkK bt Z a) (b := 3) (by omega) (by omega)) (fun c9 => ?_) (fun c9 => ?_)
  · show zq_G _ _ _ _ _ 16 ([(0, .ref 14)], [], XH tx n t dr (nI Z, nI (tkE bt Z a), lt, nI (tkS bt Z a), nI (tkK bt Z a), nxV bt Z rv a) w i0 i1 kp dd tr m)
    refine zq_b [zq_k 0] [zq_kchk 0] 17 rfl (by decide +kernel) ?_
    show zq_G _ _ _ _ _ 17 ([(0, .ref 14)], [.int 0], XH tx n t dr (nI Z, nI (tkE bt Z a), lt, nI (tkS bt Z a), nI (tkK bt Z a), nxV bt Z rv a) w i0 i1 kp dd tr m)
    exact zq_zret (by decide +kernel) rfl (Or.inl rfl) (zb_r (zb_f (by omega))) rfl
  · show zq_G _ _ _ _ _ 12 ([(0, .ref 14)], [], XH tx n t dr (nI Z, nI (tkE bt Z a), lt, nI (tkS bt Z a), nI (tkK bt Z a), nxV bt Z rv a) w i0 i1 kp dd tr m)
    refine zq_b [zq_k 1, zq_go] [zq_kchk 1, zq_gochk] 17 rfl (by decide +kernel) ?_
    show zq_G _ _ _ _ _ 17 ([(0, .ref 14)], [.int 1], XH tx n t dr (nI Z, nI (tkE bt Z a), lt, nI (tkS bt Z a), nI (tkK bt Z a), nxV bt Z rv a) w i0 i1 kp dd tr m)
    exact zq_zret (by decide +kernel) rfl (Or.inr rfl) (zb_r (zb_t (by omega))) rfl
end XV6
