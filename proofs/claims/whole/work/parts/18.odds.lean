section XV8b
variable {l : Launch} {tx : Nat → Int32} {n : Int32} {t dr : zT} {rd : zR} {w i0 i1 : zN} {kp : Nat → Int32} {dd : Int32} {tr : Int64} {m : Nat → zq_C} {h : zq_H}
variable {P C R L D N K Z : Nat} {hs ss cs gs vs ce de ke se : Nat → Int32} {sm : Int32} {cn ga va : Nat → Nat}
/-! odds, often: numbers -/
def eu (A B : Nat) : Nat → Nat × Nat
  | 0 => (A, B)
  | i + 1 => ((eu A B i).2, (eu A B i).1 % (eu A B i).2)
theorem eu_gcd (A B i : Nat) : Nat.gcd (eu A B i).1 (eu A B i).2 = Nat.gcd A B := by
  induction i with
  | zero => rfl
  | succ i ih =>
    rw [← ih]
    show Nat.gcd (eu A B i).2 ((eu A B i).1 % (eu A B i).2) = _
    rw [Nat.gcd_comm, ← Nat.gcd_rec, Nat.gcd_comm]
theorem eu_end {A B N : Nat} (h : (eu A B N).2 = 0) : (eu A B N).1 = Nat.gcd A B := by
  have := eu_gcd A B N
  rw [h, Nat.gcd_zero_right] at this
  exact this
theorem eu_le {A B b : Nat} (hA : A < b) (hB : B < b) (i : Nat) : (eu A B i).1 < b ∧ (eu A B i).2 < b := by
  induction i with
  | zero => exact ⟨hA, hB⟩
  | succ i ih =>
    refine ⟨ih.2, ?_⟩
    show (eu A B i).1 % (eu A B i).2 < b
    exact Nat.lt_of_le_of_lt (Nat.mod_le _ _) ih.1
theorem lN_ne0 {a : Nat} (h0 : ¬ a = 0) (h : a < 2 ^ 62) : ¬ lN a = 0 := by
  intro e
  have := (pk_lEQ (a := a) (b := 0) (by omega) (by omega)).mp e
  omega
theorem p10 {k : Nat} (h : k ≤ 9) : 10 ^ k ≤ 1000000000 := Nat.pow_le_pow_right (by decide) h
theorem p10p (k : Nat) : 0 < 10 ^ k := Nat.pow_pos (by decide)
theorem px {x k : Nat} (h : x ≤ 10) : x ^ k ≤ 10 ^ k := Nat.pow_le_pow_left h k
theorem eu_stop : ∀ x, x < 11 → ∀ k, k < 10 → (∃ N, N < 60 ∧ (∀ i, i < N → ¬ (eu (10 ^ k) (10 ^ k - x ^ k) i).2 = 0) ∧ (eu (10 ^ k) (10 ^ k - x ^ k) N).2 = 0) ∧ (∃ N, N < 60 ∧ (∀ i, i < N → ¬ (eu (10 ^ k - x ^ k) (10 ^ k) i).2 = 0) ∧ (eu (10 ^ k - x ^ k) (10 ^ k) N).2 = 0) := by decide +kernel
set_option maxHeartbeats 4000000 in
set_option maxRecDepth 100000 in
theorem c_power {b : Nat} {k : Nat} (hb : b < 100) (hk : k < 100) : zq_P l mX11_power 0 [.int (nI b), .int (nI k)] (h) (some (.long (lN (b ^ k)))) (h) := by
  refine zq_start (by decide +kernel) rfl (Nat.le_of_ble_eq_true rfl) ?_
  show zq_G _ _ _ _ _ 0 ([(0, .int (nI b)), (1, .int (nI k))], [], h)
  refine zq_b [zq_kj 1, zq_ls1 2, zq_k 0, zq_is1 4] [zq_klchk 1, zq_ls1chk 2, zq_kchk 0, zq_is1chk 4] 5 rfl (by decide +kernel) ?_
  show zq_G _ _ _ _ _ 5 ([(0, .int (nI b)), (1, .int (nI k)), (2, .long 1), (4, .int 0)], [], h)
  refine zq_eq (σ2 := ([(0, .int (nI b)), (1, .int (nI k)), (2, .long (lN (b ^ (0 : Nat)))), (4, .int (nI (0 : Nat)))], [], h)) (rfl) ?_
  refine zq_loop (fun i => ([(0, .int (nI b)), (1, .int (nI k)), (2, .long (lN (b ^ i))), (4, .int (nI i))], [], h)) (fun i => True) (k) (0) (by omega) (trivial) (fun i hl5 hi5 hI5 ih5 => ?_) (fun hI5 => ?_)
  · show zq_G _ _ _ _ _ 5 ([(0, .int (nI b)), (1, .int (nI k)), (2, .long (lN (b ^ i))), (4, .int (nI i))], [], h)
    refine zq_b [zq_il 4, zq_il 1] [zq_ilchk 4, zq_ilchk 1] 8 rfl (by decide +kernel) ?_
    show zq_G _ _ _ _ _ 8 ([(0, .int (nI b)), (1, .int (nI k)), (2, .long (lN (b ^ i))), (4, .int (nI i))], [.int (nI k), .int (nI i)], h)
    refine zq_if .ge 22 (k ≤ i) (by decide +kernel) (zq_cge (a := i) (b := k) (by omega) (by omega)) (fun c8 => absurd c8 (by omega)) (fun c8 => ?_)
    show zq_G _ _ _ _ _ 11 ([(0, .int (nI b)), (1, .int (nI k)), (2, .long (lN (b ^ i))), (4, .int (nI i))], [], h)
    refine zq_b [zq_jl 2, zq_il 0, zq_i2l (lN b), zq_lmul (lN (b ^ (i + 1))), zq_ls1 2, zq_inc 4 1 (nI (i + 1)), zq_go] [zq_jlchk 2, zq_ilchk 0, zq_is .i2l 1, zq_is .lmul 1, zq_ls1chk 2, zq_incchk 4 1, zq_gochk] 5 rfl (by decide +kernel) ?_
    refine ⟨(nI_l (by omega)), (lN_mul (b ^ i) b), nI_add i 1, ?_⟩
    show zq_G _ _ _ _ _ 5 ([(0, .int (nI b)), (1, .int (nI k)), (2, .long (lN (b ^ (i + 1)))), (4, .int (nI (i + 1)))], [], h)
    exact ih5 trivial
  · show zq_G _ _ _ _ _ 5 ([(0, .int (nI b)), (1, .int (nI k)), (2, .long (lN (b ^ k))), (4, .int (nI k))], [], h)
    refine zq_b [zq_il 4, zq_il 1] [zq_ilchk 4, zq_ilchk 1] 8 rfl (by decide +kernel) ?_
    show zq_G _ _ _ _ _ 8 ([(0, .int (nI b)), (1, .int (nI k)), (2, .long (lN (b ^ k))), (4, .int (nI k))], [.int (nI k), .int (nI k)], h)
    refine zq_if .ge 22 (k ≤ k) (by decide +kernel) (zq_cge (a := k) (b := k) (by omega) (by omega)) (fun c8 => ?_) (fun c8 => absurd (by omega) c8)
    show zq_G _ _ _ _ _ 22 ([(0, .int (nI b)), (1, .int (nI k)), (2, .long (lN (b ^ k))), (4, .int (nI k))], [], h)
    refine zq_b [zq_jl 2] [zq_jlchk 2] 23 rfl (by decide +kernel) ?_
    show zq_G _ _ _ _ _ 23 ([(0, .int (nI b)), (1, .int (nI k)), (2, .long (lN (b ^ k))), (4, .int (nI k))], [.long (lN (b ^ k))], h)
    exact zq_jret (by decide +kernel) rfl rfl rfl
set_option maxHeartbeats 4000000 in
set_option maxRecDepth 100000 in
theorem c_gcd {A : Nat} {Bn : Nat} {Ng : Nat} (hA : A < 2 ^ 62) (hB : Bn < 2 ^ 62) (hN1 : ∀ i, i < Ng → ¬ (eu A Bn i).2 = 0) (hN2 : (eu A Bn Ng).2 = 0) (hN3 : Ng < 60) : zq_P l mX11_commonDivisor 0 [.long (lN A), .long (lN Bn)] (h) (some (.long (lN (Nat.gcd A Bn)))) (h) := by
  refine zq_start (by decide +kernel) rfl (Nat.le_of_ble_eq_true rfl) ?_
  show zq_G _ _ _ _ _ 0 ([(0, .long (lN A)), (2, .long (lN Bn))], [], h)
  refine zq_b [zq_jl 0, zq_ls1 4, zq_jl 2, zq_ls1 6, zq_k 0, zq_is1 8] [zq_jlchk 0, zq_ls1chk 4, zq_jlchk 2, zq_ls1chk 6, zq_kchk 0, zq_is1chk 8] 9 rfl (by decide +kernel) ?_
  show zq_G _ _ _ _ _ 9 ([(0, .long (lN A)), (2, .long (lN Bn)), (4, .long (lN A)), (6, .long (lN Bn)), (8, .int 0)], [], h)
  refine zq_eq (σ2 := ([(0, .long (lN A)), (2, .long (lN Bn)), (4, .long (lN ((eu A Bn (0 : Nat)).1))), (6, .long (lN ((eu A Bn (0 : Nat)).2))), (8, .int (nI (0 : Nat)))], [], h)) (rfl) ?_
  refine zq_loop (fun i => ([(0, .long (lN A)), (2, .long (lN Bn)), (4, .long (lN ((eu A Bn i).1))), (6, .long (lN ((eu A Bn i).2))), (8, .int (nI i))], [], h)) (fun i => True) (Ng) (0) (by omega) (trivial) (fun i hl9 hi9 hI9 ih9 => ?_) (fun hI9 => ?_)
  · show zq_G _ _ _ _ _ 9 ([(0, .long (lN A)), (2, .long (lN Bn)), (4, .long (lN ((eu A Bn i).1))), (6, .long (lN ((eu A Bn i).2))), (8, .int (nI i))], [], h)
    have he := eu_le hA hB i
    have hne := hN1 i hi9
    refine zq_b [zq_il 8, zq_k 100] [zq_ilchk 8, zq_kchk 100] 13 rfl (by decide +kernel) ?_
    show zq_G _ _ _ _ _ 13 ([(0, .long (lN A)), (2, .long (lN Bn)), (4, .long (lN ((eu A Bn i).1))), (6, .long (lN ((eu A Bn i).2))), (8, .int (nI i))], [.int 100, .int (nI i)], h)
    refine zq_if .ge 44 (100 ≤ i) (by decide +kernel) (zq_cge (a := i) (b := 100) (by omega) (by omega)) (fun c13 => absurd c13 (by omega)) (fun c13 => ?_)
    show zq_G _ _ _ _ _ 16 ([(0, .long (lN A)), (2, .long (lN Bn)), (4, .long (lN ((eu A Bn i).1))), (6, .long (lN ((eu A Bn i).2))), (8, .int (nI i))], [], h)
    refine zq_b [zq_jl 6, zq_kj 0, zq_lcmp (lg_cmp (lN ((eu A Bn i).2)) 0)] [zq_jlchk 6, zq_klchk 0, zq_is .lcmp 1] 20 rfl (by decide +kernel) ?_
    refine ⟨rfl, ?_⟩
    show zq_G _ _ _ _ _ 20 ([(0, .long (lN A)), (2, .long (lN Bn)), (4, .long (lN ((eu A Bn i).1))), (6, .long (lN ((eu A Bn i).2))), (8, .int (nI i))], [.int (lg_cmp (lN ((eu A Bn i).2)) 0)], h)
    refine zq_ifz .eq 44 ((lN ((eu A Bn i).2)) = 0) (by decide +kernel) (zq_lc_eq _ _) (fun c20 => absurd c20 (lN_ne0 hne he.2)) (fun c20 => ?_)
    show zq_G _ _ _ _ _ 23 ([(0, .long (lN A)), (2, .long (lN Bn)), (4, .long (lN ((eu A Bn i).1))), (6, .long (lN ((eu A Bn i).2))), (8, .int (nI i))], [], h)
    refine zq_b [zq_jl 4, zq_jl 6, zq_lrem (lN ((eu A Bn i).1 % (eu A Bn i).2)), zq_ls1 9, zq_jl 6, zq_ls1 4, zq_jl 9, zq_ls1 6, zq_inc 8 1 (nI (i + 1)), zq_go] [zq_jlchk 4, zq_jlchk 6, zq_is .lrem 1, zq_ls1chk 9, zq_jlchk 6, zq_ls1chk 4, zq_jlchk 9, zq_ls1chk 6, zq_incchk 8 1, zq_gochk] 9 rfl (by decide +kernel) ?_
    refine ⟨(lN_ne0 hne he.2), (pk_lRem (by omega) (by omega) (by omega)), nI_add i 1, ?_⟩
    show zq_G _ _ _ _ _ 9 ([(0, .long (lN A)), (2, .long (lN Bn)), (4, .long (lN ((eu A Bn i).2))), (6, .long (lN ((eu A Bn i).1 % (eu A Bn i).2))), (8, .int (nI (i + 1))), (9, .long (lN ((eu A Bn i).1 % (eu A Bn i).2)))], [], h)
    refine zq_pick [0, 1, 2, 3, 4] rfl ?_
    show zq_G _ _ _ _ _ 9 ([(0, .long (lN A)), (2, .long (lN Bn)), (4, .long (lN ((eu A Bn i).2))), (6, .long (lN ((eu A Bn i).1 % (eu A Bn i).2))), (8, .int (nI (i + 1)))], [], h)
    exact ih9 trivial
  · show zq_G _ _ _ _ _ 9 ([(0, .long (lN A)), (2, .long (lN Bn)), (4, .long (lN ((eu A Bn Ng).1))), (6, .long (lN ((eu A Bn Ng).2))), (8, .int (nI Ng))], [], h)
    refine zq_b [zq_il 8, zq_k 100] [zq_ilchk 8, zq_kchk 100] 13 rfl (by decide +kernel) ?_
    show zq_G _ _ _ _ _ 13 ([(0, .long (lN A)), (2, .long (lN Bn)), (4, .long (lN ((eu A Bn Ng).1))), (6, .long (lN ((eu A Bn Ng).2))), (8, .int (nI Ng))], [.int 100, .int (nI Ng)], h)
    refine zq_if .ge 44 (100 ≤ Ng) (by decide +kernel) (zq_cge (a := Ng) (b := 100) (by omega) (by omega)) (fun c13 => absurd c13 (by omega)) (fun c13 => ?_)
    show zq_G _ _ _ _ _ 16 ([(0, .long (lN A)), (2, .long (lN Bn)), (4, .long (lN ((eu A Bn Ng).1))), (6, .long (lN ((eu A Bn Ng).2))), (8, .int (nI Ng))], [], h)
    refine zq_b [zq_jl 6, zq_kj 0, zq_lcmp (lg_cmp (lN ((eu A Bn Ng).2)) 0)] [zq_jlchk 6, zq_klchk 0, zq_is .lcmp 1] 20 rfl (by decide +kernel) ?_
    refine ⟨rfl, ?_⟩
    show zq_G _ _ _ _ _ 20 ([(0, .long (lN A)), (2, .long (lN Bn)), (4, .long (lN ((eu A Bn Ng).1))), (6, .long (lN ((eu A Bn Ng).2))), (8, .int (nI Ng))], [.int (lg_cmp (lN ((eu A Bn Ng).2)) 0)], h)
    refine zq_ifz .eq 44 ((lN ((eu A Bn Ng).2)) = 0) (by decide +kernel) (zq_lc_eq _ _) (fun c20 => ?_) (fun c20 => absurd (by rw [hN2]; rfl) c20)
    show zq_G _ _ _ _ _ 44 ([(0, .long (lN A)), (2, .long (lN Bn)), (4, .long (lN ((eu A Bn Ng).1))), (6, .long (lN ((eu A Bn Ng).2))), (8, .int (nI Ng))], [], h)
    refine zq_b [zq_jl 4] [zq_jlchk 4] 46 rfl (by decide +kernel) ?_
    show zq_G _ _ _ _ _ 46 ([(0, .long (lN A)), (2, .long (lN Bn)), (4, .long (lN ((eu A Bn Ng).1))), (6, .long (lN ((eu A Bn Ng).2))), (8, .int (nI Ng))], [.long (lN ((eu A Bn Ng).1))], h)
    exact zq_jret (by decide +kernel) rfl (by rw [eu_end hN2]) rfl
set_option maxHeartbeats 4000000 in
set_option maxRecDepth 100000 in
theorem x_odds_bad {x : Int32} {y : Int32} {u : Int32} (hb : ¬ (0 ≤ x.toInt ∧ x.toInt ≤ 10 ∧ 0 ≤ y.toInt ∧ y.toInt ≤ 9 ∧ 0 ≤ u.toInt ∧ u.toInt ≤ 1)) : zq_P l mX11_odds 1 [.ref 0, .int x, .int y, .int u] (XH tx (nI Z) (nI P, nI C, nI R, nI L, hs, ss, cs, gs, vs) dr rd (nI D, sm, nI N, nI K, ce, de, ke, se) i0 i1 kp dd tr m) (some (.long (-1))) (XH tx (nI Z) (nI P, nI C, nI R, nI L, hs, ss, cs, gs, vs) dr rd (nI D, sm, nI N, nI K, ce, de, ke, se) i0 i1 kp dd tr m) := by
  refine zq_start (by decide +kernel) rfl (Nat.le_of_ble_eq_true rfl) ?_
  show zq_G _ _ _ _ _ 0 ([(0, .ref 0), (1, .int x), (2, .int y), (3, .int u)], [], XH tx (nI Z) (nI P, nI C, nI R, nI L, hs, ss, cs, gs, vs) dr rd (nI D, sm, nI N, nI K, ce, de, ke, se) i0 i1 kp dd tr m)
  refine zq_b [zq_il 1, zq_k 10] [zq_ilchk 1, zq_kchk 10] 3 rfl (by decide +kernel) ?_
  show zq_G _ _ _ _ _ 3 ([(0, .ref 0), (1, .int x), (2, .int y), (3, .int u)], [.int 10, .int x], XH tx (nI Z) (nI P, nI C, nI R, nI L, hs, ss, cs, gs, vs) dr rd (nI D, sm, nI N, nI K, ce, de, ke, se) i0 i1 kp dd tr m)
  refine zq_callS (av := [.int x, .int 10]) (rest := []) (by decide +kernel) k11_87 (x_isBeyond (x := x) (q := 10) (by omega)) rfl rfl ?_
  show zq_G _ _ _ _ _ 6 ([(0, .ref 0), (1, .int x), (2, .int y), (3, .int u)], [.int (zb (x.toInt < 0 ∨ (10 : Int) < x.toInt))], XH tx (nI Z) (nI P, nI C, nI R, nI L, hs, ss, cs, gs, vs) dr rd (nI D, sm, nI N, nI K, ce, de, ke, se) i0 i1 kp dd tr m)
  refine zq_ifz .ne 26 (x.toInt < 0 ∨ (10 : Int) < x.toInt) (by decide +kernel) (zb_ne _) (fun c6 => ?_) (fun c6 => ?_)
  · show zq_G _ _ _ _ _ 26 ([(0, .ref 0), (1, .int x), (2, .int y), (3, .int u)], [], XH tx (nI Z) (nI P, nI C, nI R, nI L, hs, ss, cs, gs, vs) dr rd (nI D, sm, nI N, nI K, ce, de, ke, se) i0 i1 kp dd tr m)
    refine zq_b [zq_kj (-1)] [zq_klchk (-1)] 29 rfl (by decide +kernel) ?_
    show zq_G _ _ _ _ _ 29 ([(0, .ref 0), (1, .int x), (2, .int y), (3, .int u)], [.long (-1)], XH tx (nI Z) (nI P, nI C, nI R, nI L, hs, ss, cs, gs, vs) dr rd (nI D, sm, nI N, nI K, ce, de, ke, se) i0 i1 kp dd tr m)
    exact zq_jret (by decide +kernel) rfl rfl rfl
  · show zq_G _ _ _ _ _ 9 ([(0, .ref 0), (1, .int x), (2, .int y), (3, .int u)], [], XH tx (nI Z) (nI P, nI C, nI R, nI L, hs, ss, cs, gs, vs) dr rd (nI D, sm, nI N, nI K, ce, de, ke, se) i0 i1 kp dd tr m)
    refine zq_b [zq_il 2, zq_k 9] [zq_ilchk 2, zq_kchk 9] 12 rfl (by decide +kernel) ?_
    show zq_G _ _ _ _ _ 12 ([(0, .ref 0), (1, .int x), (2, .int y), (3, .int u)], [.int 9, .int y], XH tx (nI Z) (nI P, nI C, nI R, nI L, hs, ss, cs, gs, vs) dr rd (nI D, sm, nI N, nI K, ce, de, ke, se) i0 i1 kp dd tr m)
    refine zq_callS (av := [.int y, .int 9]) (rest := []) (by decide +kernel) k11_87 (x_isBeyond (x := y) (q := 9) (by omega)) rfl rfl ?_
    show zq_G _ _ _ _ _ 15 ([(0, .ref 0), (1, .int x), (2, .int y), (3, .int u)], [.int (zb (y.toInt < 0 ∨ (9 : Int) < y.toInt))], XH tx (nI Z) (nI P, nI C, nI R, nI L, hs, ss, cs, gs, vs) dr rd (nI D, sm, nI N, nI K, ce, de, ke, se) i0 i1 kp dd tr m)
    refine zq_ifz .ne 26 (y.toInt < 0 ∨ (9 : Int) < y.toInt) (by decide +kernel) (zb_ne _) (fun c15 => ?_) (fun c15 => ?_)
    · show zq_G _ _ _ _ _ 26 ([(0, .ref 0), (1, .int x), (2, .int y), (3, .int u)], [], XH tx (nI Z) (nI P, nI C, nI R, nI L, hs, ss, cs, gs, vs) dr rd (nI D, sm, nI N, nI K, ce, de, ke, se) i0 i1 kp dd tr m)
      refine zq_b [zq_kj (-1)] [zq_klchk (-1)] 29 rfl (by decide +kernel) ?_
      show zq_G _ _ _ _ _ 29 ([(0, .ref 0), (1, .int x), (2, .int y), (3, .int u)], [.long (-1)], XH tx (nI Z) (nI P, nI C, nI R, nI L, hs, ss, cs, gs, vs) dr rd (nI D, sm, nI N, nI K, ce, de, ke, se) i0 i1 kp dd tr m)
      exact zq_jret (by decide +kernel) rfl rfl rfl
    · show zq_G _ _ _ _ _ 18 ([(0, .ref 0), (1, .int x), (2, .int y), (3, .int u)], [], XH tx (nI Z) (nI P, nI C, nI R, nI L, hs, ss, cs, gs, vs) dr rd (nI D, sm, nI N, nI K, ce, de, ke, se) i0 i1 kp dd tr m)
      refine zq_b [zq_il 3, zq_k 1] [zq_ilchk 3, zq_kchk 1] 20 rfl (by decide +kernel) ?_
      show zq_G _ _ _ _ _ 20 ([(0, .ref 0), (1, .int x), (2, .int y), (3, .int u)], [.int 1, .int u], XH tx (nI Z) (nI P, nI C, nI R, nI L, hs, ss, cs, gs, vs) dr rd (nI D, sm, nI N, nI K, ce, de, ke, se) i0 i1 kp dd tr m)
      refine zq_callS (av := [.int u, .int 1]) (rest := []) (by decide +kernel) k11_87 (x_isBeyond (x := u) (q := 1) (by omega)) rfl rfl ?_
      show zq_G _ _ _ _ _ 23 ([(0, .ref 0), (1, .int x), (2, .int y), (3, .int u)], [.int (zb (u.toInt < 0 ∨ (1 : Int) < u.toInt))], XH tx (nI Z) (nI P, nI C, nI R, nI L, hs, ss, cs, gs, vs) dr rd (nI D, sm, nI N, nI K, ce, de, ke, se) i0 i1 kp dd tr m)
      refine zq_ifz .eq 30 (¬ (u.toInt < 0 ∨ (1 : Int) < u.toInt)) (by decide +kernel) (zb_eq _) (fun c23 => ?_) (fun c23 => ?_)
      · show zq_G _ _ _ _ _ 30 ([(0, .ref 0), (1, .int x), (2, .int y), (3, .int u)], [], XH tx (nI Z) (nI P, nI C, nI R, nI L, hs, ss, cs, gs, vs) dr rd (nI D, sm, nI N, nI K, ce, de, ke, se) i0 i1 kp dd tr m)
        exact absurd hb (by omega)
      · show zq_G _ _ _ _ _ 26 ([(0, .ref 0), (1, .int x), (2, .int y), (3, .int u)], [], XH tx (nI Z) (nI P, nI C, nI R, nI L, hs, ss, cs, gs, vs) dr rd (nI D, sm, nI N, nI K, ce, de, ke, se) i0 i1 kp dd tr m)
        refine zq_b [zq_kj (-1)] [zq_klchk (-1)] 29 rfl (by decide +kernel) ?_
        show zq_G _ _ _ _ _ 29 ([(0, .ref 0), (1, .int x), (2, .int y), (3, .int u)], [.long (-1)], XH tx (nI Z) (nI P, nI C, nI R, nI L, hs, ss, cs, gs, vs) dr rd (nI D, sm, nI N, nI K, ce, de, ke, se) i0 i1 kp dd tr m)
        exact zq_jret (by decide +kernel) rfl rfl rfl
set_option maxHeartbeats 4000000 in
set_option maxRecDepth 100000 in
theorem x_odds_0 {x : Nat} {k : Nat} (hx : x ≤ 10) (hk : k ≤ 9) : zq_P l mX11_odds 1 [.ref 0, .int (nI x), .int (nI k), .int 0] (XH tx (nI Z) (nI P, nI C, nI R, nI L, hs, ss, cs, gs, vs) dr rd (nI D, sm, nI N, nI K, ce, de, ke, se) i0 i1 kp dd tr m) (some (.long (lN ((10 ^ k - x ^ k) / Nat.gcd (10 ^ k) (10 ^ k - x ^ k))))) (XH tx (nI Z) (nI P, nI C, nI R, nI L, hs, ss, cs, gs, vs) dr rd (nI D, sm, nI N, nI K, ce, de, ke, se) i0 i1 kp dd tr m) := by
  refine zq_start (by decide +kernel) rfl (Nat.le_of_ble_eq_true rfl) ?_
  show zq_G _ _ _ _ _ 0 ([(0, .ref 0), (1, .int (nI x)), (2, .int (nI k)), (3, .int 0)], [], XH tx (nI Z) (nI P, nI C, nI R, nI L, hs, ss, cs, gs, vs) dr rd (nI D, sm, nI N, nI K, ce, de, ke, se) i0 i1 kp dd tr m)
  have h1 := p10 hk
  have h2 := p10p k
  have h3 := px (k := k) hx
  obtain ⟨⟨Ng, hN3, hN1, hN2⟩, -⟩ := eu_stop x (by omega) k (by omega)
  have hg1 : Nat.gcd (10 ^ k) (10 ^ k - x ^ k) ≤ 10 ^ k := Nat.gcd_le_left _ h2
  have hg2 : 0 < Nat.gcd (10 ^ k) (10 ^ k - x ^ k) := Nat.gcd_pos_of_pos_left _ h2
  have hA : 10 ^ k < 2 ^ 62 := by omega
  have hB : 10 ^ k - x ^ k < 2 ^ 62 := by omega
  refine zq_b [zq_il 1, zq_k 10] [zq_ilchk 1, zq_kchk 10] 3 rfl (by decide +kernel) ?_
  show zq_G _ _ _ _ _ 3 ([(0, .ref 0), (1, .int (nI x)), (2, .int (nI k)), (3, .int 0)], [.int 10, .int (nI x)], XH tx (nI Z) (nI P, nI C, nI R, nI L, hs, ss, cs, gs, vs) dr rd (nI D, sm, nI N, nI K, ce, de, ke, se) i0 i1 kp dd tr m)
  refine zq_callS (av := [.int (nI x), .int 10]) (rest := []) (by decide +kernel) k11_87 (x_isBeyondN (p := x) (q := 10) (by omega) (by omega)) rfl rfl ?_
  show zq_G _ _ _ _ _ 6 ([(0, .ref 0), (1, .int (nI x)), (2, .int (nI k)), (3, .int 0)], [.int (zb (10 < x))], XH tx (nI Z) (nI P, nI C, nI R, nI L, hs, ss, cs, gs, vs) dr rd (nI D, sm, nI N, nI K, ce, de, ke, se) i0 i1 kp dd tr m)
  refine zq_ifz .ne 26 (10 < x) (by decide +kernel) (zb_ne _) (fun c6 => absurd c6 (by omega)) (fun c6 => ?_)
  show zq_G _ _ _ _ _ 9 ([(0, .ref 0), (1, .int (nI x)), (2, .int (nI k)), (3, .int 0)], [], XH tx (nI Z) (nI P, nI C, nI R, nI L, hs, ss, cs, gs, vs) dr rd (nI D, sm, nI N, nI K, ce, de, ke, se) i0 i1 kp dd tr m)
  refine zq_b [zq_il 2, zq_k 9] [zq_ilchk 2, zq_kchk 9] 12 rfl (by decide +kernel) ?_
  show zq_G _ _ _ _ _ 12 ([(0, .ref 0), (1, .int (nI x)), (2, .int (nI k)), (3, .int 0)], [.int 9, .int (nI k)], XH tx (nI Z) (nI P, nI C, nI R, nI L, hs, ss, cs, gs, vs) dr rd (nI D, sm, nI N, nI K, ce, de, ke, se) i0 i1 kp dd tr m)
  refine zq_callS (av := [.int (nI k), .int 9]) (rest := []) (by decide +kernel) k11_87 (x_isBeyondN (p := k) (q := 9) (by omega) (by omega)) rfl rfl ?_
  show zq_G _ _ _ _ _ 15 ([(0, .ref 0), (1, .int (nI x)), (2, .int (nI k)), (3, .int 0)], [.int (zb (9 < k))], XH tx (nI Z) (nI P, nI C, nI R, nI L, hs, ss, cs, gs, vs) dr rd (nI D, sm, nI N, nI K, ce, de, ke, se) i0 i1 kp dd tr m)
  refine zq_ifz .ne 26 (9 < k) (by decide +kernel) (zb_ne _) (fun c15 => absurd c15 (by omega)) (fun c15 => ?_)
  show zq_G _ _ _ _ _ 18 ([(0, .ref 0), (1, .int (nI x)), (2, .int (nI k)), (3, .int 0)], [], XH tx (nI Z) (nI P, nI C, nI R, nI L, hs, ss, cs, gs, vs) dr rd (nI D, sm, nI N, nI K, ce, de, ke, se) i0 i1 kp dd tr m)
  refine zq_b [zq_il 3, zq_k 1] [zq_ilchk 3, zq_kchk 1] 20 rfl (by decide +kernel) ?_
  show zq_G _ _ _ _ _ 20 ([(0, .ref 0), (1, .int (nI x)), (2, .int (nI k)), (3, .int 0)], [.int 1, .int 0], XH tx (nI Z) (nI P, nI C, nI R, nI L, hs, ss, cs, gs, vs) dr rd (nI D, sm, nI N, nI K, ce, de, ke, se) i0 i1 kp dd tr m)
  refine zq_callS (av := [.int 0, .int 1]) (rest := []) (by decide +kernel) k11_87 (x_isBeyondN (p := 0) (q := 1) (by omega) (by omega)) rfl rfl ?_
  show zq_G _ _ _ _ _ 23 ([(0, .ref 0), (1, .int (nI x)), (2, .int (nI k)), (3, .int 0)], [.int (zb (1 < 0))], XH tx (nI Z) (nI P, nI C, nI R, nI L, hs, ss, cs, gs, vs) dr rd (nI D, sm, nI N, nI K, ce, de, ke, se) i0 i1 kp dd tr m)
  refine zq_ifz .eq 30 (¬ (1 < 0)) (by decide +kernel) (zb_eq _) (fun c23 => ?_) (fun c23 => absurd (by omega) c23)
  show zq_G _ _ _ _ _ 30 ([(0, .ref 0), (1, .int (nI x)), (2, .int (nI k)), (3, .int 0)], [], XH tx (nI Z) (nI P, nI C, nI R, nI L, hs, ss, cs, gs, vs) dr rd (nI D, sm, nI N, nI K, ce, de, ke, se) i0 i1 kp dd tr m)
  refine zq_b [zq_k 10, zq_il 2] [zq_kchk 10, zq_ilchk 2] 33 rfl (by decide +kernel) ?_
  show zq_G _ _ _ _ _ 33 ([(0, .ref 0), (1, .int (nI x)), (2, .int (nI k)), (3, .int 0)], [.int (nI k), .int 10], XH tx (nI Z) (nI P, nI C, nI R, nI L, hs, ss, cs, gs, vs) dr rd (nI D, sm, nI N, nI K, ce, de, ke, se) i0 i1 kp dd tr m)
  refine zq_callS (av := [.int 10, .int (nI k)]) (rest := []) (by decide +kernel) k11_202 (c_power (b := 10) (k := k) (by omega) (by omega)) rfl rfl ?_
  show zq_G _ _ _ _ _ 36 ([(0, .ref 0), (1, .int (nI x)), (2, .int (nI k)), (3, .int 0)], [.long (lN (10 ^ k))], XH tx (nI Z) (nI P, nI C, nI R, nI L, hs, ss, cs, gs, vs) dr rd (nI D, sm, nI N, nI K, ce, de, ke, se) i0 i1 kp dd tr m)
  refine zq_b [zq_ls1 4, zq_jl 4, zq_il 1, zq_il 2] [zq_ls1chk 4, zq_jlchk 4, zq_ilchk 1, zq_ilchk 2] 42 rfl (by decide +kernel) ?_
  show zq_G _ _ _ _ _ 42 ([(0, .ref 0), (1, .int (nI x)), (2, .int (nI k)), (3, .int 0), (4, .long (lN (10 ^ k)))], [.int (nI k), .int (nI x), .long (lN (10 ^ k))], XH tx (nI Z) (nI P, nI C, nI R, nI L, hs, ss, cs, gs, vs) dr rd (nI D, sm, nI N, nI K, ce, de, ke, se) i0 i1 kp dd tr m)
  refine zq_callS (av := [.int (nI x), .int (nI k)]) (rest := [.long (lN (10 ^ k))]) (by decide +kernel) k11_202 (c_power (b := x) (k := k) (by omega) (by omega)) rfl rfl ?_
  show zq_G _ _ _ _ _ 45 ([(0, .ref 0), (1, .int (nI x)), (2, .int (nI k)), (3, .int 0), (4, .long (lN (10 ^ k)))], [.long (lN (x ^ k)), .long (lN (10 ^ k))], XH tx (nI Z) (nI P, nI C, nI R, nI L, hs, ss, cs, gs, vs) dr rd (nI D, sm, nI N, nI K, ce, de, ke, se) i0 i1 kp dd tr m)
  refine zq_b [zq_lsub (lN (10 ^ k - x ^ k)), zq_ls1 6, zq_kj 1, zq_jl 4, zq_jl 6] [zq_is .lsub 1, zq_ls1chk 6, zq_klchk 1, zq_jlchk 4, zq_jlchk 6] 53 rfl (by decide +kernel) ?_
  refine ⟨(lN_sub h3), ?_⟩
  show zq_G _ _ _ _ _ 53 ([(0, .ref 0), (1, .int (nI x)), (2, .int (nI k)), (3, .int 0), (4, .long (lN (10 ^ k))), (6, .long (lN (10 ^ k - x ^ k)))], [.long (lN (10 ^ k - x ^ k)), .long (lN (10 ^ k)), .long 1], XH tx (nI Z) (nI P, nI C, nI R, nI L, hs, ss, cs, gs, vs) dr rd (nI D, sm, nI N, nI K, ce, de, ke, se) i0 i1 kp dd tr m)
  refine zq_callS (av := [.long (lN (10 ^ k)), .long (lN (10 ^ k - x ^ k))]) (rest := [.long 1]) (by decide +kernel) k11_206 (c_gcd (A := (10 ^ k)) (Bn := (10 ^ k - x ^ k)) (Ng := Ng) hA hB hN1 hN2 hN3) rfl rfl ?_
  show zq_G _ _ _ _ _ 56 ([(0, .ref 0), (1, .int (nI x)), (2, .int (nI k)), (3, .int 0), (4, .long (lN (10 ^ k))), (6, .long (lN (10 ^ k - x ^ k)))], [.long (lN (Nat.gcd (10 ^ k) (10 ^ k - x ^ k))), .long 1], XH tx (nI Z) (nI P, nI C, nI R, nI L, hs, ss, cs, gs, vs) dr rd (nI D, sm, nI N, nI K, ce, de, ke, se) i0 i1 kp dd tr m)
  refine zq_mmaxJ (rest := []) (by decide +kernel) k11_210 rfl ?_
  show zq_G _ _ _ _ _ 59 ([(0, .ref 0), (1, .int (nI x)), (2, .int (nI k)), (3, .int 0), (4, .long (lN (10 ^ k))), (6, .long (lN (10 ^ k - x ^ k)))], [.long (if (lN (Nat.gcd (10 ^ k) (10 ^ k - x ^ k))) < 1 then 1 else (lN (Nat.gcd (10 ^ k) (10 ^ k - x ^ k))))], XH tx (nI Z) (nI P, nI C, nI R, nI L, hs, ss, cs, gs, vs) dr rd (nI D, sm, nI N, nI K, ce, de, ke, se) i0 i1 kp dd tr m)
  refine zq_eq (σ2 := ([(0, .ref 0), (1, .int (nI x)), (2, .int (nI k)), (3, .int 0), (4, .long (lN (10 ^ k))), (6, .long (lN (10 ^ k - x ^ k)))], [.long (lN (Nat.gcd (10 ^ k) (10 ^ k - x ^ k)))], XH tx (nI Z) (nI P, nI C, nI R, nI L, hs, ss, cs, gs, vs) dr rd (nI D, sm, nI N, nI K, ce, de, ke, se) i0 i1 kp dd tr m)) (by rw [if_neg (show ¬ lN (Nat.gcd (10 ^ k) (10 ^ k - x ^ k)) < (1 : Int64) from fun q => absurd ((pk_lLT (a := Nat.gcd (10 ^ k) (10 ^ k - x ^ k)) (b := 1) (by omega) (by omega)).mp q) (by omega))]) ?_
  refine zq_b [zq_ls1 8, zq_il 3] [zq_ls1chk 8, zq_ilchk 3] 62 rfl (by decide +kernel) ?_
  show zq_G _ _ _ _ _ 62 ([(0, .ref 0), (1, .int (nI x)), (2, .int (nI k)), (3, .int 0), (4, .long (lN (10 ^ k))), (6, .long (lN (10 ^ k - x ^ k))), (8, .long (lN (Nat.gcd (10 ^ k) (10 ^ k - x ^ k))))], [.int 0], XH tx (nI Z) (nI P, nI C, nI R, nI L, hs, ss, cs, gs, vs) dr rd (nI D, sm, nI N, nI K, ce, de, ke, se) i0 i1 kp dd tr m)
  refine zq_ifz .ne 70 (¬ 0 = 0) (by decide +kernel) (zq_cne (a := 0) (b := 0) (by omega) (by omega)) (fun c62 => absurd c62 (fun q => q rfl)) (fun c62 => ?_)
  show zq_G _ _ _ _ _ 65 ([(0, .ref 0), (1, .int (nI x)), (2, .int (nI k)), (3, .int 0), (4, .long (lN (10 ^ k))), (6, .long (lN (10 ^ k - x ^ k))), (8, .long (lN (Nat.gcd (10 ^ k) (10 ^ k - x ^ k))))], [], XH tx (nI Z) (nI P, nI C, nI R, nI L, hs, ss, cs, gs, vs) dr rd (nI D, sm, nI N, nI K, ce, de, ke, se) i0 i1 kp dd tr m)
  refine zq_b [zq_jl 6, zq_go, zq_jl 8, zq_ldiv (lN ((10 ^ k - x ^ k) / Nat.gcd (10 ^ k) (10 ^ k - x ^ k)))] [zq_jlchk 6, zq_gochk, zq_jlchk 8, zq_is .ldiv 1] 75 rfl (by decide +kernel) ?_
  refine ⟨(lN_ne0 (by omega) (by omega)), (pk_lDiv (by omega) hg2 (by omega)), ?_⟩
  show zq_G _ _ _ _ _ 75 ([(0, .ref 0), (1, .int (nI x)), (2, .int (nI k)), (3, .int 0), (4, .long (lN (10 ^ k))), (6, .long (lN (10 ^ k - x ^ k))), (8, .long (lN (Nat.gcd (10 ^ k) (10 ^ k - x ^ k))))], [.long (lN ((10 ^ k - x ^ k) / Nat.gcd (10 ^ k) (10 ^ k - x ^ k)))], XH tx (nI Z) (nI P, nI C, nI R, nI L, hs, ss, cs, gs, vs) dr rd (nI D, sm, nI N, nI K, ce, de, ke, se) i0 i1 kp dd tr m)
  exact zq_jret (by decide +kernel) rfl rfl rfl
set_option maxHeartbeats 4000000 in
set_option maxRecDepth 100000 in
theorem x_odds_1 {x : Nat} {k : Nat} (hx : x ≤ 10) (hk : k ≤ 9) : zq_P l mX11_odds 1 [.ref 0, .int (nI x), .int (nI k), .int 1] (XH tx (nI Z) (nI P, nI C, nI R, nI L, hs, ss, cs, gs, vs) dr rd (nI D, sm, nI N, nI K, ce, de, ke, se) i0 i1 kp dd tr m) (some (.long (lN ((10 ^ k) / Nat.gcd (10 ^ k) (10 ^ k - x ^ k))))) (XH tx (nI Z) (nI P, nI C, nI R, nI L, hs, ss, cs, gs, vs) dr rd (nI D, sm, nI N, nI K, ce, de, ke, se) i0 i1 kp dd tr m) := by
  refine zq_start (by decide +kernel) rfl (Nat.le_of_ble_eq_true rfl) ?_
  show zq_G _ _ _ _ _ 0 ([(0, .ref 0), (1, .int (nI x)), (2, .int (nI k)), (3, .int 1)], [], XH tx (nI Z) (nI P, nI C, nI R, nI L, hs, ss, cs, gs, vs) dr rd (nI D, sm, nI N, nI K, ce, de, ke, se) i0 i1 kp dd tr m)
  have h1 := p10 hk
  have h2 := p10p k
  have h3 := px (k := k) hx
  obtain ⟨⟨Ng, hN3, hN1, hN2⟩, -⟩ := eu_stop x (by omega) k (by omega)
  have hg1 : Nat.gcd (10 ^ k) (10 ^ k - x ^ k) ≤ 10 ^ k := Nat.gcd_le_left _ h2
  have hg2 : 0 < Nat.gcd (10 ^ k) (10 ^ k - x ^ k) := Nat.gcd_pos_of_pos_left _ h2
  have hA : 10 ^ k < 2 ^ 62 := by omega
  have hB : 10 ^ k - x ^ k < 2 ^ 62 := by omega
  refine zq_b [zq_il 1, zq_k 10] [zq_ilchk 1, zq_kchk 10] 3 rfl (by decide +kernel) ?_
  show zq_G _ _ _ _ _ 3 ([(0, .ref 0), (1, .int (nI x)), (2, .int (nI k)), (3, .int 1)], [.int 10, .int (nI x)], XH tx (nI Z) (nI P, nI C, nI R, nI L, hs, ss, cs, gs, vs) dr rd (nI D, sm, nI N, nI K, ce, de, ke, se) i0 i1 kp dd tr m)
  refine zq_callS (av := [.int (nI x), .int 10]) (rest := []) (by decide +kernel) k11_87 (x_isBeyondN (p := x) (q := 10) (by omega) (by omega)) rfl rfl ?_
  show zq_G _ _ _ _ _ 6 ([(0, .ref 0), (1, .int (nI x)), (2, .int (nI k)), (3, .int 1)], [.int (zb (10 < x))], XH tx (nI Z) (nI P, nI C, nI R, nI L, hs, ss, cs, gs, vs) dr rd (nI D, sm, nI N, nI K, ce, de, ke, se) i0 i1 kp dd tr m)
  refine zq_ifz .ne 26 (10 < x) (by decide +kernel) (zb_ne _) (fun c6 => absurd c6 (by omega)) (fun c6 => ?_)
  show zq_G _ _ _ _ _ 9 ([(0, .ref 0), (1, .int (nI x)), (2, .int (nI k)), (3, .int 1)], [], XH tx (nI Z) (nI P, nI C, nI R, nI L, hs, ss, cs, gs, vs) dr rd (nI D, sm, nI N, nI K, ce, de, ke, se) i0 i1 kp dd tr m)
  refine zq_b [zq_il 2, zq_k 9] [zq_ilchk 2, zq_kchk 9] 12 rfl (by decide +kernel) ?_
  show zq_G _ _ _ _ _ 12 ([(0, .ref 0), (1, .int (nI x)), (2, .int (nI k)), (3, .int 1)], [.int 9, .int (nI k)], XH tx (nI Z) (nI P, nI C, nI R, nI L, hs, ss, cs, gs, vs) dr rd (nI D, sm, nI N, nI K, ce, de, ke, se) i0 i1 kp dd tr m)
  refine zq_callS (av := [.int (nI k), .int 9]) (rest := []) (by decide +kernel) k11_87 (x_isBeyondN (p := k) (q := 9) (by omega) (by omega)) rfl rfl ?_
  show zq_G _ _ _ _ _ 15 ([(0, .ref 0), (1, .int (nI x)), (2, .int (nI k)), (3, .int 1)], [.int (zb (9 < k))], XH tx (nI Z) (nI P, nI C, nI R, nI L, hs, ss, cs, gs, vs) dr rd (nI D, sm, nI N, nI K, ce, de, ke, se) i0 i1 kp dd tr m)
  refine zq_ifz .ne 26 (9 < k) (by decide +kernel) (zb_ne _) (fun c15 => absurd c15 (by omega)) (fun c15 => ?_)
  show zq_G _ _ _ _ _ 18 ([(0, .ref 0), (1, .int (nI x)), (2, .int (nI k)), (3, .int 1)], [], XH tx (nI Z) (nI P, nI C, nI R, nI L, hs, ss, cs, gs, vs) dr rd (nI D, sm, nI N, nI K, ce, de, ke, se) i0 i1 kp dd tr m)
  refine zq_b [zq_il 3, zq_k 1] [zq_ilchk 3, zq_kchk 1] 20 rfl (by decide +kernel) ?_
  show zq_G _ _ _ _ _ 20 ([(0, .ref 0), (1, .int (nI x)), (2, .int (nI k)), (3, .int 1)], [.int 1, .int 1], XH tx (nI Z) (nI P, nI C, nI R, nI L, hs, ss, cs, gs, vs) dr rd (nI D, sm, nI N, nI K, ce, de, ke, se) i0 i1 kp dd tr m)
  refine zq_callS (av := [.int 1, .int 1]) (rest := []) (by decide +kernel) k11_87 (x_isBeyondN (p := 1) (q := 1) (by omega) (by omega)) rfl rfl ?_
  show zq_G _ _ _ _ _ 23 ([(0, .ref 0), (1, .int (nI x)), (2, .int (nI k)), (3, .int 1)], [.int (zb (1 < 1))], XH tx (nI Z) (nI P, nI C, nI R, nI L, hs, ss, cs, gs, vs) dr rd (nI D, sm, nI N, nI K, ce, de, ke, se) i0 i1 kp dd tr m)
  refine zq_ifz .eq 30 (¬ (1 < 1)) (by decide +kernel) (zb_eq _) (fun c23 => ?_) (fun c23 => absurd (by omega) c23)
  show zq_G _ _ _ _ _ 30 ([(0, .ref 0), (1, .int (nI x)), (2, .int (nI k)), (3, .int 1)], [], XH tx (nI Z) (nI P, nI C, nI R, nI L, hs, ss, cs, gs, vs) dr rd (nI D, sm, nI N, nI K, ce, de, ke, se) i0 i1 kp dd tr m)
  refine zq_b [zq_k 10, zq_il 2] [zq_kchk 10, zq_ilchk 2] 33 rfl (by decide +kernel) ?_
  show zq_G _ _ _ _ _ 33 ([(0, .ref 0), (1, .int (nI x)), (2, .int (nI k)), (3, .int 1)], [.int (nI k), .int 10], XH tx (nI Z) (nI P, nI C, nI R, nI L, hs, ss, cs, gs, vs) dr rd (nI D, sm, nI N, nI K, ce, de, ke, se) i0 i1 kp dd tr m)
  refine zq_callS (av := [.int 10, .int (nI k)]) (rest := []) (by decide +kernel) k11_202 (c_power (b := 10) (k := k) (by omega) (by omega)) rfl rfl ?_
  show zq_G _ _ _ _ _ 36 ([(0, .ref 0), (1, .int (nI x)), (2, .int (nI k)), (3, .int 1)], [.long (lN (10 ^ k))], XH tx (nI Z) (nI P, nI C, nI R, nI L, hs, ss, cs, gs, vs) dr rd (nI D, sm, nI N, nI K, ce, de, ke, se) i0 i1 kp dd tr m)
  refine zq_b [zq_ls1 4, zq_jl 4, zq_il 1, zq_il 2] [zq_ls1chk 4, zq_jlchk 4, zq_ilchk 1, zq_ilchk 2] 42 rfl (by decide +kernel) ?_
  show zq_G _ _ _ _ _ 42 ([(0, .ref 0), (1, .int (nI x)), (2, .int (nI k)), (3, .int 1), (4, .long (lN (10 ^ k)))], [.int (nI k), .int (nI x), .long (lN (10 ^ k))], XH tx (nI Z) (nI P, nI C, nI R, nI L, hs, ss, cs, gs, vs) dr rd (nI D, sm, nI N, nI K, ce, de, ke, se) i0 i1 kp dd tr m)
  refine zq_callS (av := [.int (nI x), .int (nI k)]) (rest := [.long (lN (10 ^ k))]) (by decide +kernel) k11_202 (c_power (b := x) (k := k) (by omega) (by omega)) rfl rfl ?_
  show zq_G _ _ _ _ _ 45 ([(0, .ref 0), (1, .int (nI x)), (2, .int (nI k)), (3, .int 1), (4, .long (lN (10 ^ k)))], [.long (lN (x ^ k)), .long (lN (10 ^ k))], XH tx (nI Z) (nI P, nI C, nI R, nI L, hs, ss, cs, gs, vs) dr rd (nI D, sm, nI N, nI K, ce, de, ke, se) i0 i1 kp dd tr m)
  refine zq_b [zq_lsub (lN (10 ^ k - x ^ k)), zq_ls1 6, zq_kj 1, zq_jl 4, zq_jl 6] [zq_is .lsub 1, zq_ls1chk 6, zq_klchk 1, zq_jlchk 4, zq_jlchk 6] 53 rfl (by decide +kernel) ?_
  refine ⟨(lN_sub h3), ?_⟩
  show zq_G _ _ _ _ _ 53 ([(0, .ref 0), (1, .int (nI x)), (2, .int (nI k)), (3, .int 1), (4, .long (lN (10 ^ k))), (6, .long (lN (10 ^ k - x ^ k)))], [.long (lN (10 ^ k - x ^ k)), .long (lN (10 ^ k)), .long 1], XH tx (nI Z) (nI P, nI C, nI R, nI L, hs, ss, cs, gs, vs) dr rd (nI D, sm, nI N, nI K, ce, de, ke, se) i0 i1 kp dd tr m)
  refine zq_callS (av := [.long (lN (10 ^ k)), .long (lN (10 ^ k - x ^ k))]) (rest := [.long 1]) (by decide +kernel) k11_206 (c_gcd (A := (10 ^ k)) (Bn := (10 ^ k - x ^ k)) (Ng := Ng) hA hB hN1 hN2 hN3) rfl rfl ?_
  show zq_G _ _ _ _ _ 56 ([(0, .ref 0), (1, .int (nI x)), (2, .int (nI k)), (3, .int 1), (4, .long (lN (10 ^ k))), (6, .long (lN (10 ^ k - x ^ k)))], [.long (lN (Nat.gcd (10 ^ k) (10 ^ k - x ^ k))), .long 1], XH tx (nI Z) (nI P, nI C, nI R, nI L, hs, ss, cs, gs, vs) dr rd (nI D, sm, nI N, nI K, ce, de, ke, se) i0 i1 kp dd tr m)
  refine zq_mmaxJ (rest := []) (by decide +kernel) k11_210 rfl ?_
  show zq_G _ _ _ _ _ 59 ([(0, .ref 0), (1, .int (nI x)), (2, .int (nI k)), (3, .int 1), (4, .long (lN (10 ^ k))), (6, .long (lN (10 ^ k - x ^ k)))], [.long (if (lN (Nat.gcd (10 ^ k) (10 ^ k - x ^ k))) < 1 then 1 else (lN (Nat.gcd (10 ^ k) (10 ^ k - x ^ k))))], XH tx (nI Z) (nI P, nI C, nI R, nI L, hs, ss, cs, gs, vs) dr rd (nI D, sm, nI N, nI K, ce, de, ke, se) i0 i1 kp dd tr m)
  refine zq_eq (σ2 := ([(0, .ref 0), (1, .int (nI x)), (2, .int (nI k)), (3, .int 1), (4, .long (lN (10 ^ k))), (6, .long (lN (10 ^ k - x ^ k)))], [.long (lN (Nat.gcd (10 ^ k) (10 ^ k - x ^ k)))], XH tx (nI Z) (nI P, nI C, nI R, nI L, hs, ss, cs, gs, vs) dr rd (nI D, sm, nI N, nI K, ce, de, ke, se) i0 i1 kp dd tr m)) (by rw [if_neg (show ¬ lN (Nat.gcd (10 ^ k) (10 ^ k - x ^ k)) < (1 : Int64) from fun q => absurd ((pk_lLT (a := Nat.gcd (10 ^ k) (10 ^ k - x ^ k)) (b := 1) (by omega) (by omega)).mp q) (by omega))]) ?_
  refine zq_b [zq_ls1 8, zq_il 3] [zq_ls1chk 8, zq_ilchk 3] 62 rfl (by decide +kernel) ?_
  show zq_G _ _ _ _ _ 62 ([(0, .ref 0), (1, .int (nI x)), (2, .int (nI k)), (3, .int 1), (4, .long (lN (10 ^ k))), (6, .long (lN (10 ^ k - x ^ k))), (8, .long (lN (Nat.gcd (10 ^ k) (10 ^ k - x ^ k))))], [.int 1], XH tx (nI Z) (nI P, nI C, nI R, nI L, hs, ss, cs, gs, vs) dr rd (nI D, sm, nI N, nI K, ce, de, ke, se) i0 i1 kp dd tr m)
  refine zq_ifz .ne 70 (¬ 1 = 0) (by decide +kernel) (zq_cne (a := 1) (b := 0) (by omega) (by omega)) (fun c62 => ?_) (fun c62 => absurd (by decide) c62)
  show zq_G _ _ _ _ _ 70 ([(0, .ref 0), (1, .int (nI x)), (2, .int (nI k)), (3, .int 1), (4, .long (lN (10 ^ k))), (6, .long (lN (10 ^ k - x ^ k))), (8, .long (lN (Nat.gcd (10 ^ k) (10 ^ k - x ^ k))))], [], XH tx (nI Z) (nI P, nI C, nI R, nI L, hs, ss, cs, gs, vs) dr rd (nI D, sm, nI N, nI K, ce, de, ke, se) i0 i1 kp dd tr m)
  refine zq_b [zq_jl 4, zq_jl 8, zq_ldiv (lN ((10 ^ k) / Nat.gcd (10 ^ k) (10 ^ k - x ^ k)))] [zq_jlchk 4, zq_jlchk 8, zq_is .ldiv 1] 75 rfl (by decide +kernel) ?_
  refine ⟨(lN_ne0 (by omega) (by omega)), (pk_lDiv (by omega) hg2 (by omega)), ?_⟩
  show zq_G _ _ _ _ _ 75 ([(0, .ref 0), (1, .int (nI x)), (2, .int (nI k)), (3, .int 1), (4, .long (lN (10 ^ k))), (6, .long (lN (10 ^ k - x ^ k))), (8, .long (lN (Nat.gcd (10 ^ k) (10 ^ k - x ^ k))))], [.long (lN ((10 ^ k) / Nat.gcd (10 ^ k) (10 ^ k - x ^ k)))], XH tx (nI Z) (nI P, nI C, nI R, nI L, hs, ss, cs, gs, vs) dr rd (nI D, sm, nI N, nI K, ce, de, ke, se) i0 i1 kp dd tr m)
  exact zq_jret (by decide +kernel) rfl rfl rfl
set_option maxHeartbeats 4000000 in
set_option maxRecDepth 100000 in
theorem x_often_bad {x : Int32} {y : Int32} (hb : ¬ (0 ≤ x.toInt ∧ x.toInt ≤ 10 ∧ 0 ≤ y.toInt ∧ y.toInt ≤ 10)) : zq_P l mX11_often 1 [.ref 0, .int x, .int y] (XH tx (nI Z) (nI P, nI C, nI R, nI L, hs, ss, cs, gs, vs) dr rd (nI D, sm, nI N, nI K, ce, de, ke, se) i0 i1 kp dd tr m) (some (.int (-1))) (XH tx (nI Z) (nI P, nI C, nI R, nI L, hs, ss, cs, gs, vs) dr rd (nI D, sm, nI N, nI K, ce, de, ke, se) i0 i1 kp dd tr m) := by
  refine zq_start (by decide +kernel) rfl (Nat.le_of_ble_eq_true rfl) ?_
  show zq_G _ _ _ _ _ 0 ([(0, .ref 0), (1, .int x), (2, .int y)], [], XH tx (nI Z) (nI P, nI C, nI R, nI L, hs, ss, cs, gs, vs) dr rd (nI D, sm, nI N, nI K, ce, de, ke, se) i0 i1 kp dd tr m)
  refine zq_b [zq_il 1, zq_k 10] [zq_ilchk 1, zq_kchk 10] 3 rfl (by decide +kernel) ?_
  show zq_G _ _ _ _ _ 3 ([(0, .ref 0), (1, .int x), (2, .int y)], [.int 10, .int x], XH tx (nI Z) (nI P, nI C, nI R, nI L, hs, ss, cs, gs, vs) dr rd (nI D, sm, nI N, nI K, ce, de, ke, se) i0 i1 kp dd tr m)
  refine zq_callS (av := [.int x, .int 10]) (rest := []) (by decide +kernel) k11_87 (x_isBeyond (x := x) (q := 10) (by omega)) rfl rfl ?_
  show zq_G _ _ _ _ _ 6 ([(0, .ref 0), (1, .int x), (2, .int y)], [.int (zb (x.toInt < 0 ∨ (10 : Int) < x.toInt))], XH tx (nI Z) (nI P, nI C, nI R, nI L, hs, ss, cs, gs, vs) dr rd (nI D, sm, nI N, nI K, ce, de, ke, se) i0 i1 kp dd tr m)
  refine zq_ifz .ne 18 (x.toInt < 0 ∨ (10 : Int) < x.toInt) (by decide +kernel) (zb_ne _) (fun c6 => ?_) (fun c6 => ?_)
  · show zq_G _ _ _ _ _ 18 ([(0, .ref 0), (1, .int x), (2, .int y)], [], XH tx (nI Z) (nI P, nI C, nI R, nI L, hs, ss, cs, gs, vs) dr rd (nI D, sm, nI N, nI K, ce, de, ke, se) i0 i1 kp dd tr m)
    refine zq_b [zq_k (-1)] [zq_kchk (-1)] 19 rfl (by decide +kernel) ?_
    show zq_G _ _ _ _ _ 19 ([(0, .ref 0), (1, .int x), (2, .int y)], [.int (-1)], XH tx (nI Z) (nI P, nI C, nI R, nI L, hs, ss, cs, gs, vs) dr rd (nI D, sm, nI N, nI K, ce, de, ke, se) i0 i1 kp dd tr m)
    exact zq_iret (by decide +kernel) rfl rfl rfl
  · show zq_G _ _ _ _ _ 9 ([(0, .ref 0), (1, .int x), (2, .int y)], [], XH tx (nI Z) (nI P, nI C, nI R, nI L, hs, ss, cs, gs, vs) dr rd (nI D, sm, nI N, nI K, ce, de, ke, se) i0 i1 kp dd tr m)
    refine zq_b [zq_il 2, zq_k 10] [zq_ilchk 2, zq_kchk 10] 12 rfl (by decide +kernel) ?_
    show zq_G _ _ _ _ _ 12 ([(0, .ref 0), (1, .int x), (2, .int y)], [.int 10, .int y], XH tx (nI Z) (nI P, nI C, nI R, nI L, hs, ss, cs, gs, vs) dr rd (nI D, sm, nI N, nI K, ce, de, ke, se) i0 i1 kp dd tr m)
    refine zq_callS (av := [.int y, .int 10]) (rest := []) (by decide +kernel) k11_87 (x_isBeyond (x := y) (q := 10) (by omega)) rfl rfl ?_
    show zq_G _ _ _ _ _ 15 ([(0, .ref 0), (1, .int x), (2, .int y)], [.int (zb (y.toInt < 0 ∨ (10 : Int) < y.toInt))], XH tx (nI Z) (nI P, nI C, nI R, nI L, hs, ss, cs, gs, vs) dr rd (nI D, sm, nI N, nI K, ce, de, ke, se) i0 i1 kp dd tr m)
    refine zq_ifz .eq 20 (¬ (y.toInt < 0 ∨ (10 : Int) < y.toInt)) (by decide +kernel) (zb_eq _) (fun c15 => ?_) (fun c15 => ?_)
    · show zq_G _ _ _ _ _ 20 ([(0, .ref 0), (1, .int x), (2, .int y)], [], XH tx (nI Z) (nI P, nI C, nI R, nI L, hs, ss, cs, gs, vs) dr rd (nI D, sm, nI N, nI K, ce, de, ke, se) i0 i1 kp dd tr m)
      exact absurd hb (by omega)
    · show zq_G _ _ _ _ _ 18 ([(0, .ref 0), (1, .int x), (2, .int y)], [], XH tx (nI Z) (nI P, nI C, nI R, nI L, hs, ss, cs, gs, vs) dr rd (nI D, sm, nI N, nI K, ce, de, ke, se) i0 i1 kp dd tr m)
      refine zq_b [zq_k (-1)] [zq_kchk (-1)] 19 rfl (by decide +kernel) ?_
      show zq_G _ _ _ _ _ 19 ([(0, .ref 0), (1, .int x), (2, .int y)], [.int (-1)], XH tx (nI Z) (nI P, nI C, nI R, nI L, hs, ss, cs, gs, vs) dr rd (nI D, sm, nI N, nI K, ce, de, ke, se) i0 i1 kp dd tr m)
      exact zq_iret (by decide +kernel) rfl rfl rfl
set_option maxHeartbeats 4000000 in
set_option maxRecDepth 100000 in
theorem x_often {x : Nat} {y : Nat} (hx : x ≤ 10) (hy : y ≤ 10) : zq_P l mX11_often 1 [.ref 0, .int (nI x), .int (nI y)] (XH tx (nI Z) (nI P, nI C, nI R, nI L, hs, ss, cs, gs, vs) dr rd (nI D, sm, nI N, nI K, ce, de, ke, se) i0 i1 kp dd tr m) (some (.int (zfs (fun k => decide (y * 10 ^ k ≤ 10 * (10 ^ k - x ^ k))) nI 10))) (XH tx (nI Z) (nI P, nI C, nI R, nI L, hs, ss, cs, gs, vs) dr rd (nI D, sm, nI N, nI K, ce, de, ke, se) i0 i1 kp dd tr m) := by
  refine zq_start (by decide +kernel) rfl (Nat.le_of_ble_eq_true rfl) ?_
  show zq_G _ _ _ _ _ 0 ([(0, .ref 0), (1, .int (nI x)), (2, .int (nI y))], [], XH tx (nI Z) (nI P, nI C, nI R, nI L, hs, ss, cs, gs, vs) dr rd (nI D, sm, nI N, nI K, ce, de, ke, se) i0 i1 kp dd tr m)
  refine zq_b [zq_il 1, zq_k 10] [zq_ilchk 1, zq_kchk 10] 3 rfl (by decide +kernel) ?_
  show zq_G _ _ _ _ _ 3 ([(0, .ref 0), (1, .int (nI x)), (2, .int (nI y))], [.int 10, .int (nI x)], XH tx (nI Z) (nI P, nI C, nI R, nI L, hs, ss, cs, gs, vs) dr rd (nI D, sm, nI N, nI K, ce, de, ke, se) i0 i1 kp dd tr m)
  refine zq_callS (av := [.int (nI x), .int 10]) (rest := []) (by decide +kernel) k11_87 (x_isBeyondN (p := x) (q := 10) (by omega) (by omega)) rfl rfl ?_
  show zq_G _ _ _ _ _ 6 ([(0, .ref 0), (1, .int (nI x)), (2, .int (nI y))], [.int (zb (10 < x))], XH tx (nI Z) (nI P, nI C, nI R, nI L, hs, ss, cs, gs, vs) dr rd (nI D, sm, nI N, nI K, ce, de, ke, se) i0 i1 kp dd tr m)
  refine zq_ifz .ne 18 (10 < x) (by decide +kernel) (zb_ne _) (fun c6 => absurd c6 (by omega)) (fun c6 => ?_)
  show zq_G _ _ _ _ _ 9 ([(0, .ref 0), (1, .int (nI x)), (2, .int (nI y))], [], XH tx (nI Z) (nI P, nI C, nI R, nI L, hs, ss, cs, gs, vs) dr rd (nI D, sm, nI N, nI K, ce, de, ke, se) i0 i1 kp dd tr m)
  refine zq_b [zq_il 2, zq_k 10] [zq_ilchk 2, zq_kchk 10] 12 rfl (by decide +kernel) ?_
  show zq_G _ _ _ _ _ 12 ([(0, .ref 0), (1, .int (nI x)), (2, .int (nI y))], [.int 10, .int (nI y)], XH tx (nI Z) (nI P, nI C, nI R, nI L, hs, ss, cs, gs, vs) dr rd (nI D, sm, nI N, nI K, ce, de, ke, se) i0 i1 kp dd tr m)
  refine zq_callS (av := [.int (nI y), .int 10]) (rest := []) (by decide +kernel) k11_87 (x_isBeyondN (p := y) (q := 10) (by omega) (by omega)) rfl rfl ?_
  show zq_G _ _ _ _ _ 15 ([(0, .ref 0), (1, .int (nI x)), (2, .int (nI y))], [.int (zb (10 < y))], XH tx (nI Z) (nI P, nI C, nI R, nI L, hs, ss, cs, gs, vs) dr rd (nI D, sm, nI N, nI K, ce, de, ke, se) i0 i1 kp dd tr m)
  refine zq_ifz .eq 20 (¬ (10 < y)) (by decide +kernel) (zb_eq _) (fun c15 => ?_) (fun c15 => absurd (by omega) c15)
  show zq_G _ _ _ _ _ 20 ([(0, .ref 0), (1, .int (nI x)), (2, .int (nI y))], [], XH tx (nI Z) (nI P, nI C, nI R, nI L, hs, ss, cs, gs, vs) dr rd (nI D, sm, nI N, nI K, ce, de, ke, se) i0 i1 kp dd tr m)
  refine zq_b [zq_k 0, zq_is1 3] [zq_kchk 0, zq_is1chk 3] 22 rfl (by decide +kernel) ?_
  show zq_G _ _ _ _ _ 22 ([(0, .ref 0), (1, .int (nI x)), (2, .int (nI y)), (3, .int 0)], [], XH tx (nI Z) (nI P, nI C, nI R, nI L, hs, ss, cs, gs, vs) dr rd (nI D, sm, nI N, nI K, ce, de, ke, se) i0 i1 kp dd tr m)
  refine zq_loop (fun i => ([(0, .ref 0), (1, .int (nI x)), (2, .int (nI y)), (3, .int (nI i))], [], XH tx (nI Z) (nI P, nI C, nI R, nI L, hs, ss, cs, gs, vs) dr rd (nI D, sm, nI N, nI K, ce, de, ke, se) i0 i1 kp dd tr m)) (fun i => ∀ j, j < i → decide (y * 10 ^ j ≤ 10 * (10 ^ j - x ^ j)) = false) (10) (0) (by omega) ((fun j hj => absurd hj (by omega))) (fun i hl22 hi22 hI22 ih22 => ?_) (fun hI22 => ?_)
  · show zq_G _ _ _ _ _ 22 ([(0, .ref 0), (1, .int (nI x)), (2, .int (nI y)), (3, .int (nI i))], [], XH tx (nI Z) (nI P, nI C, nI R, nI L, hs, ss, cs, gs, vs) dr rd (nI D, sm, nI N, nI K, ce, de, ke, se) i0 i1 kp dd tr m)
    have h1 := p10 (k := i) (by omega)
    have h3 := px (k := i) hx
    have hyi : y * 10 ^ i ≤ 10 * 1000000000 := Nat.mul_le_mul hy h1
    refine zq_b [zq_il 3, zq_k 9] [zq_ilchk 3, zq_kchk 9] 25 rfl (by decide +kernel) ?_
    show zq_G _ _ _ _ _ 25 ([(0, .ref 0), (1, .int (nI x)), (2, .int (nI y)), (3, .int (nI i))], [.int 9, .int (nI i)], XH tx (nI Z) (nI P, nI C, nI R, nI L, hs, ss, cs, gs, vs) dr rd (nI D, sm, nI N, nI K, ce, de, ke, se) i0 i1 kp dd tr m)
    refine zq_if .gt 65 (9 < i) (by decide +kernel) (zq_cgt (a := i) (b := 9) (by omega) (by omega)) (fun c25 => absurd c25 (by omega)) (fun c25 => ?_)
    show zq_G _ _ _ _ _ 28 ([(0, .ref 0), (1, .int (nI x)), (2, .int (nI y)), (3, .int (nI i))], [], XH tx (nI Z) (nI P, nI C, nI R, nI L, hs, ss, cs, gs, vs) dr rd (nI D, sm, nI N, nI K, ce, de, ke, se) i0 i1 kp dd tr m)
    refine zq_b [zq_k 10, zq_il 3] [zq_kchk 10, zq_ilchk 3] 31 rfl (by decide +kernel) ?_
    show zq_G _ _ _ _ _ 31 ([(0, .ref 0), (1, .int (nI x)), (2, .int (nI y)), (3, .int (nI i))], [.int (nI i), .int 10], XH tx (nI Z) (nI P, nI C, nI R, nI L, hs, ss, cs, gs, vs) dr rd (nI D, sm, nI N, nI K, ce, de, ke, se) i0 i1 kp dd tr m)
    refine zq_callS (av := [.int 10, .int (nI i)]) (rest := []) (by decide +kernel) k11_202 (c_power (b := 10) (k := i) (by omega) (by omega)) rfl rfl ?_
    show zq_G _ _ _ _ _ 34 ([(0, .ref 0), (1, .int (nI x)), (2, .int (nI y)), (3, .int (nI i))], [.long (lN (10 ^ i))], XH tx (nI Z) (nI P, nI C, nI R, nI L, hs, ss, cs, gs, vs) dr rd (nI D, sm, nI N, nI K, ce, de, ke, se) i0 i1 kp dd tr m)
    refine zq_b [zq_ls1 4, zq_kj 10, zq_jl 4, zq_il 1, zq_il 3] [zq_ls1chk 4, zq_klchk 10, zq_jlchk 4, zq_ilchk 1, zq_ilchk 3] 43 rfl (by decide +kernel) ?_
    show zq_G _ _ _ _ _ 43 ([(0, .ref 0), (1, .int (nI x)), (2, .int (nI y)), (3, .int (nI i)), (4, .long (lN (10 ^ i)))], [.int (nI i), .int (nI x), .long (lN (10 ^ i)), .long 10], XH tx (nI Z) (nI P, nI C, nI R, nI L, hs, ss, cs, gs, vs) dr rd (nI D, sm, nI N, nI K, ce, de, ke, se) i0 i1 kp dd tr m)
    refine zq_callS (av := [.int (nI x), .int (nI i)]) (rest := [.long (lN (10 ^ i)), .long 10]) (by decide +kernel) k11_202 (c_power (b := x) (k := i) (by omega) (by omega)) rfl rfl ?_
    show zq_G _ _ _ _ _ 46 ([(0, .ref 0), (1, .int (nI x)), (2, .int (nI y)), (3, .int (nI i)), (4, .long (lN (10 ^ i)))], [.long (lN (x ^ i)), .long (lN (10 ^ i)), .long 10], XH tx (nI Z) (nI P, nI C, nI R, nI L, hs, ss, cs, gs, vs) dr rd (nI D, sm, nI N, nI K, ce, de, ke, se) i0 i1 kp dd tr m)
    refine zq_b [zq_lsub (lN (10 ^ i - x ^ i)), zq_lmul (lN (10 * (10 ^ i - x ^ i))), zq_il 2, zq_i2l (lN y), zq_jl 4, zq_lmul (lN (y * 10 ^ i)), zq_lcmp (lg_cmp (lN (10 * (10 ^ i - x ^ i))) (lN (y * 10 ^ i)))] [zq_is .lsub 1, zq_is .lmul 1, zq_ilchk 2, zq_is .i2l 1, zq_jlchk 4, zq_is .lmul 1, zq_is .lcmp 1] 54 rfl (by decide +kernel) ?_
    refine ⟨(lN_sub h3), (lN_mul 10 (10 ^ i - x ^ i)), (nI_l (by omega)), (lN_mul y (10 ^ i)), rfl, ?_⟩
    show zq_G _ _ _ _ _ 54 ([(0, .ref 0), (1, .int (nI x)), (2, .int (nI y)), (3, .int (nI i)), (4, .long (lN (10 ^ i)))], [.int (lg_cmp (lN (10 * (10 ^ i - x ^ i))) (lN (y * 10 ^ i)))], XH tx (nI Z) (nI P, nI C, nI R, nI L, hs, ss, cs, gs, vs) dr rd (nI D, sm, nI N, nI K, ce, de, ke, se) i0 i1 kp dd tr m)
    refine zq_ifz .lt 59 (10 * (10 ^ i - x ^ i) < y * 10 ^ i) (by decide +kernel) ((zq_lc_lt _ _).trans (pk_lLT (by omega) (by omega))) (fun c54 => ?_) (fun c54 => ?_)
    · show zq_G _ _ _ _ _ 59 ([(0, .ref 0), (1, .int (nI x)), (2, .int (nI y)), (3, .int (nI i)), (4, .long (lN (10 ^ i)))], [], XH tx (nI Z) (nI P, nI C, nI R, nI L, hs, ss, cs, gs, vs) dr rd (nI D, sm, nI N, nI K, ce, de, ke, se) i0 i1 kp dd tr m)
      refine zq_b [zq_inc 3 1 (nI (i + 1)), zq_go] [zq_incchk 3 1, zq_gochk] 22 rfl (by decide +kernel) ?_
      refine ⟨nI_add i 1, ?_⟩
      show zq_G _ _ _ _ _ 22 ([(0, .ref 0), (1, .int (nI x)), (2, .int (nI y)), (3, .int (nI (i + 1))), (4, .long (lN (10 ^ i)))], [], XH tx (nI Z) (nI P, nI C, nI R, nI L, hs, ss, cs, gs, vs) dr rd (nI D, sm, nI N, nI K, ce, de, ke, se) i0 i1 kp dd tr m)
      refine zq_pick [0, 1, 2, 3] rfl ?_
      show zq_G _ _ _ _ _ 22 ([(0, .ref 0), (1, .int (nI x)), (2, .int (nI y)), (3, .int (nI (i + 1)))], [], XH tx (nI Z) (nI P, nI C, nI R, nI L, hs, ss, cs, gs, vs) dr rd (nI D, sm, nI N, nI K, ce, de, ke, se) i0 i1 kp dd tr m)
      exact ih22 (lt_ext hI22 (decide_eq_false (by omega)))
    · show zq_G _ _ _ _ _ 57 ([(0, .ref 0), (1, .int (nI x)), (2, .int (nI y)), (3, .int (nI i)), (4, .long (lN (10 ^ i)))], [], XH tx (nI Z) (nI P, nI C, nI R, nI L, hs, ss, cs, gs, vs) dr rd (nI D, sm, nI N, nI K, ce, de, ke, se) i0 i1 kp dd tr m)
      refine zq_b [zq_il 3] [zq_ilchk 3] 58 rfl (by decide +kernel) ?_
      show zq_G _ _ _ _ _ 58 ([(0, .ref 0), (1, .int (nI x)), (2, .int (nI y)), (3, .int (nI i)), (4, .long (lN (10 ^ i)))], [.int (nI i)], XH tx (nI Z) (nI P, nI C, nI R, nI L, hs, ss, cs, gs, vs) dr rd (nI D, sm, nI N, nI K, ce, de, ke, se) i0 i1 kp dd tr m)
      exact zq_iret (by decide +kernel) rfl (by rw [zfs_at hi22 (decide_eq_true (by omega)) hI22]) rfl
  · show zq_G _ _ _ _ _ 22 ([(0, .ref 0), (1, .int (nI x)), (2, .int (nI y)), (3, .int 10)], [], XH tx (nI Z) (nI P, nI C, nI R, nI L, hs, ss, cs, gs, vs) dr rd (nI D, sm, nI N, nI K, ce, de, ke, se) i0 i1 kp dd tr m)
    refine zq_b [zq_il 3, zq_k 9] [zq_ilchk 3, zq_kchk 9] 25 rfl (by decide +kernel) ?_
    show zq_G _ _ _ _ _ 25 ([(0, .ref 0), (1, .int (nI x)), (2, .int (nI y)), (3, .int 10)], [.int 9, .int 10], XH tx (nI Z) (nI P, nI C, nI R, nI L, hs, ss, cs, gs, vs) dr rd (nI D, sm, nI N, nI K, ce, de, ke, se) i0 i1 kp dd tr m)
    refine zq_if .gt 65 (9 < 10) (by decide +kernel) (zq_cgt (a := 10) (b := 9) (by omega) (by omega)) (fun c25 => ?_) (fun c25 => absurd (by omega) c25)
    show zq_G _ _ _ _ _ 65 ([(0, .ref 0), (1, .int (nI x)), (2, .int (nI y)), (3, .int 10)], [], XH tx (nI Z) (nI P, nI C, nI R, nI L, hs, ss, cs, gs, vs) dr rd (nI D, sm, nI N, nI K, ce, de, ke, se) i0 i1 kp dd tr m)
    refine zq_b [zq_k (-9)] [zq_kchk (-9)] 67 rfl (by decide +kernel) ?_
    show zq_G _ _ _ _ _ 67 ([(0, .ref 0), (1, .int (nI x)), (2, .int (nI y)), (3, .int 10)], [.int (-9)], XH tx (nI Z) (nI P, nI C, nI R, nI L, hs, ss, cs, gs, vs) dr rd (nI D, sm, nI N, nI K, ce, de, ke, se) i0 i1 kp dd tr m)
    exact zq_iret (by decide +kernel) rfl (by rw [zfs_no hI22]) rfl
end XV8b
