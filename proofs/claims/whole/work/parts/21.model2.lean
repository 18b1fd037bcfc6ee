section MV2
variable {l : Launch} {c : Nat → zq_C} {tr : Int64} {tx : Nat → Int32} {ty : Int32} {td dr s im kp : Nat → Int32} {at_ so sr va : Int32} {wy : Nat → Int32} {h : zq_H}
variable {P C R L D N K Z : Nat} {sm : Int32} {cn ga gv : Nat → Nat} {bt : Nat → Nat}
theorem bare_m9 {P : Nat} {hs : Nat → Int32} {sm : Int32} {cn : Nat → Nat} {wc p : Nat} (hP : P ≤ 6) (hp : p < P) : bareB P hs sm (zcm (-9) wc cn) p = bareB P hs sm cn p :=
  bareB_c hp (fun q hq => zcm_f (nI_m9 (by omega)))
theorem seen_eq {P C D : Nat} {hs cs : Nat → Int32} {sm : Int32} {cn : Nat → Nat} : orB (fun p => bareB P hs sm cn p && !zany (fun i => decide (cs i = nI D)) C) P = zseen C cs D P hs sm cn := by
  unfold zseen
  by_cases h : zany (fun i => decide (cs i = nI D)) C = true
  · rw [if_pos h]
    have key : ∀ n, orB (fun p => bareB P hs sm cn p && !zany (fun i => decide (cs i = nI D)) C) n = 0 := by
      intro n
      induction n with
      | zero => rfl
      | succ n ih => rw [orB_f (by rw [h]; simp)]; exact ih
    exact key P
  · rw [if_neg h]
    exact orB_c (fun i hi => by rw [eq_false_of_ne_true h]; simp)
def zon (x : Int32) : Nat → Int32
  | 0 => 0
  | n + 1 => zon x n + zbit x (nI n)
def zs1 (K : Nat) (s : Nat → Int32) : Nat → Int32 := if K = 10 then upd (va_cpy s s 337 169 1512) 168 (nI 9) else s
def zkp (K : Nat) (s : Nat → Int32) : Nat → Int32 := upd (va_cpy (zs1 K s) (zs1 K s) 0 (169 + 168 * zk9 K) 168) 168 (nI (zk9 K + 1))
theorem zs1_lo {K : Nat} {s : Nat → Int32} {j : Nat} (h : j < 168) : zs1 K s j = s j := by
  unfold zs1
  split
  · rw [pk_un (by omega), pk_cpy_out (by omega)]
  · rfl
theorem zkp_lo {K : Nat} {s : Nat → Int32} {j : Nat} (h : j < 168) : zkp K s j = s j := by
  unfold zkp
  rw [pk_un (by omega), pk_cpy_out (by omega)]
  exact zs1_lo h
theorem zs1_168 {K : Nat} {s : Nat → Int32} (hK : K ≤ 10) (h : s 168 = nI K) : zs1 K s 168 = nI (zk9 K) := by
  unfold zs1
  by_cases e : K = 10
  · rw [if_pos e, pk_us, zk9_f (by omega)]
  · rw [if_neg e, zk9_t (by omega)]; exact h
theorem zb_and {A B : Prop} [Decidable A] [Decidable B] {b c : Bool} (h1 : A ↔ b = true) (h2 : B ↔ c = true) : (A ∧ ¬ B) ↔ (b && !c) = true := by
  rw [h1, h2]; cases b <;> cases c <;> simp
theorem m_isBare9 {p : Nat} (ht0 : td 0 = nI P) (hs1 : s 1 = sm) (hP : P ≤ 6) (hce : ∀ j, j < P → s (3 + j) = nI (cn j) ∧ cn j ≤ 26) (hp : p < P) : zq_P l mX12_isBare 0 [.ref 41, .int (nI p), .int (-9), .int 0] (MH c tr tx ty td dr s im kp at_ so sr va wy) (some (.int (zb (bareB P (fun j => td (6 + j)) sm cn p = true)))) (MH c tr tx ty td dr s im kp at_ so sr va wy) := by
  have h := m_isBare (l := l) (c := c) (tr := tr) (tx := tx) (ty := ty) (dr := dr) (im := im) (kp := kp) (at_ := at_) (so := so) (sr := sr) (va := va) (wy := wy) (wv := -9) (wc := 0) ht0 hs1 hP hce hp (by omega)
  rw [bare_m9 hP hp] at h
  exact h
set_option maxHeartbeats 4000000 in
set_option maxRecDepth 100000 in
theorem m_isSeen {p : Nat} (ht0 : td 0 = nI P) (ht1 : td 1 = nI C) (hs0 : s 0 = nI D) (hs1 : s 1 = sm) (hP : P ≤ 6) (hC : C ≤ 8) (hce : ∀ j, j < P → s (3 + j) = nI (cn j) ∧ cn j ≤ 26) (hp : p < P) : zq_P l mX12_isSeen 1 [.ref 41, .int (nI p)] (MH c tr tx ty td dr s im kp at_ so sr va wy) (some (.int (zb (bareB P (fun j => td (6 + j)) sm cn p = true ∧ ¬ zany (fun i => decide (td (18 + i) = nI D)) C = true)))) (MH c tr tx ty td dr s im kp at_ so sr va wy) := by
  refine zq_start (by decide +kernel) rfl (Nat.le_of_ble_eq_true rfl) ?_
  show zq_G _ _ _ _ _ 0 ([(0, .ref 41), (1, .int (nI p))], [], MH c tr tx ty td dr s im kp at_ so sr va wy)
  refine zq_b [zq_al 0, zq_il 1, zq_k (-9), zq_k 0] [zq_alchk 0, zq_ilchk 1, zq_kchk (-9), zq_kchk 0] 5 rfl (by decide +kernel) ?_
  show zq_G _ _ _ _ _ 5 ([(0, .ref 41), (1, .int (nI p))], [.int 0, .int (-9), .int (nI p), .ref 41], MH c tr tx ty td dr s im kp at_ so sr va wy)
  refine zq_callV (av := [.int (nI p), .int (-9), .int 0]) (rest := []) (by decide +kernel) k12_91 (m_isBare9 (p := p) ht0 hs1 hP hce (by omega)) rfl rfl rfl rfl ?_
  show zq_G _ _ _ _ _ 8 ([(0, .ref 41), (1, .int (nI p))], [.int (zb (bareB P (fun j => td (6 + j)) sm cn p = true))], MH c tr tx ty td dr s im kp at_ so sr va wy)
  refine zq_ifz .eq 28 (¬ (bareB P (fun j => td (6 + j)) sm cn p = true)) (by decide +kernel) (zb_eq _) (fun c8 => ?_) (fun c8 => ?_)
  · show zq_G _ _ _ _ _ 28 ([(0, .ref 41), (1, .int (nI p))], [], MH c tr tx ty td dr s im kp at_ so sr va wy)
    refine zq_b [zq_k 0] [zq_kchk 0] 29 rfl (by decide +kernel) ?_
    show zq_G _ _ _ _ _ 29 ([(0, .ref 41), (1, .int (nI p))], [.int 0], MH c tr tx ty td dr s im kp at_ so sr va wy)
    exact zq_zret (by decide +kernel) rfl (Or.inl rfl) (zb_r (zb_f (fun q => c8 q.1))) rfl
  · show zq_G _ _ _ _ _ 11 ([(0, .ref 41), (1, .int (nI p))], [], MH c tr tx ty td dr s im kp at_ so sr va wy)
    refine zq_b [zq_al 0, zq_al 0, zq_get 12 5, zq_k 0, zq_iald 0 (nI D)] [zq_alchk 0, zq_alchk 0, zq_getchk 12 5, zq_kchk 0, zq_is .iaload 1] 18 rfl (by decide +kernel) ?_
    refine ⟨rfl, (by omega), (by omega), hs0, ?_⟩
    show zq_G _ _ _ _ _ 18 ([(0, .ref 41), (1, .int (nI p))], [.int (nI D), .ref 41], MH c tr tx ty td dr s im kp at_ so sr va wy)
    refine zq_callV (av := [.int (nI D)]) (rest := []) (by decide +kernel) k12_94 (m_isCloud (day := (nI D)) ht1 hC) rfl rfl rfl rfl ?_
    show zq_G _ _ _ _ _ 21 ([(0, .ref 41), (1, .int (nI p))], [.int (zb (zany (fun i => decide (td (18 + i) = (nI D))) C = true))], MH c tr tx ty td dr s im kp at_ so sr va wy)
    refine zq_ifz .ne 28 (zany (fun i => decide (td (18 + i) = (nI D))) C = true) (by decide +kernel) (zb_ne _) (fun c21 => ?_) (fun c21 => ?_)
    · show zq_G _ _ _ _ _ 28 ([(0, .ref 41), (1, .int (nI p))], [], MH c tr tx ty td dr s im kp at_ so sr va wy)
      refine zq_b [zq_k 0] [zq_kchk 0] 29 rfl (by decide +kernel) ?_
      show zq_G _ _ _ _ _ 29 ([(0, .ref 41), (1, .int (nI p))], [.int 0], MH c tr tx ty td dr s im kp at_ so sr va wy)
      exact zq_zret (by decide +kernel) rfl (Or.inl rfl) (zb_r (zb_f (fun q => q.2 c21))) rfl
    · show zq_G _ _ _ _ _ 24 ([(0, .ref 41), (1, .int (nI p))], [], MH c tr tx ty td dr s im kp at_ so sr va wy)
      refine zq_b [zq_k 1, zq_go] [zq_kchk 1, zq_gochk] 29 rfl (by decide +kernel) ?_
      show zq_G _ _ _ _ _ 29 ([(0, .ref 41), (1, .int (nI p))], [.int 1], MH c tr tx ty td dr s im kp at_ so sr va wy)
      exact zq_zret (by decide +kernel) rfl (Or.inr rfl) (zb_r (zb_t ⟨Decidable.not_not.mp c8, c21⟩)) rfl
set_option maxHeartbeats 4000000 in
set_option maxRecDepth 100000 in
theorem m_seenNow  (ht0 : td 0 = nI P) (ht1 : td 1 = nI C) (hs0 : s 0 = nI D) (hs1 : s 1 = sm) (hP : P ≤ 6) (hC : C ≤ 8) (hce : ∀ j, j < P → s (3 + j) = nI (cn j) ∧ cn j ≤ 26) : zq_P l mX12_seenNow 2 [.ref 41] (MH c tr tx ty td dr s im kp at_ so sr va wy) (some (.int (zseen C (fun j => td (18 + j)) D P (fun j => td (6 + j)) sm cn))) (MH c tr tx ty td dr s im kp at_ so sr va wy) := by
  refine zq_start (by decide +kernel) rfl (Nat.le_of_ble_eq_true rfl) ?_
  show zq_G _ _ _ _ _ 0 ([(0, .ref 41)], [], MH c tr tx ty td dr s im kp at_ so sr va wy)
  refine zq_b [zq_k 0, zq_is1 1, zq_k 0, zq_is1 2] [zq_kchk 0, zq_is1chk 1, zq_kchk 0, zq_is1chk 2] 4 rfl (by decide +kernel) ?_
  show zq_G _ _ _ _ _ 4 ([(0, .ref 41), (1, .int 0), (2, .int 0)], [], MH c tr tx ty td dr s im kp at_ so sr va wy)
  refine zq_loop (fun i => ([(0, .ref 41), (1, .int (orB (fun p => bareB P (fun j => td (6 + j)) sm cn p && !zany (fun i => decide (td (18 + i) = nI D)) C) i)), (2, .int (nI i))], [], MH c tr tx ty td dr s im kp at_ so sr va wy)) (fun i => True) (P) (0) (by omega) (trivial) (fun i hl4 hi4 hI4 ih4 => ?_) (fun hI4 => ?_)
  · show zq_G _ _ _ _ _ 4 ([(0, .ref 41), (1, .int (orB (fun p => bareB P (fun j => td (6 + j)) sm cn p && !zany (fun i => decide (td (18 + i) = nI D)) C) i)), (2, .int (nI i))], [], MH c tr tx ty td dr s im kp at_ so sr va wy)
    refine zq_b [zq_il 2, zq_al 0, zq_get 12 3, zq_k 0, zq_iald 0 (nI P)] [zq_ilchk 2, zq_alchk 0, zq_getchk 12 3, zq_kchk 0, zq_is .iaload 1] 11 rfl (by decide +kernel) ?_
    refine ⟨rfl, (by omega), (by omega), ht0, ?_⟩
    show zq_G _ _ _ _ _ 11 ([(0, .ref 41), (1, .int (orB (fun p => bareB P (fun j => td (6 + j)) sm cn p && !zany (fun i => decide (td (18 + i) = nI D)) C) i)), (2, .int (nI i))], [.int (nI P), .int (nI i)], MH c tr tx ty td dr s im kp at_ so sr va wy)
    refine zq_if .ge 38 (P ≤ i) (by decide +kernel) (zq_cge (a := i) (b := P) (by omega) (by omega)) (fun c11 => absurd c11 (by omega)) (fun c11 => ?_)
    show zq_G _ _ _ _ _ 14 ([(0, .ref 41), (1, .int (orB (fun p => bareB P (fun j => td (6 + j)) sm cn p && !zany (fun i => decide (td (18 + i) = nI D)) C) i)), (2, .int (nI i))], [], MH c tr tx ty td dr s im kp at_ so sr va wy)
    refine zq_b [zq_il 1, zq_al 0, zq_il 2] [zq_ilchk 1, zq_alchk 0, zq_ilchk 2] 17 rfl (by decide +kernel) ?_
    show zq_G _ _ _ _ _ 17 ([(0, .ref 41), (1, .int (orB (fun p => bareB P (fun j => td (6 + j)) sm cn p && !zany (fun i => decide (td (18 + i) = nI D)) C) i)), (2, .int (nI i))], [.int (nI i), .ref 41, .int (orB (fun p => bareB P (fun j => td (6 + j)) sm cn p && !zany (fun i => decide (td (18 + i) = nI D)) C) i)], MH c tr tx ty td dr s im kp at_ so sr va wy)
    refine zq_callV (av := [.int (nI i)]) (rest := [.int (orB (fun p => bareB P (fun j => td (6 + j)) sm cn p && !zany (fun i => decide (td (18 + i) = nI D)) C) i)]) (by decide +kernel) k12_97 (m_isSeen (p := i) ht0 ht1 hs0 hs1 hP hC hce (by omega)) rfl rfl rfl rfl ?_
    show zq_G _ _ _ _ _ 20 ([(0, .ref 41), (1, .int (orB (fun p => bareB P (fun j => td (6 + j)) sm cn p && !zany (fun i => decide (td (18 + i) = nI D)) C) i)), (2, .int (nI i))], [.int (zb (bareB P (fun j => td (6 + j)) sm cn i = true ∧ ¬ zany (fun i => decide (td (18 + i) = nI D)) C = true)), .int (orB (fun p => bareB P (fun j => td (6 + j)) sm cn p && !zany (fun i => decide (td (18 + i) = nI D)) C) i)], MH c tr tx ty td dr s im kp at_ so sr va wy)
    refine zq_ifz .eq 29 (¬ (bareB P (fun j => td (6 + j)) sm cn i = true ∧ ¬ zany (fun i => decide (td (18 + i) = nI D)) C = true)) (by decide +kernel) (zb_eq _) (fun c20 => ?_) (fun c20 => ?_)
    · show zq_G _ _ _ _ _ 29 ([(0, .ref 41), (1, .int (orB (fun p => bareB P (fun j => td (6 + j)) sm cn p && !zany (fun i => decide (td (18 + i) = nI D)) C) i)), (2, .int (nI i))], [.int (orB (fun p => bareB P (fun j => td (6 + j)) sm cn p && !zany (fun i => decide (td (18 + i) = nI D)) C) i)], MH c tr tx ty td dr s im kp at_ so sr va wy)
      refine zq_b [zq_k 0, zq_ior (orB (fun p => bareB P (fun j => td (6 + j)) sm cn p && !zany (fun i => decide (td (18 + i) = nI D)) C) i), zq_is1 1, zq_inc 2 1 (nI (i + 1)), zq_go] [zq_kchk 0, zq_is .ior 1, zq_is1chk 1, zq_incchk 2 1, zq_gochk] 4 rfl (by decide +kernel) ?_
      refine ⟨Int32.or_zero, nI_add i 1, ?_⟩
      show zq_G _ _ _ _ _ 4 ([(0, .ref 41), (1, .int (orB (fun p => bareB P (fun j => td (6 + j)) sm cn p && !zany (fun i => decide (td (18 + i) = nI D)) C) i)), (2, .int (nI (i + 1)))], [], MH c tr tx ty td dr s im kp at_ so sr va wy)
      exact zq_eq (by rw [orB_f (f := (fun p => bareB P (fun j => td (6 + j)) sm cn p && !zany (fun i => decide (td (18 + i) = nI D)) C)) (by have q := c20; cases h1 : bareB P (fun j => td (6 + j)) sm cn i <;> cases h2 : zany (fun i => decide (td (18 + i) = nI D)) C <;> simp_all)]) (ih4 trivial)
    · show zq_G _ _ _ _ _ 23 ([(0, .ref 41), (1, .int (orB (fun p => bareB P (fun j => td (6 + j)) sm cn p && !zany (fun i => decide (td (18 + i) = nI D)) C) i)), (2, .int (nI i))], [.int (orB (fun p => bareB P (fun j => td (6 + j)) sm cn p && !zany (fun i => decide (td (18 + i) = nI D)) C) i)], MH c tr tx ty td dr s im kp at_ so sr va wy)
      refine zq_b [zq_k 1, zq_il 2, zq_ishl (1 <<< (nI i &&& 31)), zq_go, zq_ior ((orB (fun p => bareB P (fun j => td (6 + j)) sm cn p && !zany (fun i => decide (td (18 + i) = nI D)) C) i) ||| (1 <<< (nI i &&& 31))), zq_is1 1, zq_inc 2 1 (nI (i + 1)), zq_go] [zq_kchk 1, zq_ilchk 2, zq_is .ishl 1, zq_gochk, zq_is .ior 1, zq_is1chk 1, zq_incchk 2 1, zq_gochk] 4 rfl (by decide +kernel) ?_
      refine ⟨rfl, rfl, nI_add i 1, ?_⟩
      show zq_G _ _ _ _ _ 4 ([(0, .ref 41), (1, .int ((orB (fun p => bareB P (fun j => td (6 + j)) sm cn p && !zany (fun i => decide (td (18 + i) = nI D)) C) i) ||| (1 <<< (nI i &&& 31)))), (2, .int (nI (i + 1)))], [], MH c tr tx ty td dr s im kp at_ so sr va wy)
      exact zq_eq (by rw [orB_t (f := (fun p => bareB P (fun j => td (6 + j)) sm cn p && !zany (fun i => decide (td (18 + i) = nI D)) C)) (by have q := Decidable.not_not.mp c20; show (_ && !_) = true; rw [q.1, eq_false_of_ne_true q.2]; rfl)]) (ih4 trivial)
  · show zq_G _ _ _ _ _ 4 ([(0, .ref 41), (1, .int (orB (fun p => bareB P (fun j => td (6 + j)) sm cn p && !zany (fun i => decide (td (18 + i) = nI D)) C) P)), (2, .int (nI P))], [], MH c tr tx ty td dr s im kp at_ so sr va wy)
    refine zq_b [zq_il 2, zq_al 0, zq_get 12 3, zq_k 0, zq_iald 0 (nI P)] [zq_ilchk 2, zq_alchk 0, zq_getchk 12 3, zq_kchk 0, zq_is .iaload 1] 11 rfl (by decide +kernel) ?_
    refine ⟨rfl, (by omega), (by omega), ht0, ?_⟩
    show zq_G _ _ _ _ _ 11 ([(0, .ref 41), (1, .int (orB (fun p => bareB P (fun j => td (6 + j)) sm cn p && !zany (fun i => decide (td (18 + i) = nI D)) C) P)), (2, .int (nI P))], [.int (nI P), .int (nI P)], MH c tr tx ty td dr s im kp at_ so sr va wy)
    refine zq_if .ge 38 (P ≤ P) (by decide +kernel) (zq_cge (a := P) (b := P) (by omega) (by omega)) (fun c11 => ?_) (fun c11 => absurd (by omega) c11)
    show zq_G _ _ _ _ _ 38 ([(0, .ref 41), (1, .int (orB (fun p => bareB P (fun j => td (6 + j)) sm cn p && !zany (fun i => decide (td (18 + i) = nI D)) C) P)), (2, .int (nI P))], [], MH c tr tx ty td dr s im kp at_ so sr va wy)
    refine zq_b [zq_il 1] [zq_ilchk 1] 39 rfl (by decide +kernel) ?_
    show zq_G _ _ _ _ _ 39 ([(0, .ref 41), (1, .int (orB (fun p => bareB P (fun j => td (6 + j)) sm cn p && !zany (fun i => decide (td (18 + i) = nI D)) C) P)), (2, .int (nI P))], [.int (orB (fun p => bareB P (fun j => td (6 + j)) sm cn p && !zany (fun i => decide (td (18 + i) = nI D)) C) P)], MH c tr tx ty td dr s im kp at_ so sr va wy)
    exact zq_iret (by decide +kernel) rfl (by rw [seen_eq (cs := fun j => td (18 + j))]) rfl
set_option maxHeartbeats 4000000 in
set_option maxRecDepth 100000 in
theorem m_person_bad {x : Int32} {y : Int32} (ht0 : td 0 = nI P) (hP : P ≤ 6) (hb : ¬ (0 ≤ x.toInt ∧ x.toInt < (P : Int) ∧ 0 ≤ y.toInt ∧ y.toInt ≤ 2)) : zq_P l mX12_person 2 [.ref 41, .int x, .int y] (MH c tr tx (nI Z) td dr s im kp at_ so sr va wy) (some (.int (-1))) (MH c tr tx (nI Z) td dr s im kp at_ so sr va wy) := by
  refine zq_start (by decide +kernel) rfl (Nat.le_of_ble_eq_true rfl) ?_
  show zq_G _ _ _ _ _ 0 ([(0, .ref 41), (1, .int x), (2, .int y)], [], MH c tr tx (nI Z) td dr s im kp at_ so sr va wy)
  refine zq_b [zq_al 0, zq_il 1] [zq_alchk 0, zq_ilchk 1] 2 rfl (by decide +kernel) ?_
  show zq_G _ _ _ _ _ 2 ([(0, .ref 41), (1, .int x), (2, .int y)], [.int x, .ref 41], MH c tr tx (nI Z) td dr s im kp at_ so sr va wy)
  refine zq_callV (av := [.int x]) (rest := []) (by decide +kernel) k12_100 (m_isPerson (p := x) ht0 hP) rfl rfl rfl rfl ?_
  show zq_G _ _ _ _ _ 5 ([(0, .ref 41), (1, .int x), (2, .int y)], [.int (zb (0 ≤ x.toInt ∧ x.toInt < (P : Int)))], MH c tr tx (nI Z) td dr s im kp at_ so sr va wy)
  refine zq_ifz .eq 17 (¬ (0 ≤ x.toInt ∧ x.toInt < (P : Int))) (by decide +kernel) (zb_eq _) (fun c5 => ?_) (fun c5 => ?_)
  · show zq_G _ _ _ _ _ 17 ([(0, .ref 41), (1, .int x), (2, .int y)], [], MH c tr tx (nI Z) td dr s im kp at_ so sr va wy)
    refine zq_b [zq_k (-1)] [zq_kchk (-1)] 18 rfl (by decide +kernel) ?_
    show zq_G _ _ _ _ _ 18 ([(0, .ref 41), (1, .int x), (2, .int y)], [.int (-1)], MH c tr tx (nI Z) td dr s im kp at_ so sr va wy)
    exact zq_iret (by decide +kernel) rfl rfl rfl
  · show zq_G _ _ _ _ _ 8 ([(0, .ref 41), (1, .int x), (2, .int y)], [], MH c tr tx (nI Z) td dr s im kp at_ so sr va wy)
    refine zq_b [zq_il 2, zq_k 0, zq_k 2] [zq_ilchk 2, zq_kchk 0, zq_kchk 2] 11 rfl (by decide +kernel) ?_
    show zq_G _ _ _ _ _ 11 ([(0, .ref 41), (1, .int x), (2, .int y)], [.int 2, .int 0, .int y], MH c tr tx (nI Z) td dr s im kp at_ so sr va wy)
    refine zq_callS (av := [.int y, .int 0, .int 2]) (rest := []) (by decide +kernel) k12_39 (m_in (x := y) (lo := 0) (hi := 2) (by omega) (by omega)) rfl rfl ?_
    show zq_G _ _ _ _ _ 14 ([(0, .ref 41), (1, .int x), (2, .int y)], [.int (zb ((0 : Int) ≤ y.toInt ∧ y.toInt ≤ (2 : Int)))], MH c tr tx (nI Z) td dr s im kp at_ so sr va wy)
    refine zq_ifz .ne 19 ((0 : Int) ≤ y.toInt ∧ y.toInt ≤ (2 : Int)) (by decide +kernel) (zb_ne _) (fun c14 => ?_) (fun c14 => ?_)
    · show zq_G _ _ _ _ _ 19 ([(0, .ref 41), (1, .int x), (2, .int y)], [], MH c tr tx (nI Z) td dr s im kp at_ so sr va wy)
      exact absurd hb (by omega)
    · show zq_G _ _ _ _ _ 17 ([(0, .ref 41), (1, .int x), (2, .int y)], [], MH c tr tx (nI Z) td dr s im kp at_ so sr va wy)
      refine zq_b [zq_k (-1)] [zq_kchk (-1)] 18 rfl (by decide +kernel) ?_
      show zq_G _ _ _ _ _ 18 ([(0, .ref 41), (1, .int x), (2, .int y)], [.int (-1)], MH c tr tx (nI Z) td dr s im kp at_ so sr va wy)
      exact zq_iret (by decide +kernel) rfl rfl rfl
set_option maxHeartbeats 4000000 in
set_option maxRecDepth 100000 in
theorem m_person_0 {a : Nat} (ht0 : td 0 = nI P) (hP : P ≤ 6) (ha : a < P) : zq_P l mX12_person 2 [.ref 41, .int (nI a), .int 0] (MH c tr tx (nI Z) td dr s im kp at_ so sr va wy) (some (.int (td (6 + a)))) (MH c tr tx (nI Z) td dr s im kp at_ so sr va wy) := by
  refine zq_start (by decide +kernel) rfl (Nat.le_of_ble_eq_true rfl) ?_
  show zq_G _ _ _ _ _ 0 ([(0, .ref 41), (1, .int (nI a)), (2, .int 0)], [], MH c tr tx (nI Z) td dr s im kp at_ so sr va wy)
  refine zq_b [zq_al 0, zq_il 1] [zq_alchk 0, zq_ilchk 1] 2 rfl (by decide +kernel) ?_
  show zq_G _ _ _ _ _ 2 ([(0, .ref 41), (1, .int (nI a)), (2, .int 0)], [.int (nI a), .ref 41], MH c tr tx (nI Z) td dr s im kp at_ so sr va wy)
  refine zq_callV (av := [.int (nI a)]) (rest := []) (by decide +kernel) k12_100 (m_isPersonN (p := a) ht0 hP (by omega)) rfl rfl rfl rfl ?_
  show zq_G _ _ _ _ _ 5 ([(0, .ref 41), (1, .int (nI a)), (2, .int 0)], [.int (zb (a < P))], MH c tr tx (nI Z) td dr s im kp at_ so sr va wy)
  refine zq_ifz .eq 17 (¬ (a < P)) (by decide +kernel) (zb_eq _) (fun c5 => absurd c5 (by omega)) (fun c5 => ?_)
  show zq_G _ _ _ _ _ 8 ([(0, .ref 41), (1, .int (nI a)), (2, .int 0)], [], MH c tr tx (nI Z) td dr s im kp at_ so sr va wy)
  refine zq_b [zq_il 2, zq_k 0, zq_k 2] [zq_ilchk 2, zq_kchk 0, zq_kchk 2] 11 rfl (by decide +kernel) ?_
  show zq_G _ _ _ _ _ 11 ([(0, .ref 41), (1, .int (nI a)), (2, .int 0)], [.int 2, .int 0, .int 0], MH c tr tx (nI Z) td dr s im kp at_ so sr va wy)
  refine zq_callS (av := [.int 0, .int 0, .int 2]) (rest := []) (by decide +kernel) k12_39 (m_inN (x := 0) (lo := 0) (hi := 2) (by omega) (by omega) (by omega)) rfl rfl ?_
  show zq_G _ _ _ _ _ 14 ([(0, .ref 41), (1, .int (nI a)), (2, .int 0)], [.int (zb (0 ≤ 0 ∧ 0 ≤ 2))], MH c tr tx (nI Z) td dr s im kp at_ so sr va wy)
  refine zq_ifz .ne 19 (0 ≤ 0 ∧ 0 ≤ 2) (by decide +kernel) (zb_ne _) (fun c14 => ?_) (fun c14 => absurd (by omega) c14)
  show zq_G _ _ _ _ _ 19 ([(0, .ref 41), (1, .int (nI a)), (2, .int 0)], [], MH c tr tx (nI Z) td dr s im kp at_ so sr va wy)
  refine zq_b [zq_il 2] [zq_ilchk 2] 20 rfl (by decide +kernel) ?_
  show zq_G _ _ _ _ _ 20 ([(0, .ref 41), (1, .int (nI a)), (2, .int 0)], [.int 0], MH c tr tx (nI Z) td dr s im kp at_ so sr va wy)
  refine zq_ifz .ne 35 (¬ 0 = 0) (by decide +kernel) (zq_cne (a := 0) (b := 0) (by omega) (by omega)) (fun c20 => absurd c20 (fun q => q rfl)) (fun c20 => ?_)
  show zq_G _ _ _ _ _ 23 ([(0, .ref 41), (1, .int (nI a)), (2, .int 0)], [], MH c tr tx (nI Z) td dr s im kp at_ so sr va wy)
  refine zq_b [zq_al 0, zq_get 12 3, zq_k 6, zq_il 1, zq_iadd (nI (6 + a)), zq_iald (6 + a) (td (6 + a)), zq_go] [zq_alchk 0, zq_getchk 12 3, zq_kchk 6, zq_ilchk 1, zq_is .iadd 1, zq_is .iaload 1, zq_gochk] 64 rfl (by decide +kernel) ?_
  refine ⟨(nI_add 6 a), rfl, (by omega), (by omega), rfl, ?_⟩
  show zq_G _ _ _ _ _ 64 ([(0, .ref 41), (1, .int (nI a)), (2, .int 0)], [.int (td (6 + a))], MH c tr tx (nI Z) td dr s im kp at_ so sr va wy)
  exact zq_iret (by decide +kernel) rfl rfl rfl
set_option maxHeartbeats 4000000 in
set_option maxRecDepth 100000 in
theorem m_person_1 {a : Nat} (ht0 : td 0 = nI P) (hP : P ≤ 6) (hce : ∀ j, j < P → s (3 + j) = nI (cn j) ∧ cn j ≤ 26) (ha : a < P) : zq_P l mX12_person 2 [.ref 41, .int (nI a), .int 1] (MH c tr tx (nI Z) td dr s im kp at_ so sr va wy) (some (.int (nI (cn a)))) (MH c tr tx (nI Z) td dr s im kp at_ so sr va wy) := by
  refine zq_start (by decide +kernel) rfl (Nat.le_of_ble_eq_true rfl) ?_
  show zq_G _ _ _ _ _ 0 ([(0, .ref 41), (1, .int (nI a)), (2, .int 1)], [], MH c tr tx (nI Z) td dr s im kp at_ so sr va wy)
  refine zq_b [zq_al 0, zq_il 1] [zq_alchk 0, zq_ilchk 1] 2 rfl (by decide +kernel) ?_
  show zq_G _ _ _ _ _ 2 ([(0, .ref 41), (1, .int (nI a)), (2, .int 1)], [.int (nI a), .ref 41], MH c tr tx (nI Z) td dr s im kp at_ so sr va wy)
  refine zq_callV (av := [.int (nI a)]) (rest := []) (by decide +kernel) k12_100 (m_isPersonN (p := a) ht0 hP (by omega)) rfl rfl rfl rfl ?_
  show zq_G _ _ _ _ _ 5 ([(0, .ref 41), (1, .int (nI a)), (2, .int 1)], [.int (zb (a < P))], MH c tr tx (nI Z) td dr s im kp at_ so sr va wy)
  refine zq_ifz .eq 17 (¬ (a < P)) (by decide +kernel) (zb_eq _) (fun c5 => absurd c5 (by omega)) (fun c5 => ?_)
  show zq_G _ _ _ _ _ 8 ([(0, .ref 41), (1, .int (nI a)), (2, .int 1)], [], MH c tr tx (nI Z) td dr s im kp at_ so sr va wy)
  refine zq_b [zq_il 2, zq_k 0, zq_k 2] [zq_ilchk 2, zq_kchk 0, zq_kchk 2] 11 rfl (by decide +kernel) ?_
  show zq_G _ _ _ _ _ 11 ([(0, .ref 41), (1, .int (nI a)), (2, .int 1)], [.int 2, .int 0, .int 1], MH c tr tx (nI Z) td dr s im kp at_ so sr va wy)
  refine zq_callS (av := [.int 1, .int 0, .int 2]) (rest := []) (by decide +kernel) k12_39 (m_inN (x := 1) (lo := 0) (hi := 2) (by omega) (by omega) (by omega)) rfl rfl ?_
  show zq_G _ _ _ _ _ 14 ([(0, .ref 41), (1, .int (nI a)), (2, .int 1)], [.int (zb (0 ≤ 1 ∧ 1 ≤ 2))], MH c tr tx (nI Z) td dr s im kp at_ so sr va wy)
  refine zq_ifz .ne 19 (0 ≤ 1 ∧ 1 ≤ 2) (by decide +kernel) (zb_ne _) (fun c14 => ?_) (fun c14 => absurd (by omega) c14)
  show zq_G _ _ _ _ _ 19 ([(0, .ref 41), (1, .int (nI a)), (2, .int 1)], [], MH c tr tx (nI Z) td dr s im kp at_ so sr va wy)
  refine zq_b [zq_il 2] [zq_ilchk 2] 20 rfl (by decide +kernel) ?_
  show zq_G _ _ _ _ _ 20 ([(0, .ref 41), (1, .int (nI a)), (2, .int 1)], [.int 1], MH c tr tx (nI Z) td dr s im kp at_ so sr va wy)
  refine zq_ifz .ne 35 (¬ 1 = 0) (by decide +kernel) (zq_cne (a := 1) (b := 0) (by omega) (by omega)) (fun c20 => ?_) (fun c20 => absurd (by decide) c20)
  show zq_G _ _ _ _ _ 35 ([(0, .ref 41), (1, .int (nI a)), (2, .int 1)], [], MH c tr tx (nI Z) td dr s im kp at_ so sr va wy)
  refine zq_b [zq_il 2, zq_k 1] [zq_ilchk 2, zq_kchk 1] 37 rfl (by decide +kernel) ?_
  show zq_G _ _ _ _ _ 37 ([(0, .ref 41), (1, .int (nI a)), (2, .int 1)], [.int 1, .int 1], MH c tr tx (nI Z) td dr s im kp at_ so sr va wy)
  refine zq_if .ne 51 (¬ 1 = 1) (by decide +kernel) (zq_cne (a := 1) (b := 1) (by omega) (by omega)) (fun c37 => absurd c37 (fun q => q rfl)) (fun c37 => ?_)
  show zq_G _ _ _ _ _ 40 ([(0, .ref 41), (1, .int (nI a)), (2, .int 1)], [], MH c tr tx (nI Z) td dr s im kp at_ so sr va wy)
  refine zq_b [zq_al 0, zq_get 12 5, zq_k 3, zq_il 1, zq_iadd (nI (3 + a)), zq_iald (3 + a) (nI (cn a)), zq_go] [zq_alchk 0, zq_getchk 12 5, zq_kchk 3, zq_ilchk 1, zq_is .iadd 1, zq_is .iaload 1, zq_gochk] 64 rfl (by decide +kernel) ?_
  refine ⟨(nI_add 3 a), rfl, (by omega), (by omega), (hce _ (by omega)).1, ?_⟩
  show zq_G _ _ _ _ _ 64 ([(0, .ref 41), (1, .int (nI a)), (2, .int 1)], [.int (nI (cn a))], MH c tr tx (nI Z) td dr s im kp at_ so sr va wy)
  exact zq_iret (by decide +kernel) rfl rfl rfl
set_option maxHeartbeats 4000000 in
set_option maxRecDepth 100000 in
theorem m_person_2 {a : Nat} (ht0 : td 0 = nI P) (ht1 : td 1 = nI C) (hs0 : s 0 = nI D) (hs1 : s 1 = sm) (hP : P ≤ 6) (hC : C ≤ 8) (hce : ∀ j, j < P → s (3 + j) = nI (cn j) ∧ cn j ≤ 26) (ha : a < P) : zq_P l mX12_person 2 [.ref 41, .int (nI a), .int 2] (MH c tr tx (nI Z) td dr s im kp at_ so sr va wy) (some (.int (zb (bareB P (fun j => td (6 + j)) sm cn a = true ∧ ¬ zany (fun i => decide (td (18 + i) = nI D)) C = true)))) (MH c tr tx (nI Z) td dr s im kp at_ so sr va wy) := by
  refine zq_start (by decide +kernel) rfl (Nat.le_of_ble_eq_true rfl) ?_
  show zq_G _ _ _ _ _ 0 ([(0, .ref 41), (1, .int (nI a)), (2, .int 2)], [], MH c tr tx (nI Z) td dr s im kp at_ so sr va wy)
  refine zq_b [zq_al 0, zq_il 1] [zq_alchk 0, zq_ilchk 1] 2 rfl (by decide +kernel) ?_
  show zq_G _ _ _ _ _ 2 ([(0, .ref 41), (1, .int (nI a)), (2, .int 2)], [.int (nI a), .ref 41], MH c tr tx (nI Z) td dr s im kp at_ so sr va wy)
  refine zq_callV (av := [.int (nI a)]) (rest := []) (by decide +kernel) k12_100 (m_isPersonN (p := a) ht0 hP (by omega)) rfl rfl rfl rfl ?_
  show zq_G _ _ _ _ _ 5 ([(0, .ref 41), (1, .int (nI a)), (2, .int 2)], [.int (zb (a < P))], MH c tr tx (nI Z) td dr s im kp at_ so sr va wy)
  refine zq_ifz .eq 17 (¬ (a < P)) (by decide +kernel) (zb_eq _) (fun c5 => absurd c5 (by omega)) (fun c5 => ?_)
  show zq_G _ _ _ _ _ 8 ([(0, .ref 41), (1, .int (nI a)), (2, .int 2)], [], MH c tr tx (nI Z) td dr s im kp at_ so sr va wy)
  refine zq_b [zq_il 2, zq_k 0, zq_k 2] [zq_ilchk 2, zq_kchk 0, zq_kchk 2] 11 rfl (by decide +kernel) ?_
  show zq_G _ _ _ _ _ 11 ([(0, .ref 41), (1, .int (nI a)), (2, .int 2)], [.int 2, .int 0, .int 2], MH c tr tx (nI Z) td dr s im kp at_ so sr va wy)
  refine zq_callS (av := [.int 2, .int 0, .int 2]) (rest := []) (by decide +kernel) k12_39 (m_inN (x := 2) (lo := 0) (hi := 2) (by omega) (by omega) (by omega)) rfl rfl ?_
  show zq_G _ _ _ _ _ 14 ([(0, .ref 41), (1, .int (nI a)), (2, .int 2)], [.int (zb (0 ≤ 2 ∧ 2 ≤ 2))], MH c tr tx (nI Z) td dr s im kp at_ so sr va wy)
  refine zq_ifz .ne 19 (0 ≤ 2 ∧ 2 ≤ 2) (by decide +kernel) (zb_ne _) (fun c14 => ?_) (fun c14 => absurd (by omega) c14)
  show zq_G _ _ _ _ _ 19 ([(0, .ref 41), (1, .int (nI a)), (2, .int 2)], [], MH c tr tx (nI Z) td dr s im kp at_ so sr va wy)
  refine zq_b [zq_il 2] [zq_ilchk 2] 20 rfl (by decide +kernel) ?_
  show zq_G _ _ _ _ _ 20 ([(0, .ref 41), (1, .int (nI a)), (2, .int 2)], [.int 2], MH c tr tx (nI Z) td dr s im kp at_ so sr va wy)
  refine zq_ifz .ne 35 (¬ 2 = 0) (by decide +kernel) (zq_cne (a := 2) (b := 0) (by omega) (by omega)) (fun c20 => ?_) (fun c20 => absurd (by decide) c20)
  show zq_G _ _ _ _ _ 35 ([(0, .ref 41), (1, .int (nI a)), (2, .int 2)], [], MH c tr tx (nI Z) td dr s im kp at_ so sr va wy)
  refine zq_b [zq_il 2, zq_k 1] [zq_ilchk 2, zq_kchk 1] 37 rfl (by decide +kernel) ?_
  show zq_G _ _ _ _ _ 37 ([(0, .ref 41), (1, .int (nI a)), (2, .int 2)], [.int 1, .int 2], MH c tr tx (nI Z) td dr s im kp at_ so sr va wy)
  refine zq_if .ne 51 (¬ 2 = 1) (by decide +kernel) (zq_cne (a := 2) (b := 1) (by omega) (by omega)) (fun c37 => ?_) (fun c37 => absurd (by decide) c37)
  show zq_G _ _ _ _ _ 51 ([(0, .ref 41), (1, .int (nI a)), (2, .int 2)], [], MH c tr tx (nI Z) td dr s im kp at_ so sr va wy)
  refine zq_b [zq_al 0, zq_il 1] [zq_alchk 0, zq_ilchk 1] 53 rfl (by decide +kernel) ?_
  show zq_G _ _ _ _ _ 53 ([(0, .ref 41), (1, .int (nI a)), (2, .int 2)], [.int (nI a), .ref 41], MH c tr tx (nI Z) td dr s im kp at_ so sr va wy)
  refine zq_callV (av := [.int (nI a)]) (rest := []) (by decide +kernel) k12_97 (m_isSeen (p := a) ht0 ht1 hs0 hs1 hP hC hce (by omega)) rfl rfl rfl rfl ?_
  show zq_G _ _ _ _ _ 56 ([(0, .ref 41), (1, .int (nI a)), (2, .int 2)], [.int (zb (bareB P (fun j => td (6 + j)) sm cn a = true ∧ ¬ zany (fun i => decide (td (18 + i) = nI D)) C = true))], MH c tr tx (nI Z) td dr s im kp at_ so sr va wy)
  refine zq_ifz .eq 63 (¬ (bareB P (fun j => td (6 + j)) sm cn a = true ∧ ¬ zany (fun i => decide (td (18 + i) = nI D)) C = true)) (by decide +kernel) (zb_eq _) (fun c56 => ?_) (fun c56 => ?_)
  · show zq_G _ _ _ _ _ 63 ([(0, .ref 41), (1, .int (nI a)), (2, .int 2)], [], MH c tr tx (nI Z) td dr s im kp at_ so sr va wy)
    refine zq_b [zq_k 0] [zq_kchk 0] 64 rfl (by decide +kernel) ?_
    show zq_G _ _ _ _ _ 64 ([(0, .ref 41), (1, .int (nI a)), (2, .int 2)], [.int 0], MH c tr tx (nI Z) td dr s im kp at_ so sr va wy)
    exact zq_iret (by decide +kernel) rfl (zb_r (zb_f c56)) rfl
  · show zq_G _ _ _ _ _ 59 ([(0, .ref 41), (1, .int (nI a)), (2, .int 2)], [], MH c tr tx (nI Z) td dr s im kp at_ so sr va wy)
    refine zq_b [zq_k 1, zq_go] [zq_kchk 1, zq_gochk] 64 rfl (by decide +kernel) ?_
    show zq_G _ _ _ _ _ 64 ([(0, .ref 41), (1, .int (nI a)), (2, .int 2)], [.int 1], MH c tr tx (nI Z) td dr s im kp at_ so sr va wy)
    exact zq_iret (by decide +kernel) rfl (zb_r (zb_t (Decidable.not_not.mp c56))) rfl
set_option maxHeartbeats 4000000 in
set_option maxRecDepth 100000 in
theorem m_cell_bad {x : Int32} {y : Int32} (hb : ¬ (0 ≤ x.toInt ∧ x.toInt < 25 ∧ 0 ≤ y.toInt ∧ y.toInt ≤ 1)) : zq_P l mX12_cell 2 [.ref 41, .int x, .int y] (MH c tr tx (nI Z) td dr s im kp at_ so sr va wy) (some (.int (-1))) (MH c tr tx (nI Z) td dr s im kp at_ so sr va wy) := by
  refine zq_start (by decide +kernel) rfl (Nat.le_of_ble_eq_true rfl) ?_
  show zq_G _ _ _ _ _ 0 ([(0, .ref 41), (1, .int x), (2, .int y)], [], MH c tr tx (nI Z) td dr s im kp at_ so sr va wy)
  refine zq_b [zq_il 1, zq_k 0, zq_k 24] [zq_ilchk 1, zq_kchk 0, zq_kchk 24] 4 rfl (by decide +kernel) ?_
  show zq_G _ _ _ _ _ 4 ([(0, .ref 41), (1, .int x), (2, .int y)], [.int 24, .int 0, .int x], MH c tr tx (nI Z) td dr s im kp at_ so sr va wy)
  refine zq_callS (av := [.int x, .int 0, .int 24]) (rest := []) (by decide +kernel) k12_39 (m_in (x := x) (lo := 0) (hi := 24) (by omega) (by omega)) rfl rfl ?_
  show zq_G _ _ _ _ _ 7 ([(0, .ref 41), (1, .int x), (2, .int y)], [.int (zb ((0 : Int) ≤ x.toInt ∧ x.toInt ≤ (24 : Int)))], MH c tr tx (nI Z) td dr s im kp at_ so sr va wy)
  refine zq_ifz .eq 19 (¬ ((0 : Int) ≤ x.toInt ∧ x.toInt ≤ (24 : Int))) (by decide +kernel) (zb_eq _) (fun c7 => ?_) (fun c7 => ?_)
  · show zq_G _ _ _ _ _ 19 ([(0, .ref 41), (1, .int x), (2, .int y)], [], MH c tr tx (nI Z) td dr s im kp at_ so sr va wy)
    refine zq_b [zq_k (-1)] [zq_kchk (-1)] 20 rfl (by decide +kernel) ?_
    show zq_G _ _ _ _ _ 20 ([(0, .ref 41), (1, .int x), (2, .int y)], [.int (-1)], MH c tr tx (nI Z) td dr s im kp at_ so sr va wy)
    exact zq_iret (by decide +kernel) rfl rfl rfl
  · show zq_G _ _ _ _ _ 10 ([(0, .ref 41), (1, .int x), (2, .int y)], [], MH c tr tx (nI Z) td dr s im kp at_ so sr va wy)
    refine zq_b [zq_il 2, zq_k 0, zq_k 1] [zq_ilchk 2, zq_kchk 0, zq_kchk 1] 13 rfl (by decide +kernel) ?_
    show zq_G _ _ _ _ _ 13 ([(0, .ref 41), (1, .int x), (2, .int y)], [.int 1, .int 0, .int y], MH c tr tx (nI Z) td dr s im kp at_ so sr va wy)
    refine zq_callS (av := [.int y, .int 0, .int 1]) (rest := []) (by decide +kernel) k12_39 (m_in (x := y) (lo := 0) (hi := 1) (by omega) (by omega)) rfl rfl ?_
    show zq_G _ _ _ _ _ 16 ([(0, .ref 41), (1, .int x), (2, .int y)], [.int (zb ((0 : Int) ≤ y.toInt ∧ y.toInt ≤ (1 : Int)))], MH c tr tx (nI Z) td dr s im kp at_ so sr va wy)
    refine zq_ifz .ne 21 ((0 : Int) ≤ y.toInt ∧ y.toInt ≤ (1 : Int)) (by decide +kernel) (zb_ne _) (fun c16 => ?_) (fun c16 => ?_)
    · show zq_G _ _ _ _ _ 21 ([(0, .ref 41), (1, .int x), (2, .int y)], [], MH c tr tx (nI Z) td dr s im kp at_ so sr va wy)
      exact absurd hb (by omega)
    · show zq_G _ _ _ _ _ 19 ([(0, .ref 41), (1, .int x), (2, .int y)], [], MH c tr tx (nI Z) td dr s im kp at_ so sr va wy)
      refine zq_b [zq_k (-1)] [zq_kchk (-1)] 20 rfl (by decide +kernel) ?_
      show zq_G _ _ _ _ _ 20 ([(0, .ref 41), (1, .int x), (2, .int y)], [.int (-1)], MH c tr tx (nI Z) td dr s im kp at_ so sr va wy)
      exact zq_iret (by decide +kernel) rfl rfl rfl
set_option maxHeartbeats 4000000 in
set_option maxRecDepth 100000 in
theorem m_cell_0 {a : Nat} (ht0 : td 0 = nI P) (hP : P ≤ 6) (hs1 : s 1 = sm) (ha : a < 25) : zq_P l mX12_cell 2 [.ref 41, .int (nI a), .int 0] (MH c tr tx (nI Z) td dr s im kp at_ so sr va wy) (some (.int (orB (fun p => decide (s (3 + p) = nI a)) P))) (MH c tr tx (nI Z) td dr s im kp at_ so sr va wy) := by
  refine zq_start (by decide +kernel) rfl (Nat.le_of_ble_eq_true rfl) ?_
  show zq_G _ _ _ _ _ 0 ([(0, .ref 41), (1, .int (nI a)), (2, .int 0)], [], MH c tr tx (nI Z) td dr s im kp at_ so sr va wy)
  refine zq_b [zq_il 1, zq_k 0, zq_k 24] [zq_ilchk 1, zq_kchk 0, zq_kchk 24] 4 rfl (by decide +kernel) ?_
  show zq_G _ _ _ _ _ 4 ([(0, .ref 41), (1, .int (nI a)), (2, .int 0)], [.int 24, .int 0, .int (nI a)], MH c tr tx (nI Z) td dr s im kp at_ so sr va wy)
  refine zq_callS (av := [.int (nI a), .int 0, .int 24]) (rest := []) (by decide +kernel) k12_39 (m_inN (x := a) (lo := 0) (hi := 24) (by omega) (by omega) (by omega)) rfl rfl ?_
  show zq_G _ _ _ _ _ 7 ([(0, .ref 41), (1, .int (nI a)), (2, .int 0)], [.int (zb (0 ≤ a ∧ a ≤ 24))], MH c tr tx (nI Z) td dr s im kp at_ so sr va wy)
  refine zq_ifz .eq 19 (¬ (0 ≤ a ∧ a ≤ 24)) (by decide +kernel) (zb_eq _) (fun c7 => absurd c7 (by omega)) (fun c7 => ?_)
  show zq_G _ _ _ _ _ 10 ([(0, .ref 41), (1, .int (nI a)), (2, .int 0)], [], MH c tr tx (nI Z) td dr s im kp at_ so sr va wy)
  refine zq_b [zq_il 2, zq_k 0, zq_k 1] [zq_ilchk 2, zq_kchk 0, zq_kchk 1] 13 rfl (by decide +kernel) ?_
  show zq_G _ _ _ _ _ 13 ([(0, .ref 41), (1, .int (nI a)), (2, .int 0)], [.int 1, .int 0, .int 0], MH c tr tx (nI Z) td dr s im kp at_ so sr va wy)
  refine zq_callS (av := [.int 0, .int 0, .int 1]) (rest := []) (by decide +kernel) k12_39 (m_inN (x := 0) (lo := 0) (hi := 1) (by omega) (by omega) (by omega)) rfl rfl ?_
  show zq_G _ _ _ _ _ 16 ([(0, .ref 41), (1, .int (nI a)), (2, .int 0)], [.int (zb (0 ≤ 0 ∧ 0 ≤ 1))], MH c tr tx (nI Z) td dr s im kp at_ so sr va wy)
  refine zq_ifz .ne 21 (0 ≤ 0 ∧ 0 ≤ 1) (by decide +kernel) (zb_ne _) (fun c16 => ?_) (fun c16 => absurd (by omega) c16)
  show zq_G _ _ _ _ _ 21 ([(0, .ref 41), (1, .int (nI a)), (2, .int 0)], [], MH c tr tx (nI Z) td dr s im kp at_ so sr va wy)
  refine zq_b [zq_k 0, zq_is1 3, zq_k 0, zq_is1 4] [zq_kchk 0, zq_is1chk 3, zq_kchk 0, zq_is1chk 4] 26 rfl (by decide +kernel) ?_
  show zq_G _ _ _ _ _ 26 ([(0, .ref 41), (1, .int (nI a)), (2, .int 0), (3, .int 0), (4, .int 0)], [], MH c tr tx (nI Z) td dr s im kp at_ so sr va wy)
  refine zq_loop (fun i => ([(0, .ref 41), (1, .int (nI a)), (2, .int 0), (3, .int (orB (fun p => decide (s (3 + p) = nI a)) i)), (4, .int (nI i))], [], MH c tr tx (nI Z) td dr s im kp at_ so sr va wy)) (fun i => True) (P) (0) (by omega) (trivial) (fun i hl26 hi26 hI26 ih26 => ?_) (fun hI26 => ?_)
  · show zq_G _ _ _ _ _ 26 ([(0, .ref 41), (1, .int (nI a)), (2, .int 0), (3, .int (orB (fun p => decide (s (3 + p) = nI a)) i)), (4, .int (nI i))], [], MH c tr tx (nI Z) td dr s im kp at_ so sr va wy)
    refine zq_b [zq_il 4, zq_al 0, zq_get 12 3, zq_k 0, zq_iald 0 (nI P)] [zq_ilchk 4, zq_alchk 0, zq_getchk 12 3, zq_kchk 0, zq_is .iaload 1] 34 rfl (by decide +kernel) ?_
    refine ⟨rfl, (by omega), (by omega), ht0, ?_⟩
    show zq_G _ _ _ _ _ 34 ([(0, .ref 41), (1, .int (nI a)), (2, .int 0), (3, .int (orB (fun p => decide (s (3 + p) = nI a)) i)), (4, .int (nI i))], [.int (nI P), .int (nI i)], MH c tr tx (nI Z) td dr s im kp at_ so sr va wy)
    refine zq_if .ge 67 (P ≤ i) (by decide +kernel) (zq_cge (a := i) (b := P) (by omega) (by omega)) (fun c34 => absurd c34 (by omega)) (fun c34 => ?_)
    show zq_G _ _ _ _ _ 37 ([(0, .ref 41), (1, .int (nI a)), (2, .int 0), (3, .int (orB (fun p => decide (s (3 + p) = nI a)) i)), (4, .int (nI i))], [], MH c tr tx (nI Z) td dr s im kp at_ so sr va wy)
    refine zq_b [zq_il 3, zq_al 0, zq_get 12 5, zq_k 3, zq_il 4, zq_iadd (nI (3 + i)), zq_iald (3 + i) (s (3 + i)), zq_il 1] [zq_ilchk 3, zq_alchk 0, zq_getchk 12 5, zq_kchk 3, zq_ilchk 4, zq_is .iadd 1, zq_is .iaload 1, zq_ilchk 1] 48 rfl (by decide +kernel) ?_
    refine ⟨(nI_add 3 i), rfl, (by omega), (by omega), rfl, ?_⟩
    show zq_G _ _ _ _ _ 48 ([(0, .ref 41), (1, .int (nI a)), (2, .int 0), (3, .int (orB (fun p => decide (s (3 + p) = nI a)) i)), (4, .int (nI i))], [.int (nI a), .int (s (3 + i)), .int (orB (fun p => decide (s (3 + p) = nI a)) i)], MH c tr tx (nI Z) td dr s im kp at_ so sr va wy)
    refine zq_if .ne 58 (¬ (s (3 + i)) = (nI a)) (by decide +kernel) (Iff.rfl) (fun c48 => ?_) (fun c48 => ?_)
    · show zq_G _ _ _ _ _ 58 ([(0, .ref 41), (1, .int (nI a)), (2, .int 0), (3, .int (orB (fun p => decide (s (3 + p) = nI a)) i)), (4, .int (nI i))], [.int (orB (fun p => decide (s (3 + p) = nI a)) i)], MH c tr tx (nI Z) td dr s im kp at_ so sr va wy)
      refine zq_b [zq_k 0, zq_ior (orB (fun p => decide (s (3 + p) = nI a)) i), zq_is1 3, zq_inc 4 1 (nI (i + 1)), zq_go] [zq_kchk 0, zq_is .ior 1, zq_is1chk 3, zq_incchk 4 1, zq_gochk] 26 rfl (by decide +kernel) ?_
      refine ⟨Int32.or_zero, nI_add i 1, ?_⟩
      show zq_G _ _ _ _ _ 26 ([(0, .ref 41), (1, .int (nI a)), (2, .int 0), (3, .int (orB (fun p => decide (s (3 + p) = nI a)) i)), (4, .int (nI (i + 1)))], [], MH c tr tx (nI Z) td dr s im kp at_ so sr va wy)
      exact zq_eq (by rw [orB_f (f := (fun p => decide (s (3 + p) = nI a))) (by simpa using c48)]) (ih26 trivial)
    · show zq_G _ _ _ _ _ 51 ([(0, .ref 41), (1, .int (nI a)), (2, .int 0), (3, .int (orB (fun p => decide (s (3 + p) = nI a)) i)), (4, .int (nI i))], [.int (orB (fun p => decide (s (3 + p) = nI a)) i)], MH c tr tx (nI Z) td dr s im kp at_ so sr va wy)
      refine zq_b [zq_k 1, zq_il 4, zq_ishl (1 <<< (nI i &&& 31)), zq_go, zq_ior ((orB (fun p => decide (s (3 + p) = nI a)) i) ||| (1 <<< (nI i &&& 31))), zq_is1 3, zq_inc 4 1 (nI (i + 1)), zq_go] [zq_kchk 1, zq_ilchk 4, zq_is .ishl 1, zq_gochk, zq_is .ior 1, zq_is1chk 3, zq_incchk 4 1, zq_gochk] 26 rfl (by decide +kernel) ?_
      refine ⟨rfl, rfl, nI_add i 1, ?_⟩
      show zq_G _ _ _ _ _ 26 ([(0, .ref 41), (1, .int (nI a)), (2, .int 0), (3, .int ((orB (fun p => decide (s (3 + p) = nI a)) i) ||| (1 <<< (nI i &&& 31)))), (4, .int (nI (i + 1)))], [], MH c tr tx (nI Z) td dr s im kp at_ so sr va wy)
      exact zq_eq (by rw [orB_t (f := (fun p => decide (s (3 + p) = nI a))) (by simpa using c48)]) (ih26 trivial)
  · show zq_G _ _ _ _ _ 26 ([(0, .ref 41), (1, .int (nI a)), (2, .int 0), (3, .int (orB (fun p => decide (s (3 + p) = nI a)) P)), (4, .int (nI P))], [], MH c tr tx (nI Z) td dr s im kp at_ so sr va wy)
    refine zq_b [zq_il 4, zq_al 0, zq_get 12 3, zq_k 0, zq_iald 0 (nI P)] [zq_ilchk 4, zq_alchk 0, zq_getchk 12 3, zq_kchk 0, zq_is .iaload 1] 34 rfl (by decide +kernel) ?_
    refine ⟨rfl, (by omega), (by omega), ht0, ?_⟩
    show zq_G _ _ _ _ _ 34 ([(0, .ref 41), (1, .int (nI a)), (2, .int 0), (3, .int (orB (fun p => decide (s (3 + p) = nI a)) P)), (4, .int (nI P))], [.int (nI P), .int (nI P)], MH c tr tx (nI Z) td dr s im kp at_ so sr va wy)
    refine zq_if .ge 67 (P ≤ P) (by decide +kernel) (zq_cge (a := P) (b := P) (by omega) (by omega)) (fun c34 => ?_) (fun c34 => absurd (by omega) c34)
    show zq_G _ _ _ _ _ 67 ([(0, .ref 41), (1, .int (nI a)), (2, .int 0), (3, .int (orB (fun p => decide (s (3 + p) = nI a)) P)), (4, .int (nI P))], [], MH c tr tx (nI Z) td dr s im kp at_ so sr va wy)
    refine zq_b [zq_il 2] [zq_ilchk 2] 68 rfl (by decide +kernel) ?_
    show zq_G _ _ _ _ _ 68 ([(0, .ref 41), (1, .int (nI a)), (2, .int 0), (3, .int (orB (fun p => decide (s (3 + p) = nI a)) P)), (4, .int (nI P))], [.int 0], MH c tr tx (nI Z) td dr s im kp at_ so sr va wy)
    refine zq_ifz .ne 75 (¬ 0 = 0) (by decide +kernel) (zq_cne (a := 0) (b := 0) (by omega) (by omega)) (fun c68 => absurd c68 (fun q => q rfl)) (fun c68 => ?_)
    show zq_G _ _ _ _ _ 71 ([(0, .ref 41), (1, .int (nI a)), (2, .int 0), (3, .int (orB (fun p => decide (s (3 + p) = nI a)) P)), (4, .int (nI P))], [], MH c tr tx (nI Z) td dr s im kp at_ so sr va wy)
    refine zq_b [zq_il 3, zq_go] [zq_ilchk 3, zq_gochk] 85 rfl (by decide +kernel) ?_
    show zq_G _ _ _ _ _ 85 ([(0, .ref 41), (1, .int (nI a)), (2, .int 0), (3, .int (orB (fun p => decide (s (3 + p) = nI a)) P)), (4, .int (nI P))], [.int (orB (fun p => decide (s (3 + p) = nI a)) P)], MH c tr tx (nI Z) td dr s im kp at_ so sr va wy)
    exact zq_iret (by decide +kernel) rfl rfl rfl
set_option maxHeartbeats 4000000 in
set_option maxRecDepth 100000 in
theorem m_cell_1 {a : Nat} (ht0 : td 0 = nI P) (hP : P ≤ 6) (hs1 : s 1 = sm) (ha : a < 25) : zq_P l mX12_cell 2 [.ref 41, .int (nI a), .int 1] (MH c tr tx (nI Z) td dr s im kp at_ so sr va wy) (some (.int (zbit sm (nI a)))) (MH c tr tx (nI Z) td dr s im kp at_ so sr va wy) := by
  refine zq_start (by decide +kernel) rfl (Nat.le_of_ble_eq_true rfl) ?_
  show zq_G _ _ _ _ _ 0 ([(0, .ref 41), (1, .int (nI a)), (2, .int 1)], [], MH c tr tx (nI Z) td dr s im kp at_ so sr va wy)
  refine zq_b [zq_il 1, zq_k 0, zq_k 24] [zq_ilchk 1, zq_kchk 0, zq_kchk 24] 4 rfl (by decide +kernel) ?_
  show zq_G _ _ _ _ _ 4 ([(0, .ref 41), (1, .int (nI a)), (2, .int 1)], [.int 24, .int 0, .int (nI a)], MH c tr tx (nI Z) td dr s im kp at_ so sr va wy)
  refine zq_callS (av := [.int (nI a), .int 0, .int 24]) (rest := []) (by decide +kernel) k12_39 (m_inN (x := a) (lo := 0) (hi := 24) (by omega) (by omega) (by omega)) rfl rfl ?_
  show zq_G _ _ _ _ _ 7 ([(0, .ref 41), (1, .int (nI a)), (2, .int 1)], [.int (zb (0 ≤ a ∧ a ≤ 24))], MH c tr tx (nI Z) td dr s im kp at_ so sr va wy)
  refine zq_ifz .eq 19 (¬ (0 ≤ a ∧ a ≤ 24)) (by decide +kernel) (zb_eq _) (fun c7 => absurd c7 (by omega)) (fun c7 => ?_)
  show zq_G _ _ _ _ _ 10 ([(0, .ref 41), (1, .int (nI a)), (2, .int 1)], [], MH c tr tx (nI Z) td dr s im kp at_ so sr va wy)
  refine zq_b [zq_il 2, zq_k 0, zq_k 1] [zq_ilchk 2, zq_kchk 0, zq_kchk 1] 13 rfl (by decide +kernel) ?_
  show zq_G _ _ _ _ _ 13 ([(0, .ref 41), (1, .int (nI a)), (2, .int 1)], [.int 1, .int 0, .int 1], MH c tr tx (nI Z) td dr s im kp at_ so sr va wy)
  refine zq_callS (av := [.int 1, .int 0, .int 1]) (rest := []) (by decide +kernel) k12_39 (m_inN (x := 1) (lo := 0) (hi := 1) (by omega) (by omega) (by omega)) rfl rfl ?_
  show zq_G _ _ _ _ _ 16 ([(0, .ref 41), (1, .int (nI a)), (2, .int 1)], [.int (zb (0 ≤ 1 ∧ 1 ≤ 1))], MH c tr tx (nI Z) td dr s im kp at_ so sr va wy)
  refine zq_ifz .ne 21 (0 ≤ 1 ∧ 1 ≤ 1) (by decide +kernel) (zb_ne _) (fun c16 => ?_) (fun c16 => absurd (by omega) c16)
  show zq_G _ _ _ _ _ 21 ([(0, .ref 41), (1, .int (nI a)), (2, .int 1)], [], MH c tr tx (nI Z) td dr s im kp at_ so sr va wy)
  refine zq_b [zq_k 0, zq_is1 3, zq_k 0, zq_is1 4] [zq_kchk 0, zq_is1chk 3, zq_kchk 0, zq_is1chk 4] 26 rfl (by decide +kernel) ?_
  show zq_G _ _ _ _ _ 26 ([(0, .ref 41), (1, .int (nI a)), (2, .int 1), (3, .int 0), (4, .int 0)], [], MH c tr tx (nI Z) td dr s im kp at_ so sr va wy)
  refine zq_loop (fun i => ([(0, .ref 41), (1, .int (nI a)), (2, .int 1), (3, .int (orB (fun p => decide (s (3 + p) = nI a)) i)), (4, .int (nI i))], [], MH c tr tx (nI Z) td dr s im kp at_ so sr va wy)) (fun i => True) (P) (0) (by omega) (trivial) (fun i hl26 hi26 hI26 ih26 => ?_) (fun hI26 => ?_)
  · show zq_G _ _ _ _ _ 26 ([(0, .ref 41), (1, .int (nI a)), (2, .int 1), (3, .int (orB (fun p => decide (s (3 + p) = nI a)) i)), (4, .int (nI i))], [], MH c tr tx (nI Z) td dr s im kp at_ so sr va wy)
    refine zq_b [zq_il 4, zq_al 0, zq_get 12 3, zq_k 0, zq_iald 0 (nI P)] [zq_ilchk 4, zq_alchk 0, zq_getchk 12 3, zq_kchk 0, zq_is .iaload 1] 34 rfl (by decide +kernel) ?_
    refine ⟨rfl, (by omega), (by omega), ht0, ?_⟩
    show zq_G _ _ _ _ _ 34 ([(0, .ref 41), (1, .int (nI a)), (2, .int 1), (3, .int (orB (fun p => decide (s (3 + p) = nI a)) i)), (4, .int (nI i))], [.int (nI P), .int (nI i)], MH c tr tx (nI Z) td dr s im kp at_ so sr va wy)
    refine zq_if .ge 67 (P ≤ i) (by decide +kernel) (zq_cge (a := i) (b := P) (by omega) (by omega)) (fun c34 => absurd c34 (by omega)) (fun c34 => ?_)
    show zq_G _ _ _ _ _ 37 ([(0, .ref 41), (1, .int (nI a)), (2, .int 1), (3, .int (orB (fun p => decide (s (3 + p) = nI a)) i)), (4, .int (nI i))], [], MH c tr tx (nI Z) td dr s im kp at_ so sr va wy)
    refine zq_b [zq_il 3, zq_al 0, zq_get 12 5, zq_k 3, zq_il 4, zq_iadd (nI (3 + i)), zq_iald (3 + i) (s (3 + i)), zq_il 1] [zq_ilchk 3, zq_alchk 0, zq_getchk 12 5, zq_kchk 3, zq_ilchk 4, zq_is .iadd 1, zq_is .iaload 1, zq_ilchk 1] 48 rfl (by decide +kernel) ?_
    refine ⟨(nI_add 3 i), rfl, (by omega), (by omega), rfl, ?_⟩
    show zq_G _ _ _ _ _ 48 ([(0, .ref 41), (1, .int (nI a)), (2, .int 1), (3, .int (orB (fun p => decide (s (3 + p) = nI a)) i)), (4, .int (nI i))], [.int (nI a), .int (s (3 + i)), .int (orB (fun p => decide (s (3 + p) = nI a)) i)], MH c tr tx (nI Z) td dr s im kp at_ so sr va wy)
    refine zq_if .ne 58 (¬ (s (3 + i)) = (nI a)) (by decide +kernel) (Iff.rfl) (fun c48 => ?_) (fun c48 => ?_)
    · show zq_G _ _ _ _ _ 58 ([(0, .ref 41), (1, .int (nI a)), (2, .int 1), (3, .int (orB (fun p => decide (s (3 + p) = nI a)) i)), (4, .int (nI i))], [.int (orB (fun p => decide (s (3 + p) = nI a)) i)], MH c tr tx (nI Z) td dr s im kp at_ so sr va wy)
      refine zq_b [zq_k 0, zq_ior (orB (fun p => decide (s (3 + p) = nI a)) i), zq_is1 3, zq_inc 4 1 (nI (i + 1)), zq_go] [zq_kchk 0, zq_is .ior 1, zq_is1chk 3, zq_incchk 4 1, zq_gochk] 26 rfl (by decide +kernel) ?_
      refine ⟨Int32.or_zero, nI_add i 1, ?_⟩
      show zq_G _ _ _ _ _ 26 ([(0, .ref 41), (1, .int (nI a)), (2, .int 1), (3, .int (orB (fun p => decide (s (3 + p) = nI a)) i)), (4, .int (nI (i + 1)))], [], MH c tr tx (nI Z) td dr s im kp at_ so sr va wy)
      exact zq_eq (by rw [orB_f (f := (fun p => decide (s (3 + p) = nI a))) (by simpa using c48)]) (ih26 trivial)
    · show zq_G _ _ _ _ _ 51 ([(0, .ref 41), (1, .int (nI a)), (2, .int 1), (3, .int (orB (fun p => decide (s (3 + p) = nI a)) i)), (4, .int (nI i))], [.int (orB (fun p => decide (s (3 + p) = nI a)) i)], MH c tr tx (nI Z) td dr s im kp at_ so sr va wy)
      refine zq_b [zq_k 1, zq_il 4, zq_ishl (1 <<< (nI i &&& 31)), zq_go, zq_ior ((orB (fun p => decide (s (3 + p) = nI a)) i) ||| (1 <<< (nI i &&& 31))), zq_is1 3, zq_inc 4 1 (nI (i + 1)), zq_go] [zq_kchk 1, zq_ilchk 4, zq_is .ishl 1, zq_gochk, zq_is .ior 1, zq_is1chk 3, zq_incchk 4 1, zq_gochk] 26 rfl (by decide +kernel) ?_
      refine ⟨rfl, rfl, nI_add i 1, ?_⟩
      show zq_G _ _ _ _ _ 26 ([(0, .ref 41), (1, .int (nI a)), (2, .int 1), (3, .int ((orB (fun p => decide (s (3 + p) = nI a)) i) ||| (1 <<< (nI i &&& 31)))), (4, .int (nI (i + 1)))], [], MH c tr tx (nI Z) td dr s im kp at_ so sr va wy)
      exact zq_eq (by rw [orB_t (f := (fun p => decide (s (3 + p) = nI a))) (by simpa using c48)]) (ih26 trivial)
  · show zq_G _ _ _ _ _ 26 ([(0, .ref 41), (1, .int (nI a)), (2, .int 1), (3, .int (orB (fun p => decide (s (3 + p) = nI a)) P)), (4, .int (nI P))], [], MH c tr tx (nI Z) td dr s im kp at_ so sr va wy)
    refine zq_b [zq_il 4, zq_al 0, zq_get 12 3, zq_k 0, zq_iald 0 (nI P)] [zq_ilchk 4, zq_alchk 0, zq_getchk 12 3, zq_kchk 0, zq_is .iaload 1] 34 rfl (by decide +kernel) ?_
    refine ⟨rfl, (by omega), (by omega), ht0, ?_⟩
    show zq_G _ _ _ _ _ 34 ([(0, .ref 41), (1, .int (nI a)), (2, .int 1), (3, .int (orB (fun p => decide (s (3 + p) = nI a)) P)), (4, .int (nI P))], [.int (nI P), .int (nI P)], MH c tr tx (nI Z) td dr s im kp at_ so sr va wy)
    refine zq_if .ge 67 (P ≤ P) (by decide +kernel) (zq_cge (a := P) (b := P) (by omega) (by omega)) (fun c34 => ?_) (fun c34 => absurd (by omega) c34)
    show zq_G _ _ _ _ _ 67 ([(0, .ref 41), (1, .int (nI a)), (2, .int 1), (3, .int (orB (fun p => decide (s (3 + p) = nI a)) P)), (4, .int (nI P))], [], MH c tr tx (nI Z) td dr s im kp at_ so sr va wy)
    refine zq_b [zq_il 2] [zq_ilchk 2] 68 rfl (by decide +kernel) ?_
    show zq_G _ _ _ _ _ 68 ([(0, .ref 41), (1, .int (nI a)), (2, .int 1), (3, .int (orB (fun p => decide (s (3 + p) = nI a)) P)), (4, .int (nI P))], [.int 1], MH c tr tx (nI Z) td dr s im kp at_ so sr va wy)
    refine zq_ifz .ne 75 (¬ 1 = 0) (by decide +kernel) (zq_cne (a := 1) (b := 0) (by omega) (by omega)) (fun c68 => ?_) (fun c68 => absurd (by decide) c68)
    show zq_G _ _ _ _ _ 75 ([(0, .ref 41), (1, .int (nI a)), (2, .int 1), (3, .int (orB (fun p => decide (s (3 + p) = nI a)) P)), (4, .int (nI P))], [], MH c tr tx (nI Z) td dr s im kp at_ so sr va wy)
    refine zq_b [zq_al 0, zq_get 12 5, zq_k 1, zq_iald 1 sm, zq_il 1, zq_ishr (sm >>> (nI a &&& 31)), zq_k 1, zq_iand ((sm >>> (nI a &&& 31)) &&& 1)] [zq_alchk 0, zq_getchk 12 5, zq_kchk 1, zq_is .iaload 1, zq_ilchk 1, zq_is .ishr 1, zq_kchk 1, zq_is .iand 1] 85 rfl (by decide +kernel) ?_
    refine ⟨rfl, (by omega), (by omega), hs1, rfl, rfl, ?_⟩
    show zq_G _ _ _ _ _ 85 ([(0, .ref 41), (1, .int (nI a)), (2, .int 1), (3, .int (orB (fun p => decide (s (3 + p) = nI a)) P)), (4, .int (nI P))], [.int ((sm >>> (nI a &&& 31)) &&& 1)], MH c tr tx (nI Z) td dr s im kp at_ so sr va wy)
    exact zq_iret (by decide +kernel) rfl rfl rfl
set_option maxHeartbeats 4000000 in
set_option maxRecDepth 100000 in
theorem m_now_bad {x : Int32} (hb : x.toInt < 0 ∨ 4 < x.toInt) : zq_P l mX12_now 1 [.ref 41, .int x] (MH c tr tx (nI Z) td dr s im kp at_ so sr va wy) (some (.int (-1))) (MH c tr tx (nI Z) td dr s im kp at_ so sr va wy) := by
  refine zq_start (by decide +kernel) rfl (Nat.le_of_ble_eq_true rfl) ?_
  show zq_G _ _ _ _ _ 0 ([(0, .ref 41), (1, .int x)], [], MH c tr tx (nI Z) td dr s im kp at_ so sr va wy)
  refine zq_b [zq_il 1, zq_k 0, zq_k 4] [zq_ilchk 1, zq_kchk 0, zq_kchk 4] 3 rfl (by decide +kernel) ?_
  show zq_G _ _ _ _ _ 3 ([(0, .ref 41), (1, .int x)], [.int 4, .int 0, .int x], MH c tr tx (nI Z) td dr s im kp at_ so sr va wy)
  refine zq_callS (av := [.int x, .int 0, .int 4]) (rest := []) (by decide +kernel) k12_39 (m_in (x := x) (lo := 0) (hi := 4) (by omega) (by omega)) rfl rfl ?_
  show zq_G _ _ _ _ _ 6 ([(0, .ref 41), (1, .int x)], [.int (zb ((0 : Int) ≤ x.toInt ∧ x.toInt ≤ (4 : Int)))], MH c tr tx (nI Z) td dr s im kp at_ so sr va wy)
  refine zq_ifz .ne 11 ((0 : Int) ≤ x.toInt ∧ x.toInt ≤ (4 : Int)) (by decide +kernel) (zb_ne _) (fun c6 => ?_) (fun c6 => ?_)
  · show zq_G _ _ _ _ _ 11 ([(0, .ref 41), (1, .int x)], [], MH c tr tx (nI Z) td dr s im kp at_ so sr va wy)
    exact absurd hb (by omega)
  · show zq_G _ _ _ _ _ 9 ([(0, .ref 41), (1, .int x)], [], MH c tr tx (nI Z) td dr s im kp at_ so sr va wy)
    refine zq_b [zq_k (-1)] [zq_kchk (-1)] 10 rfl (by decide +kernel) ?_
    show zq_G _ _ _ _ _ 10 ([(0, .ref 41), (1, .int x)], [.int (-1)], MH c tr tx (nI Z) td dr s im kp at_ so sr va wy)
    exact zq_iret (by decide +kernel) rfl rfl rfl
set_option maxHeartbeats 4000000 in
set_option maxRecDepth 100000 in
theorem m_now_0  (hs0 : s 0 = nI D) : zq_P l mX12_now 3 [.ref 41, .int 0] (MH c tr tx (nI Z) td dr s im kp at_ so sr va wy) (some (.int (nI D))) (MH c tr tx (nI Z) td dr s im kp at_ so sr va wy) := by
  refine zq_start (by decide +kernel) rfl (Nat.le_of_ble_eq_true rfl) ?_
  show zq_G _ _ _ _ _ 0 ([(0, .ref 41), (1, .int 0)], [], MH c tr tx (nI Z) td dr s im kp at_ so sr va wy)
  refine zq_b [zq_il 1, zq_k 0, zq_k 4] [zq_ilchk 1, zq_kchk 0, zq_kchk 4] 3 rfl (by decide +kernel) ?_
  show zq_G _ _ _ _ _ 3 ([(0, .ref 41), (1, .int 0)], [.int 4, .int 0, .int 0], MH c tr tx (nI Z) td dr s im kp at_ so sr va wy)
  refine zq_callS (av := [.int 0, .int 0, .int 4]) (rest := []) (by decide +kernel) k12_39 (m_inN (x := 0) (lo := 0) (hi := 4) (by omega) (by omega) (by omega)) rfl rfl ?_
  show zq_G _ _ _ _ _ 6 ([(0, .ref 41), (1, .int 0)], [.int (zb (0 ≤ 0 ∧ 0 ≤ 4))], MH c tr tx (nI Z) td dr s im kp at_ so sr va wy)
  refine zq_ifz .ne 11 (0 ≤ 0 ∧ 0 ≤ 4) (by decide +kernel) (zb_ne _) (fun c6 => ?_) (fun c6 => absurd (by omega) c6)
  show zq_G _ _ _ _ _ 11 ([(0, .ref 41), (1, .int 0)], [], MH c tr tx (nI Z) td dr s im kp at_ so sr va wy)
  refine zq_b [zq_il 1] [zq_ilchk 1] 12 rfl (by decide +kernel) ?_
  show zq_G _ _ _ _ _ 12 ([(0, .ref 41), (1, .int 0)], [.int 0], MH c tr tx (nI Z) td dr s im kp at_ so sr va wy)
  refine zq_ifz .ne 24 (¬ 0 = 0) (by decide +kernel) (zq_cne (a := 0) (b := 0) (by omega) (by omega)) (fun c12 => absurd c12 (fun q => q rfl)) (fun c12 => ?_)
  show zq_G _ _ _ _ _ 15 ([(0, .ref 41), (1, .int 0)], [], MH c tr tx (nI Z) td dr s im kp at_ so sr va wy)
  refine zq_b [zq_al 0, zq_get 12 5, zq_k 0, zq_iald 0 (nI D), zq_go] [zq_alchk 0, zq_getchk 12 5, zq_kchk 0, zq_is .iaload 1, zq_gochk] 82 rfl (by decide +kernel) ?_
  refine ⟨rfl, (by omega), (by omega), hs0, ?_⟩
  show zq_G _ _ _ _ _ 82 ([(0, .ref 41), (1, .int 0)], [.int (nI D)], MH c tr tx (nI Z) td dr s im kp at_ so sr va wy)
  exact zq_iret (by decide +kernel) rfl rfl rfl
set_option maxHeartbeats 4000000 in
set_option maxRecDepth 100000 in
theorem m_now_1  (ht0 : td 0 = nI P) (ht1 : td 1 = nI C) (hs0 : s 0 = nI D) (hs1 : s 1 = sm) (hP : P ≤ 6) (hC : C ≤ 8) (hce : ∀ j, j < P → s (3 + j) = nI (cn j) ∧ cn j ≤ 26) : zq_P l mX12_now 3 [.ref 41, .int 1] (MH c tr tx (nI Z) td dr s im kp at_ so sr va wy) (some (.int (zseen C (fun j => td (18 + j)) D P (fun j => td (6 + j)) sm cn))) (MH c tr tx (nI Z) td dr s im kp at_ so sr va wy) := by
  refine zq_start (by decide +kernel) rfl (Nat.le_of_ble_eq_true rfl) ?_
  show zq_G _ _ _ _ _ 0 ([(0, .ref 41), (1, .int 1)], [], MH c tr tx (nI Z) td dr s im kp at_ so sr va wy)
  refine zq_b [zq_il 1, zq_k 0, zq_k 4] [zq_ilchk 1, zq_kchk 0, zq_kchk 4] 3 rfl (by decide +kernel) ?_
  show zq_G _ _ _ _ _ 3 ([(0, .ref 41), (1, .int 1)], [.int 4, .int 0, .int 1], MH c tr tx (nI Z) td dr s im kp at_ so sr va wy)
  refine zq_callS (av := [.int 1, .int 0, .int 4]) (rest := []) (by decide +kernel) k12_39 (m_inN (x := 1) (lo := 0) (hi := 4) (by omega) (by omega) (by omega)) rfl rfl ?_
  show zq_G _ _ _ _ _ 6 ([(0, .ref 41), (1, .int 1)], [.int (zb (0 ≤ 1 ∧ 1 ≤ 4))], MH c tr tx (nI Z) td dr s im kp at_ so sr va wy)
  refine zq_ifz .ne 11 (0 ≤ 1 ∧ 1 ≤ 4) (by decide +kernel) (zb_ne _) (fun c6 => ?_) (fun c6 => absurd (by omega) c6)
  show zq_G _ _ _ _ _ 11 ([(0, .ref 41), (1, .int 1)], [], MH c tr tx (nI Z) td dr s im kp at_ so sr va wy)
  refine zq_b [zq_il 1] [zq_ilchk 1] 12 rfl (by decide +kernel) ?_
  show zq_G _ _ _ _ _ 12 ([(0, .ref 41), (1, .int 1)], [.int 1], MH c tr tx (nI Z) td dr s im kp at_ so sr va wy)
  refine zq_ifz .ne 24 (¬ 1 = 0) (by decide +kernel) (zq_cne (a := 1) (b := 0) (by omega) (by omega)) (fun c12 => ?_) (fun c12 => absurd (by decide) c12)
  show zq_G _ _ _ _ _ 24 ([(0, .ref 41), (1, .int 1)], [], MH c tr tx (nI Z) td dr s im kp at_ so sr va wy)
  refine zq_b [zq_il 1, zq_k 1] [zq_ilchk 1, zq_kchk 1] 26 rfl (by decide +kernel) ?_
  show zq_G _ _ _ _ _ 26 ([(0, .ref 41), (1, .int 1)], [.int 1, .int 1], MH c tr tx (nI Z) td dr s im kp at_ so sr va wy)
  refine zq_if .ne 36 (¬ 1 = 1) (by decide +kernel) (zq_cne (a := 1) (b := 1) (by omega) (by omega)) (fun c26 => absurd c26 (fun q => q rfl)) (fun c26 => ?_)
  show zq_G _ _ _ _ _ 29 ([(0, .ref 41), (1, .int 1)], [], MH c tr tx (nI Z) td dr s im kp at_ so sr va wy)
  refine zq_b [zq_al 0] [zq_alchk 0] 30 rfl (by decide +kernel) ?_
  show zq_G _ _ _ _ _ 30 ([(0, .ref 41), (1, .int 1)], [.ref 41], MH c tr tx (nI Z) td dr s im kp at_ so sr va wy)
  refine zq_callV (av := []) (rest := []) (by decide +kernel) k12_103 (m_seenNow ht0 ht1 hs0 hs1 hP hC hce) rfl rfl rfl rfl ?_
  show zq_G _ _ _ _ _ 33 ([(0, .ref 41), (1, .int 1)], [.int (zseen C (fun j => td (18 + j)) D P (fun j => td (6 + j)) sm cn)], MH c tr tx (nI Z) td dr s im kp at_ so sr va wy)
  refine zq_b [zq_go] [zq_gochk] 82 rfl (by decide +kernel) ?_
  show zq_G _ _ _ _ _ 82 ([(0, .ref 41), (1, .int 1)], [.int (zseen C (fun j => td (18 + j)) D P (fun j => td (6 + j)) sm cn)], MH c tr tx (nI Z) td dr s im kp at_ so sr va wy)
  exact zq_iret (by decide +kernel) rfl rfl rfl
set_option maxHeartbeats 4000000 in
set_option maxRecDepth 100000 in
theorem m_now_2  (ht1 : td 1 = nI C) (hs0 : s 0 = nI D) (hC : C ≤ 8) : zq_P l mX12_now 3 [.ref 41, .int 2] (MH c tr tx (nI Z) td dr s im kp at_ so sr va wy) (some (.int (zb (zany (fun i => decide (td (18 + i) = nI D)) C = true)))) (MH c tr tx (nI Z) td dr s im kp at_ so sr va wy) := by
  refine zq_start (by decide +kernel) rfl (Nat.le_of_ble_eq_true rfl) ?_
  show zq_G _ _ _ _ _ 0 ([(0, .ref 41), (1, .int 2)], [], MH c tr tx (nI Z) td dr s im kp at_ so sr va wy)
  refine zq_b [zq_il 1, zq_k 0, zq_k 4] [zq_ilchk 1, zq_kchk 0, zq_kchk 4] 3 rfl (by decide +kernel) ?_
  show zq_G _ _ _ _ _ 3 ([(0, .ref 41), (1, .int 2)], [.int 4, .int 0, .int 2], MH c tr tx (nI Z) td dr s im kp at_ so sr va wy)
  refine zq_callS (av := [.int 2, .int 0, .int 4]) (rest := []) (by decide +kernel) k12_39 (m_inN (x := 2) (lo := 0) (hi := 4) (by omega) (by omega) (by omega)) rfl rfl ?_
  show zq_G _ _ _ _ _ 6 ([(0, .ref 41), (1, .int 2)], [.int (zb (0 ≤ 2 ∧ 2 ≤ 4))], MH c tr tx (nI Z) td dr s im kp at_ so sr va wy)
  refine zq_ifz .ne 11 (0 ≤ 2 ∧ 2 ≤ 4) (by decide +kernel) (zb_ne _) (fun c6 => ?_) (fun c6 => absurd (by omega) c6)
  show zq_G _ _ _ _ _ 11 ([(0, .ref 41), (1, .int 2)], [], MH c tr tx (nI Z) td dr s im kp at_ so sr va wy)
  refine zq_b [zq_il 1] [zq_ilchk 1] 12 rfl (by decide +kernel) ?_
  show zq_G _ _ _ _ _ 12 ([(0, .ref 41), (1, .int 2)], [.int 2], MH c tr tx (nI Z) td dr s im kp at_ so sr va wy)
  refine zq_ifz .ne 24 (¬ 2 = 0) (by decide +kernel) (zq_cne (a := 2) (b := 0) (by omega) (by omega)) (fun c12 => ?_) (fun c12 => absurd (by decide) c12)
  show zq_G _ _ _ _ _ 24 ([(0, .ref 41), (1, .int 2)], [], MH c tr tx (nI Z) td dr s im kp at_ so sr va wy)
  refine zq_b [zq_il 1, zq_k 1] [zq_ilchk 1, zq_kchk 1] 26 rfl (by decide +kernel) ?_
  show zq_G _ _ _ _ _ 26 ([(0, .ref 41), (1, .int 2)], [.int 1, .int 2], MH c tr tx (nI Z) td dr s im kp at_ so sr va wy)
  refine zq_if .ne 36 (¬ 2 = 1) (by decide +kernel) (zq_cne (a := 2) (b := 1) (by omega) (by omega)) (fun c26 => ?_) (fun c26 => absurd (by decide) c26)
  show zq_G _ _ _ _ _ 36 ([(0, .ref 41), (1, .int 2)], [], MH c tr tx (nI Z) td dr s im kp at_ so sr va wy)
  refine zq_b [zq_il 1, zq_k 2] [zq_ilchk 1, zq_kchk 2] 38 rfl (by decide +kernel) ?_
  show zq_G _ _ _ _ _ 38 ([(0, .ref 41), (1, .int 2)], [.int 2, .int 2], MH c tr tx (nI Z) td dr s im kp at_ so sr va wy)
  refine zq_if .ne 62 (¬ 2 = 2) (by decide +kernel) (zq_cne (a := 2) (b := 2) (by omega) (by omega)) (fun c38 => absurd c38 (fun q => q rfl)) (fun c38 => ?_)
  show zq_G _ _ _ _ _ 41 ([(0, .ref 41), (1, .int 2)], [], MH c tr tx (nI Z) td dr s im kp at_ so sr va wy)
  refine zq_b [zq_al 0, zq_al 0, zq_get 12 5, zq_k 0, zq_iald 0 (nI D)] [zq_alchk 0, zq_alchk 0, zq_getchk 12 5, zq_kchk 0, zq_is .iaload 1] 48 rfl (by decide +kernel) ?_
  refine ⟨rfl, (by omega), (by omega), hs0, ?_⟩
  show zq_G _ _ _ _ _ 48 ([(0, .ref 41), (1, .int 2)], [.int (nI D), .ref 41], MH c tr tx (nI Z) td dr s im kp at_ so sr va wy)
  refine zq_callV (av := [.int (nI D)]) (rest := []) (by decide +kernel) k12_94 (m_isCloud (day := (nI D)) ht1 hC) rfl rfl rfl rfl ?_
  show zq_G _ _ _ _ _ 51 ([(0, .ref 41), (1, .int 2)], [.int (zb (zany (fun i => decide (td (18 + i) = (nI D))) C = true))], MH c tr tx (nI Z) td dr s im kp at_ so sr va wy)
  refine zq_ifz .eq 58 (¬ (zany (fun i => decide (td (18 + i) = (nI D))) C = true)) (by decide +kernel) (zb_eq _) (fun c51 => ?_) (fun c51 => ?_)
  · show zq_G _ _ _ _ _ 58 ([(0, .ref 41), (1, .int 2)], [], MH c tr tx (nI Z) td dr s im kp at_ so sr va wy)
    refine zq_b [zq_k 0, zq_go] [zq_kchk 0, zq_gochk] 82 rfl (by decide +kernel) ?_
    show zq_G _ _ _ _ _ 82 ([(0, .ref 41), (1, .int 2)], [.int 0], MH c tr tx (nI Z) td dr s im kp at_ so sr va wy)
    exact zq_iret (by decide +kernel) rfl (zb_r (zb_f c51)) rfl
  · show zq_G _ _ _ _ _ 54 ([(0, .ref 41), (1, .int 2)], [], MH c tr tx (nI Z) td dr s im kp at_ so sr va wy)
    refine zq_b [zq_k 1, zq_go] [zq_kchk 1, zq_gochk] 82 rfl (by decide +kernel) ?_
    show zq_G _ _ _ _ _ 82 ([(0, .ref 41), (1, .int 2)], [.int 1], MH c tr tx (nI Z) td dr s im kp at_ so sr va wy)
    exact zq_iret (by decide +kernel) rfl (zb_r (zb_t (Decidable.not_not.mp c51))) rfl
set_option maxHeartbeats 4000000 in
set_option maxRecDepth 100000 in
theorem m_now_3  (hs1 : s 1 = sm) : zq_P l mX12_now 3 [.ref 41, .int 3] (MH c tr tx (nI Z) td dr s im kp at_ so sr va wy) (some (.int sm)) (MH c tr tx (nI Z) td dr s im kp at_ so sr va wy) := by
  refine zq_start (by decide +kernel) rfl (Nat.le_of_ble_eq_true rfl) ?_
  show zq_G _ _ _ _ _ 0 ([(0, .ref 41), (1, .int 3)], [], MH c tr tx (nI Z) td dr s im kp at_ so sr va wy)
  refine zq_b [zq_il 1, zq_k 0, zq_k 4] [zq_ilchk 1, zq_kchk 0, zq_kchk 4] 3 rfl (by decide +kernel) ?_
  show zq_G _ _ _ _ _ 3 ([(0, .ref 41), (1, .int 3)], [.int 4, .int 0, .int 3], MH c tr tx (nI Z) td dr s im kp at_ so sr va wy)
  refine zq_callS (av := [.int 3, .int 0, .int 4]) (rest := []) (by decide +kernel) k12_39 (m_inN (x := 3) (lo := 0) (hi := 4) (by omega) (by omega) (by omega)) rfl rfl ?_
  show zq_G _ _ _ _ _ 6 ([(0, .ref 41), (1, .int 3)], [.int (zb (0 ≤ 3 ∧ 3 ≤ 4))], MH c tr tx (nI Z) td dr s im kp at_ so sr va wy)
  refine zq_ifz .ne 11 (0 ≤ 3 ∧ 3 ≤ 4) (by decide +kernel) (zb_ne _) (fun c6 => ?_) (fun c6 => absurd (by omega) c6)
  show zq_G _ _ _ _ _ 11 ([(0, .ref 41), (1, .int 3)], [], MH c tr tx (nI Z) td dr s im kp at_ so sr va wy)
  refine zq_b [zq_il 1] [zq_ilchk 1] 12 rfl (by decide +kernel) ?_
  show zq_G _ _ _ _ _ 12 ([(0, .ref 41), (1, .int 3)], [.int 3], MH c tr tx (nI Z) td dr s im kp at_ so sr va wy)
  refine zq_ifz .ne 24 (¬ 3 = 0) (by decide +kernel) (zq_cne (a := 3) (b := 0) (by omega) (by omega)) (fun c12 => ?_) (fun c12 => absurd (by decide) c12)
  show zq_G _ _ _ _ _ 24 ([(0, .ref 41), (1, .int 3)], [], MH c tr tx (nI Z) td dr s im kp at_ so sr va wy)
  refine zq_b [zq_il 1, zq_k 1] [zq_ilchk 1, zq_kchk 1] 26 rfl (by decide +kernel) ?_
  show zq_G _ _ _ _ _ 26 ([(0, .ref 41), (1, .int 3)], [.int 1, .int 3], MH c tr tx (nI Z) td dr s im kp at_ so sr va wy)
  refine zq_if .ne 36 (¬ 3 = 1) (by decide +kernel) (zq_cne (a := 3) (b := 1) (by omega) (by omega)) (fun c26 => ?_) (fun c26 => absurd (by decide) c26)
  show zq_G _ _ _ _ _ 36 ([(0, .ref 41), (1, .int 3)], [], MH c tr tx (nI Z) td dr s im kp at_ so sr va wy)
  refine zq_b [zq_il 1, zq_k 2] [zq_ilchk 1, zq_kchk 2] 38 rfl (by decide +kernel) ?_
  show zq_G _ _ _ _ _ 38 ([(0, .ref 41), (1, .int 3)], [.int 2, .int 3], MH c tr tx (nI Z) td dr s im kp at_ so sr va wy)
  refine zq_if .ne 62 (¬ 3 = 2) (by decide +kernel) (zq_cne (a := 3) (b := 2) (by omega) (by omega)) (fun c38 => ?_) (fun c38 => absurd (by decide) c38)
  show zq_G _ _ _ _ _ 62 ([(0, .ref 41), (1, .int 3)], [], MH c tr tx (nI Z) td dr s im kp at_ so sr va wy)
  refine zq_b [zq_il 1, zq_k 3] [zq_ilchk 1, zq_kchk 3] 64 rfl (by decide +kernel) ?_
  show zq_G _ _ _ _ _ 64 ([(0, .ref 41), (1, .int 3)], [.int 3, .int 3], MH c tr tx (nI Z) td dr s im kp at_ so sr va wy)
  refine zq_if .ne 76 (¬ 3 = 3) (by decide +kernel) (zq_cne (a := 3) (b := 3) (by omega) (by omega)) (fun c64 => absurd c64 (fun q => q rfl)) (fun c64 => ?_)
  show zq_G _ _ _ _ _ 67 ([(0, .ref 41), (1, .int 3)], [], MH c tr tx (nI Z) td dr s im kp at_ so sr va wy)
  refine zq_b [zq_al 0, zq_get 12 5, zq_k 1, zq_iald 1 sm, zq_go] [zq_alchk 0, zq_getchk 12 5, zq_kchk 1, zq_is .iaload 1, zq_gochk] 82 rfl (by decide +kernel) ?_
  refine ⟨rfl, (by omega), (by omega), hs1, ?_⟩
  show zq_G _ _ _ _ _ 82 ([(0, .ref 41), (1, .int 3)], [.int sm], MH c tr tx (nI Z) td dr s im kp at_ so sr va wy)
  exact zq_iret (by decide +kernel) rfl rfl rfl
set_option maxHeartbeats 4000000 in
set_option maxRecDepth 100000 in
theorem m_now_4  (ht3 : td 3 = nI L) : zq_P l mX12_now 3 [.ref 41, .int 4] (MH c tr tx (nI Z) td dr s im kp at_ so sr va wy) (some (.int (nI L))) (MH c tr tx (nI Z) td dr s im kp at_ so sr va wy) := by
  refine zq_start (by decide +kernel) rfl (Nat.le_of_ble_eq_true rfl) ?_
  show zq_G _ _ _ _ _ 0 ([(0, .ref 41), (1, .int 4)], [], MH c tr tx (nI Z) td dr s im kp at_ so sr va wy)
  refine zq_b [zq_il 1, zq_k 0, zq_k 4] [zq_ilchk 1, zq_kchk 0, zq_kchk 4] 3 rfl (by decide +kernel) ?_
  show zq_G _ _ _ _ _ 3 ([(0, .ref 41), (1, .int 4)], [.int 4, .int 0, .int 4], MH c tr tx (nI Z) td dr s im kp at_ so sr va wy)
  refine zq_callS (av := [.int 4, .int 0, .int 4]) (rest := []) (by decide +kernel) k12_39 (m_inN (x := 4) (lo := 0) (hi := 4) (by omega) (by omega) (by omega)) rfl rfl ?_
  show zq_G _ _ _ _ _ 6 ([(0, .ref 41), (1, .int 4)], [.int (zb (0 ≤ 4 ∧ 4 ≤ 4))], MH c tr tx (nI Z) td dr s im kp at_ so sr va wy)
  refine zq_ifz .ne 11 (0 ≤ 4 ∧ 4 ≤ 4) (by decide +kernel) (zb_ne _) (fun c6 => ?_) (fun c6 => absurd (by omega) c6)
  show zq_G _ _ _ _ _ 11 ([(0, .ref 41), (1, .int 4)], [], MH c tr tx (nI Z) td dr s im kp at_ so sr va wy)
  refine zq_b [zq_il 1] [zq_ilchk 1] 12 rfl (by decide +kernel) ?_
  show zq_G _ _ _ _ _ 12 ([(0, .ref 41), (1, .int 4)], [.int 4], MH c tr tx (nI Z) td dr s im kp at_ so sr va wy)
  refine zq_ifz .ne 24 (¬ 4 = 0) (by decide +kernel) (zq_cne (a := 4) (b := 0) (by omega) (by omega)) (fun c12 => ?_) (fun c12 => absurd (by decide) c12)
  show zq_G _ _ _ _ _ 24 ([(0, .ref 41), (1, .int 4)], [], MH c tr tx (nI Z) td dr s im kp at_ so sr va wy)
  refine zq_b [zq_il 1, zq_k 1] [zq_ilchk 1, zq_kchk 1] 26 rfl (by decide +kernel) ?_
  show zq_G _ _ _ _ _ 26 ([(0, .ref 41), (1, .int 4)], [.int 1, .int 4], MH c tr tx (nI Z) td dr s im kp at_ so sr va wy)
  refine zq_if .ne 36 (¬ 4 = 1) (by decide +kernel) (zq_cne (a := 4) (b := 1) (by omega) (by omega)) (fun c26 => ?_) (fun c26 => absurd (by decide) c26)
  show zq_G _ _ _ _ _ 36 ([(0, .ref 41), (1, .int 4)], [], MH c tr tx (nI Z) td dr s im kp at_ so sr va wy)
  refine zq_b [zq_il 1, zq_k 2] [zq_ilchk 1, zq_kchk 2] 38 rfl (by decide +kernel) ?_
  show zq_G _ _ _ _ _ 38 ([(0, .ref 41), (1, .int 4)], [.int 2, .int 4], MH c tr tx (nI Z) td dr s im kp at_ so sr va wy)
  refine zq_if .ne 62 (¬ 4 = 2) (by decide +kernel) (zq_cne (a := 4) (b := 2) (by omega) (by omega)) (fun c38 => ?_) (fun c38 => absurd (by decide) c38)
  show zq_G _ _ _ _ _ 62 ([(0, .ref 41), (1, .int 4)], [], MH c tr tx (nI Z) td dr s im kp at_ so sr va wy)
  refine zq_b [zq_il 1, zq_k 3] [zq_ilchk 1, zq_kchk 3] 64 rfl (by decide +kernel) ?_
  show zq_G _ _ _ _ _ 64 ([(0, .ref 41), (1, .int 4)], [.int 3, .int 4], MH c tr tx (nI Z) td dr s im kp at_ so sr va wy)
  refine zq_if .ne 76 (¬ 4 = 3) (by decide +kernel) (zq_cne (a := 4) (b := 3) (by omega) (by omega)) (fun c64 => ?_) (fun c64 => absurd (by decide) c64)
  show zq_G _ _ _ _ _ 76 ([(0, .ref 41), (1, .int 4)], [], MH c tr tx (nI Z) td dr s im kp at_ so sr va wy)
  refine zq_b [zq_al 0, zq_get 12 3, zq_k 3, zq_iald 3 (nI L)] [zq_alchk 0, zq_getchk 12 3, zq_kchk 3, zq_is .iaload 1] 82 rfl (by decide +kernel) ?_
  refine ⟨rfl, (by omega), (by omega), ht3, ?_⟩
  show zq_G _ _ _ _ _ 82 ([(0, .ref 41), (1, .int 4)], [.int (nI L)], MH c tr tx (nI Z) td dr s im kp at_ so sr va wy)
  exact zq_iret (by decide +kernel) rfl rfl rfl
set_option maxHeartbeats 4000000 in
set_option maxRecDepth 100000 in
theorem m_ones {x : Int32}  : zq_P l mX12_ones 0 [.int x] (h) (some (.int (zon x 25))) (h) := by
  refine zq_start (by decide +kernel) rfl (Nat.le_of_ble_eq_true rfl) ?_
  show zq_G _ _ _ _ _ 0 ([(0, .int x)], [], h)
  refine zq_b [zq_k 0, zq_is1 1, zq_k 0, zq_is1 2] [zq_kchk 0, zq_is1chk 1, zq_kchk 0, zq_is1chk 2] 4 rfl (by decide +kernel) ?_
  show zq_G _ _ _ _ _ 4 ([(0, .int x), (1, .int 0), (2, .int 0)], [], h)
  refine zq_loop (fun i => ([(0, .int x), (1, .int (zon x i)), (2, .int (nI i))], [], h)) (fun i => True) (25) (0) (by omega) (trivial) (fun i hl4 hi4 hI4 ih4 => ?_) (fun hI4 => ?_)
  · show zq_G _ _ _ _ _ 4 ([(0, .int x), (1, .int (zon x i)), (2, .int (nI i))], [], h)
    refine zq_b [zq_il 2, zq_k 25] [zq_ilchk 2, zq_kchk 25] 7 rfl (by decide +kernel) ?_
    show zq_G _ _ _ _ _ 7 ([(0, .int x), (1, .int (zon x i)), (2, .int (nI i))], [.int 25, .int (nI i)], h)
    refine zq_if .ge 24 (25 ≤ i) (by decide +kernel) (zq_cge (a := i) (b := 25) (by omega) (by omega)) (fun c7 => absurd c7 (by omega)) (fun c7 => ?_)
    show zq_G _ _ _ _ _ 10 ([(0, .int x), (1, .int (zon x i)), (2, .int (nI i))], [], h)
    refine zq_b [zq_il 1, zq_il 0, zq_il 2, zq_ishr (x >>> (nI i &&& 31)), zq_k 1, zq_iand (zbit x (nI i)), zq_iadd ((zon x i) + (zbit x (nI i))), zq_is1 1, zq_inc 2 1 (nI (i + 1)), zq_go] [zq_ilchk 1, zq_ilchk 0, zq_ilchk 2, zq_is .ishr 1, zq_kchk 1, zq_is .iand 1, zq_is .iadd 1, zq_is1chk 1, zq_incchk 2 1, zq_gochk] 4 rfl (by decide +kernel) ?_
    refine ⟨rfl, rfl, rfl, nI_add i 1, ?_⟩
    show zq_G _ _ _ _ _ 4 ([(0, .int x), (1, .int ((zon x i) + (zbit x (nI i)))), (2, .int (nI (i + 1)))], [], h)
    exact ih4 trivial
  · show zq_G _ _ _ _ _ 4 ([(0, .int x), (1, .int (zon x 25)), (2, .int 25)], [], h)
    refine zq_b [zq_il 2, zq_k 25] [zq_ilchk 2, zq_kchk 25] 7 rfl (by decide +kernel) ?_
    show zq_G _ _ _ _ _ 7 ([(0, .int x), (1, .int (zon x 25)), (2, .int 25)], [.int 25, .int 25], h)
    refine zq_if .ge 24 (25 ≤ 25) (by decide +kernel) (zq_cge (a := 25) (b := 25) (by omega) (by omega)) (fun c7 => ?_) (fun c7 => absurd (by omega) c7)
    show zq_G _ _ _ _ _ 24 ([(0, .int x), (1, .int (zon x 25)), (2, .int 25)], [], h)
    refine zq_b [zq_il 1] [zq_ilchk 1] 25 rfl (by decide +kernel) ?_
    show zq_G _ _ _ _ _ 25 ([(0, .int x), (1, .int (zon x 25)), (2, .int 25)], [.int (zon x 25)], h)
    exact zq_iret (by decide +kernel) rfl rfl rfl
set_option maxHeartbeats 4000000 in
set_option maxRecDepth 100000 in
theorem m_keeps  (hs168 : s 168 = nI K) (hK : K ≤ 10) : zq_P l mX12_keeps 0 [.ref 41] (MH c tr tx ty td dr s im kp at_ so sr va wy) none (MH c tr tx ty td dr (zkp K s) im kp at_ so sr va wy) := by
  refine zq_start (by decide +kernel) rfl (Nat.le_of_ble_eq_true rfl) ?_
  show zq_G _ _ _ _ _ 0 ([(0, .ref 41)], [], MH c tr tx ty td dr s im kp at_ so sr va wy)
  have hk9 := zk9_lt K
  have h168 := zs1_168 hK hs168
  refine zq_b [zq_al 0, zq_get 12 5, zq_k 168, zq_iald 168 (nI K), zq_k 10] [zq_alchk 0, zq_getchk 12 5, zq_kchk 168, zq_is .iaload 1, zq_kchk 10] 10 rfl (by decide +kernel) ?_
  refine ⟨rfl, (by omega), (by omega), hs168, ?_⟩
  show zq_G _ _ _ _ _ 10 ([(0, .ref 41)], [.int 10, .int (nI K)], MH c tr tx ty td dr s im kp at_ so sr va wy)
  refine zq_if .ne 58 (¬ K = 10) (by decide +kernel) (zq_cne (a := K) (b := 10) (by omega) (by omega)) (fun c10 => ?_) (fun c10 => ?_)
  · show zq_G _ _ _ _ _ 58 ([(0, .ref 41)], [], MH c tr tx ty td dr s im kp at_ so sr va wy)
    refine zq_eq (σ2 := ([(0, .ref 41)], [], MH c tr tx ty td dr (zs1 K s) im kp at_ so sr va wy)) (by rw [show zs1 K s = s from by unfold zs1; rw [if_neg c10]]) ?_
    refine zq_b [zq_k 169, zq_k 168, zq_al 0, zq_get 12 5, zq_k 168, zq_iald 168 (nI (zk9 K)), zq_imul (nI (168 * (zk9 K))), zq_iadd (nI (169 + (168 * (zk9 K)))), zq_is1 1, zq_k 0, zq_is1 2] [zq_kchk 169, zq_kchk 168, zq_alchk 0, zq_getchk 12 5, zq_kchk 168, zq_is .iaload 1, zq_is .imul 1, zq_is .iadd 1, zq_is1chk 1, zq_kchk 0, zq_is1chk 2] 77 rfl (by decide +kernel) ?_
    refine ⟨rfl, (by omega), (by omega), h168, (pk_mul 168 (zk9 K)), (nI_add 169 (168 * (zk9 K))), ?_⟩
    show zq_G _ _ _ _ _ 77 ([(0, .ref 41), (1, .int (nI (169 + (168 * (zk9 K))))), (2, .int 0)], [], MH c tr tx ty td dr (zs1 K s) im kp at_ so sr va wy)
    refine zq_eq (σ2 := ([(0, .ref 41), (1, .int (nI (169 + (168 * (zk9 K))))), (2, .int (nI (0 : Nat)))], [], MH c tr tx ty td dr (va_cpy (zs1 K s) (zs1 K s) 0 (169 + 168 * zk9 K) (0 : Nat)) im kp at_ so sr va wy)) (by rw [cpy_0]; rfl) ?_
    refine zq_loop (fun k => ([(0, .ref 41), (1, .int (nI (169 + (168 * (zk9 K))))), (2, .int (nI k))], [], MH c tr tx ty td dr (va_cpy (zs1 K s) (zs1 K s) 0 (169 + 168 * zk9 K) k) im kp at_ so sr va wy)) (fun k => True) (168) (0) (by omega) (trivial) (fun k hl77 hi77 hI77 ih77 => ?_) (fun hI77 => ?_)
    · show zq_G _ _ _ _ _ 77 ([(0, .ref 41), (1, .int (nI (169 + (168 * (zk9 K))))), (2, .int (nI k))], [], MH c tr tx ty td dr (va_cpy (zs1 K s) (zs1 K s) 0 (169 + 168 * zk9 K) k) im kp at_ so sr va wy)
      refine zq_b [zq_il 2, zq_k 168] [zq_ilchk 2, zq_kchk 168] 81 rfl (by decide +kernel) ?_
      show zq_G _ _ _ _ _ 81 ([(0, .ref 41), (1, .int (nI (169 + (168 * (zk9 K))))), (2, .int (nI k))], [.int 168, .int (nI k)], MH c tr tx ty td dr (va_cpy (zs1 K s) (zs1 K s) 0 (169 + 168 * zk9 K) k) im kp at_ so sr va wy)
      refine zq_if .ge 104 (168 ≤ k) (by decide +kernel) (zq_cge (a := k) (b := 168) (by omega) (by omega)) (fun c81 => absurd c81 (by omega)) (fun c81 => ?_)
      show zq_G _ _ _ _ _ 84 ([(0, .ref 41), (1, .int (nI (169 + (168 * (zk9 K))))), (2, .int (nI k))], [], MH c tr tx ty td dr (va_cpy (zs1 K s) (zs1 K s) 0 (169 + 168 * zk9 K) k) im kp at_ so sr va wy)
      refine zq_b [zq_al 0, zq_get 12 5, zq_il 1, zq_il 2, zq_iadd (nI ((169 + (168 * (zk9 K))) + k)), zq_al 0, zq_get 12 5, zq_il 2, zq_iald k (zs1 K s (0 + k)), zq_iast ((169 + (168 * (zk9 K))) + k), zq_inc 2 1 (nI (k + 1)), zq_go] [zq_alchk 0, zq_getchk 12 5, zq_ilchk 1, zq_ilchk 2, zq_is .iadd 1, zq_alchk 0, zq_getchk 12 5, zq_ilchk 2, zq_is .iaload 1, zq_is .iastore 1, zq_incchk 2 1, zq_gochk] 77 rfl (by decide +kernel) ?_
      refine ⟨(nI_add (169 + (168 * (zk9 K))) k), rfl, (by omega), (by omega), ((pk_cpy_out (by omega)).trans (congrArg (zs1 K s) (by omega))), rfl, (by omega), (by omega), nI_add k 1, ?_⟩
      show zq_G _ _ _ _ _ 77 ([(0, .ref 41), (1, .int (nI (169 + (168 * (zk9 K))))), (2, .int (nI (k + 1)))], [], MH c tr tx ty td dr (upd (va_cpy (zs1 K s) (zs1 K s) 0 (169 + 168 * zk9 K) k) ((169 + (168 * (zk9 K))) + k) (zs1 K s (0 + k))) im kp at_ so sr va wy)
      exact zq_eq (by rw [cpy_succ]) (ih77 trivial)
    · show zq_G _ _ _ _ _ 77 ([(0, .ref 41), (1, .int (nI (169 + (168 * (zk9 K))))), (2, .int 168)], [], MH c tr tx ty td dr (va_cpy (zs1 K s) (zs1 K s) 0 (169 + 168 * zk9 K) 168) im kp at_ so sr va wy)
      refine zq_b [zq_il 2, zq_k 168] [zq_ilchk 2, zq_kchk 168] 81 rfl (by decide +kernel) ?_
      show zq_G _ _ _ _ _ 81 ([(0, .ref 41), (1, .int (nI (169 + (168 * (zk9 K))))), (2, .int 168)], [.int 168, .int 168], MH c tr tx ty td dr (va_cpy (zs1 K s) (zs1 K s) 0 (169 + 168 * zk9 K) 168) im kp at_ so sr va wy)
      refine zq_if .ge 104 (168 ≤ 168) (by decide +kernel) (zq_cge (a := 168) (b := 168) (by omega) (by omega)) (fun c81 => ?_) (fun c81 => absurd (by omega) c81)
      show zq_G _ _ _ _ _ 104 ([(0, .ref 41), (1, .int (nI (169 + (168 * (zk9 K))))), (2, .int 168)], [], MH c tr tx ty td dr (va_cpy (zs1 K s) (zs1 K s) 0 (169 + 168 * zk9 K) 168) im kp at_ so sr va wy)
      refine zq_b [zq_al 0, zq_get 12 5, zq_k 168, zq_dup2, zq_iald 168 (nI (zk9 K)), zq_k 1, zq_iadd (nI (zk9 K + 1)), zq_iast 168] [zq_alchk 0, zq_getchk 12 5, zq_kchk 168, zq_is .dup2 1, zq_is .iaload 1, zq_kchk 1, zq_is .iadd 1, zq_is .iastore 1] 116 rfl (by decide +kernel) ?_
      refine ⟨rfl, (by omega), (by omega), ((pk_cpy_out (by omega)).trans h168), (nI_add (zk9 K) 1), rfl, (by omega), (by omega), ?_⟩
      show zq_G _ _ _ _ _ 116 ([(0, .ref 41), (1, .int (nI (169 + (168 * (zk9 K))))), (2, .int 168)], [], MH c tr tx ty td dr (upd (va_cpy (zs1 K s) (zs1 K s) 0 (169 + 168 * zk9 K) 168) 168 (nI (zk9 K + 1))) im kp at_ so sr va wy)
      exact zq_vret (by decide +kernel) rfl rfl rfl
  · show zq_G _ _ _ _ _ 13 ([(0, .ref 41)], [], MH c tr tx ty td dr s im kp at_ so sr va wy)
    refine zq_b [zq_k 169, zq_is1 1] [zq_kchk 169, zq_is1chk 1] 17 rfl (by decide +kernel) ?_
    show zq_G _ _ _ _ _ 17 ([(0, .ref 41), (1, .int 169)], [], MH c tr tx ty td dr s im kp at_ so sr va wy)
    refine zq_eq (σ2 := ([(0, .ref 41), (1, .int (nI (169 + (0 : Nat))))], [], MH c tr tx ty td dr (va_cpy s s 337 169 (0 : Nat)) im kp at_ so sr va wy)) (by rw [cpy_0]; rfl) ?_
    refine zq_loop (fun i => ([(0, .ref 41), (1, .int (nI (169 + i)))], [], MH c tr tx ty td dr (va_cpy s s 337 169 i) im kp at_ so sr va wy)) (fun i => True) (1512) (0) (by omega) (trivial) (fun i hl17 hi17 hI17 ih17 => ?_) (fun hI17 => ?_)
    · show zq_G _ _ _ _ _ 17 ([(0, .ref 41), (1, .int (nI (169 + i)))], [], MH c tr tx ty td dr (va_cpy s s 337 169 i) im kp at_ so sr va wy)
      refine zq_b [zq_il 1, zq_k 1681] [zq_ilchk 1, zq_kchk 1681] 21 rfl (by decide +kernel) ?_
      show zq_G _ _ _ _ _ 21 ([(0, .ref 41), (1, .int (nI (169 + i)))], [.int 1681, .int (nI (169 + i))], MH c tr tx ty td dr (va_cpy s s 337 169 i) im kp at_ so sr va wy)
      refine zq_if .ge 46 (1681 ≤ (169 + i)) (by decide +kernel) (zq_cge (a := 169 + i) (b := 1681) (by omega) (by omega)) (fun c21 => absurd c21 (by omega)) (fun c21 => ?_)
      show zq_G _ _ _ _ _ 24 ([(0, .ref 41), (1, .int (nI (169 + i)))], [], MH c tr tx ty td dr (va_cpy s s 337 169 i) im kp at_ so sr va wy)
      refine zq_b [zq_al 0, zq_get 12 5, zq_il 1, zq_al 0, zq_get 12 5, zq_il 1, zq_k 168, zq_iadd (nI (169 + i + 168)), zq_iald (169 + i + 168) (s (337 + i)), zq_iast (169 + i), zq_inc 1 1 (nI (169 + i + 1)), zq_go] [zq_alchk 0, zq_getchk 12 5, zq_ilchk 1, zq_alchk 0, zq_getchk 12 5, zq_ilchk 1, zq_kchk 168, zq_is .iadd 1, zq_is .iaload 1, zq_is .iastore 1, zq_incchk 1 1, zq_gochk] 17 rfl (by decide +kernel) ?_
      refine ⟨(nI_add (169 + i) 168), rfl, (by omega), (by omega), ((pk_cpy_out (by omega)).trans (congrArg s (by omega))), rfl, (by omega), (by omega), nI_add (169 + i) 1, ?_⟩
      show zq_G _ _ _ _ _ 17 ([(0, .ref 41), (1, .int (nI (169 + i + 1)))], [], MH c tr tx ty td dr (upd (va_cpy s s 337 169 i) (169 + i) (s (337 + i))) im kp at_ so sr va wy)
      exact zq_eq (by rw [cpy_succ]; rfl) (ih17 trivial)
    · show zq_G _ _ _ _ _ 17 ([(0, .ref 41), (1, .int (nI (169 + 1512)))], [], MH c tr tx ty td dr (va_cpy s s 337 169 1512) im kp at_ so sr va wy)
      refine zq_b [zq_il 1, zq_k 1681] [zq_ilchk 1, zq_kchk 1681] 21 rfl (by decide +kernel) ?_
      show zq_G _ _ _ _ _ 21 ([(0, .ref 41), (1, .int (nI (169 + 1512)))], [.int 1681, .int (nI (169 + 1512))], MH c tr tx ty td dr (va_cpy s s 337 169 1512) im kp at_ so sr va wy)
      refine zq_if .ge 46 (1681 ≤ (169 + 1512)) (by decide +kernel) (zq_cge (a := 169 + 1512) (b := 1681) (by omega) (by omega)) (fun c21 => ?_) (fun c21 => absurd (by omega) c21)
      show zq_G _ _ _ _ _ 46 ([(0, .ref 41), (1, .int (nI (169 + 1512)))], [], MH c tr tx ty td dr (va_cpy s s 337 169 1512) im kp at_ so sr va wy)
      refine zq_b [zq_al 0, zq_get 12 5, zq_k 168, zq_dup2, zq_iald 168 10, zq_k 1, zq_isub 9, zq_iast 168] [zq_alchk 0, zq_getchk 12 5, zq_kchk 168, zq_is .dup2 1, zq_is .iaload 1, zq_kchk 1, zq_is .isub 1, zq_is .iastore 1] 58 rfl (by decide +kernel) ?_
      refine ⟨rfl, (by omega), (by omega), ((pk_cpy_out (by omega)).trans (hs168.trans (show nI K = nI 10 from congrArg nI (by omega)))), (by decide), rfl, (by omega), (by omega), ?_⟩
      show zq_G _ _ _ _ _ 58 ([(0, .ref 41), (1, .int (nI (169 + 1512)))], [], MH c tr tx ty td dr (upd (va_cpy s s 337 169 1512) 168 9) im kp at_ so sr va wy)
      refine zq_eq (σ2 := ([(0, .ref 41), (1, .int (nI (169 + 1512)))], [], MH c tr tx ty td dr (zs1 K s) im kp at_ so sr va wy)) (by rw [show zs1 K s = upd (va_cpy s s 337 169 1512) 168 (nI 9) from by unfold zs1; rw [if_pos (Decidable.not_not.mp c10)]]; rfl) ?_
      refine zq_b [zq_k 169, zq_k 168, zq_al 0, zq_get 12 5, zq_k 168, zq_iald 168 (nI (zk9 K)), zq_imul (nI (168 * (zk9 K))), zq_iadd (nI (169 + (168 * (zk9 K)))), zq_is1 1, zq_k 0, zq_is1 2] [zq_kchk 169, zq_kchk 168, zq_alchk 0, zq_getchk 12 5, zq_kchk 168, zq_is .iaload 1, zq_is .imul 1, zq_is .iadd 1, zq_is1chk 1, zq_kchk 0, zq_is1chk 2] 77 rfl (by decide +kernel) ?_
      refine ⟨rfl, (by omega), (by omega), h168, (pk_mul 168 (zk9 K)), (nI_add 169 (168 * (zk9 K))), ?_⟩
      show zq_G _ _ _ _ _ 77 ([(0, .ref 41), (1, .int (nI (169 + (168 * (zk9 K))))), (2, .int 0)], [], MH c tr tx ty td dr (zs1 K s) im kp at_ so sr va wy)
      refine zq_eq (σ2 := ([(0, .ref 41), (1, .int (nI (169 + (168 * (zk9 K))))), (2, .int (nI (0 : Nat)))], [], MH c tr tx ty td dr (va_cpy (zs1 K s) (zs1 K s) 0 (169 + 168 * zk9 K) (0 : Nat)) im kp at_ so sr va wy)) (by rw [cpy_0]; rfl) ?_
      refine zq_loop (fun k => ([(0, .ref 41), (1, .int (nI (169 + (168 * (zk9 K))))), (2, .int (nI k))], [], MH c tr tx ty td dr (va_cpy (zs1 K s) (zs1 K s) 0 (169 + 168 * zk9 K) k) im kp at_ so sr va wy)) (fun k => True) (168) (0) (by omega) (trivial) (fun k hl77 hi77 hI77 ih77 => ?_) (fun hI77 => ?_)
      · show zq_G _ _ _ _ _ 77 ([(0, .ref 41), (1, .int (nI (169 + (168 * (zk9 K))))), (2, .int (nI k))], [], MH c tr tx ty td dr (va_cpy (zs1 K s) (zs1 K s) 0 (169 + 168 * zk9 K) k) im kp at_ so sr va wy)
        refine zq_b [zq_il 2, zq_k 168] [zq_ilchk 2, zq_kchk 168] 81 rfl (by decide +kernel) ?_
        show zq_G _ _ _ _ _ 81 ([(0, .ref 41), (1, .int (nI (169 + (168 * (zk9 K))))), (2, .int (nI k))], [.int 168, .int (nI k)], MH c tr tx ty td dr (va_cpy (zs1 K s) (zs1 K s) 0 (169 + 168 * zk9 K) k) im kp at_ so sr va wy)
        refine zq_if .ge 104 (168 ≤ k) (by decide +kernel) (zq_cge (a := k) (b := 168) (by omega) (by omega)) (fun c81 => absurd c81 (by omega)) (fun c81 => ?_)
        show zq_G _ _ _ _ _ 84 ([(0, .ref 41), (1, .int (nI (169 + (168 * (zk9 K))))), (2, .int (nI k))], [], MH c tr tx ty td dr (va_cpy (zs1 K s) (zs1 K s) 0 (169 + 168 * zk9 K) k) im kp at_ so sr va wy)
        refine zq_b [zq_al 0, zq_get 12 5, zq_il 1, zq_il 2, zq_iadd (nI ((169 + (168 * (zk9 K))) + k)), zq_al 0, zq_get 12 5, zq_il 2, zq_iald k (zs1 K s (0 + k)), zq_iast ((169 + (168 * (zk9 K))) + k), zq_inc 2 1 (nI (k + 1)), zq_go] [zq_alchk 0, zq_getchk 12 5, zq_ilchk 1, zq_ilchk 2, zq_is .iadd 1, zq_alchk 0, zq_getchk 12 5, zq_ilchk 2, zq_is .iaload 1, zq_is .iastore 1, zq_incchk 2 1, zq_gochk] 77 rfl (by decide +kernel) ?_
        refine ⟨(nI_add (169 + (168 * (zk9 K))) k), rfl, (by omega), (by omega), ((pk_cpy_out (by omega)).trans (congrArg (zs1 K s) (by omega))), rfl, (by omega), (by omega), nI_add k 1, ?_⟩
        show zq_G _ _ _ _ _ 77 ([(0, .ref 41), (1, .int (nI (169 + (168 * (zk9 K))))), (2, .int (nI (k + 1)))], [], MH c tr tx ty td dr (upd (va_cpy (zs1 K s) (zs1 K s) 0 (169 + 168 * zk9 K) k) ((169 + (168 * (zk9 K))) + k) (zs1 K s (0 + k))) im kp at_ so sr va wy)
        exact zq_eq (by rw [cpy_succ]) (ih77 trivial)
      · show zq_G _ _ _ _ _ 77 ([(0, .ref 41), (1, .int (nI (169 + (168 * (zk9 K))))), (2, .int 168)], [], MH c tr tx ty td dr (va_cpy (zs1 K s) (zs1 K s) 0 (169 + 168 * zk9 K) 168) im kp at_ so sr va wy)
        refine zq_b [zq_il 2, zq_k 168] [zq_ilchk 2, zq_kchk 168] 81 rfl (by decide +kernel) ?_
        show zq_G _ _ _ _ _ 81 ([(0, .ref 41), (1, .int (nI (169 + (168 * (zk9 K))))), (2, .int 168)], [.int 168, .int 168], MH c tr tx ty td dr (va_cpy (zs1 K s) (zs1 K s) 0 (169 + 168 * zk9 K) 168) im kp at_ so sr va wy)
        refine zq_if .ge 104 (168 ≤ 168) (by decide +kernel) (zq_cge (a := 168) (b := 168) (by omega) (by omega)) (fun c81 => ?_) (fun c81 => absurd (by omega) c81)
        show zq_G _ _ _ _ _ 104 ([(0, .ref 41), (1, .int (nI (169 + (168 * (zk9 K))))), (2, .int 168)], [], MH c tr tx ty td dr (va_cpy (zs1 K s) (zs1 K s) 0 (169 + 168 * zk9 K) 168) im kp at_ so sr va wy)
        refine zq_b [zq_al 0, zq_get 12 5, zq_k 168, zq_dup2, zq_iald 168 (nI (zk9 K)), zq_k 1, zq_iadd (nI (zk9 K + 1)), zq_iast 168] [zq_alchk 0, zq_getchk 12 5, zq_kchk 168, zq_is .dup2 1, zq_is .iaload 1, zq_kchk 1, zq_is .iadd 1, zq_is .iastore 1] 116 rfl (by decide +kernel) ?_
        refine ⟨rfl, (by omega), (by omega), ((pk_cpy_out (by omega)).trans h168), (nI_add (zk9 K) 1), rfl, (by omega), (by omega), ?_⟩
        show zq_G _ _ _ _ _ 116 ([(0, .ref 41), (1, .int (nI (169 + (168 * (zk9 K))))), (2, .int 168)], [], MH c tr tx ty td dr (upd (va_cpy (zs1 K s) (zs1 K s) 0 (169 + 168 * zk9 K) 168) 168 (nI (zk9 K + 1))) im kp at_ so sr va wy)
        exact zq_vret (by decide +kernel) rfl rfl rfl
set_option maxHeartbeats 4000000 in
set_option maxRecDepth 100000 in
theorem m_walk_bad {x : Int32} {y : Int32} (ht0 : td 0 = nI P) (hP : P ≤ 6) (hb : ¬ (0 ≤ x.toInt ∧ x.toInt < (P : Int) ∧ 0 ≤ y.toInt ∧ y.toInt ≤ 25)) : zq_P l mX12_walk 2 [.ref 41, .int x, .int y] (MH c tr tx (nI Z) td dr s im kp at_ so sr va wy) (some (.int (-1))) (MH c tr tx (nI Z) td dr s im kp at_ so sr va wy) := by
  refine zq_start (by decide +kernel) rfl (Nat.le_of_ble_eq_true rfl) ?_
  show zq_G _ _ _ _ _ 0 ([(0, .ref 41), (1, .int x), (2, .int y)], [], MH c tr tx (nI Z) td dr s im kp at_ so sr va wy)
  refine zq_b [zq_al 0, zq_il 1] [zq_alchk 0, zq_ilchk 1] 2 rfl (by decide +kernel) ?_
  show zq_G _ _ _ _ _ 2 ([(0, .ref 41), (1, .int x), (2, .int y)], [.int x, .ref 41], MH c tr tx (nI Z) td dr s im kp at_ so sr va wy)
  refine zq_callV (av := [.int x]) (rest := []) (by decide +kernel) k12_100 (m_isPerson (p := x) ht0 hP) rfl rfl rfl rfl ?_
  show zq_G _ _ _ _ _ 5 ([(0, .ref 41), (1, .int x), (2, .int y)], [.int (zb (0 ≤ x.toInt ∧ x.toInt < (P : Int)))], MH c tr tx (nI Z) td dr s im kp at_ so sr va wy)
  refine zq_ifz .eq 18 (¬ (0 ≤ x.toInt ∧ x.toInt < (P : Int))) (by decide +kernel) (zb_eq _) (fun c5 => ?_) (fun c5 => ?_)
  · show zq_G _ _ _ _ _ 18 ([(0, .ref 41), (1, .int x), (2, .int y)], [], MH c tr tx (nI Z) td dr s im kp at_ so sr va wy)
    refine zq_b [zq_k (-1)] [zq_kchk (-1)] 19 rfl (by decide +kernel) ?_
    show zq_G _ _ _ _ _ 19 ([(0, .ref 41), (1, .int x), (2, .int y)], [.int (-1)], MH c tr tx (nI Z) td dr s im kp at_ so sr va wy)
    exact zq_iret (by decide +kernel) rfl rfl rfl
  · show zq_G _ _ _ _ _ 8 ([(0, .ref 41), (1, .int x), (2, .int y)], [], MH c tr tx (nI Z) td dr s im kp at_ so sr va wy)
    refine zq_b [zq_il 2, zq_k 0, zq_k 25] [zq_ilchk 2, zq_kchk 0, zq_kchk 25] 12 rfl (by decide +kernel) ?_
    show zq_G _ _ _ _ _ 12 ([(0, .ref 41), (1, .int x), (2, .int y)], [.int 25, .int 0, .int y], MH c tr tx (nI Z) td dr s im kp at_ so sr va wy)
    refine zq_callS (av := [.int y, .int 0, .int 25]) (rest := []) (by decide +kernel) k12_39 (m_in (x := y) (lo := 0) (hi := 25) (by omega) (by omega)) rfl rfl ?_
    show zq_G _ _ _ _ _ 15 ([(0, .ref 41), (1, .int x), (2, .int y)], [.int (zb ((0 : Int) ≤ y.toInt ∧ y.toInt ≤ (25 : Int)))], MH c tr tx (nI Z) td dr s im kp at_ so sr va wy)
    refine zq_ifz .ne 20 ((0 : Int) ≤ y.toInt ∧ y.toInt ≤ (25 : Int)) (by decide +kernel) (zb_ne _) (fun c15 => ?_) (fun c15 => ?_)
    · show zq_G _ _ _ _ _ 20 ([(0, .ref 41), (1, .int x), (2, .int y)], [], MH c tr tx (nI Z) td dr s im kp at_ so sr va wy)
      exact absurd hb (by omega)
    · show zq_G _ _ _ _ _ 18 ([(0, .ref 41), (1, .int x), (2, .int y)], [], MH c tr tx (nI Z) td dr s im kp at_ so sr va wy)
      refine zq_b [zq_k (-1)] [zq_kchk (-1)] 19 rfl (by decide +kernel) ?_
      show zq_G _ _ _ _ _ 19 ([(0, .ref 41), (1, .int x), (2, .int y)], [.int (-1)], MH c tr tx (nI Z) td dr s im kp at_ so sr va wy)
      exact zq_iret (by decide +kernel) rfl rfl rfl
set_option maxHeartbeats 4000000 in
set_option maxRecDepth 100000 in
theorem m_walk_st {a : Nat} {q : Nat} (ht0 : td 0 = nI P) (hP : P ≤ 6) (hce : ∀ j, j < P → s (3 + j) = nI (cn j) ∧ cn j ≤ 26) (ha : a < P) (hcc : q ≤ 25) (hb : cn a = q ∨ cn a = 26) : zq_P l mX12_walk 2 [.ref 41, .int (nI a), .int (nI q)] (MH c tr tx (nI Z) td dr s im kp at_ so sr va wy) (some (.int (-2))) (MH c tr tx (nI Z) td dr s im kp at_ so sr va wy) := by
  refine zq_start (by decide +kernel) rfl (Nat.le_of_ble_eq_true rfl) ?_
  show zq_G _ _ _ _ _ 0 ([(0, .ref 41), (1, .int (nI a)), (2, .int (nI q))], [], MH c tr tx (nI Z) td dr s im kp at_ so sr va wy)
  have hca := (hce a ha).2
  refine zq_b [zq_al 0, zq_il 1] [zq_alchk 0, zq_ilchk 1] 2 rfl (by decide +kernel) ?_
  show zq_G _ _ _ _ _ 2 ([(0, .ref 41), (1, .int (nI a)), (2, .int (nI q))], [.int (nI a), .ref 41], MH c tr tx (nI Z) td dr s im kp at_ so sr va wy)
  refine zq_callV (av := [.int (nI a)]) (rest := []) (by decide +kernel) k12_100 (m_isPersonN (p := a) ht0 hP (by omega)) rfl rfl rfl rfl ?_
  show zq_G _ _ _ _ _ 5 ([(0, .ref 41), (1, .int (nI a)), (2, .int (nI q))], [.int (zb (a < P))], MH c tr tx (nI Z) td dr s im kp at_ so sr va wy)
  refine zq_ifz .eq 18 (¬ (a < P)) (by decide +kernel) (zb_eq _) (fun c5 => absurd c5 (by omega)) (fun c5 => ?_)
  show zq_G _ _ _ _ _ 8 ([(0, .ref 41), (1, .int (nI a)), (2, .int (nI q))], [], MH c tr tx (nI Z) td dr s im kp at_ so sr va wy)
  refine zq_b [zq_il 2, zq_k 0, zq_k 25] [zq_ilchk 2, zq_kchk 0, zq_kchk 25] 12 rfl (by decide +kernel) ?_
  show zq_G _ _ _ _ _ 12 ([(0, .ref 41), (1, .int (nI a)), (2, .int (nI q))], [.int 25, .int 0, .int (nI q)], MH c tr tx (nI Z) td dr s im kp at_ so sr va wy)
  refine zq_callS (av := [.int (nI q), .int 0, .int 25]) (rest := []) (by decide +kernel) k12_39 (m_inN (x := q) (lo := 0) (hi := 25) (by omega) (by omega) (by omega)) rfl rfl ?_
  show zq_G _ _ _ _ _ 15 ([(0, .ref 41), (1, .int (nI a)), (2, .int (nI q))], [.int (zb (0 ≤ q ∧ q ≤ 25))], MH c tr tx (nI Z) td dr s im kp at_ so sr va wy)
  refine zq_ifz .ne 20 (0 ≤ q ∧ q ≤ 25) (by decide +kernel) (zb_ne _) (fun c15 => ?_) (fun c15 => absurd (by omega) c15)
  show zq_G _ _ _ _ _ 20 ([(0, .ref 41), (1, .int (nI a)), (2, .int (nI q))], [], MH c tr tx (nI Z) td dr s im kp at_ so sr va wy)
  refine zq_b [zq_al 0, zq_get 12 5, zq_k 3, zq_il 1, zq_iadd (nI (3 + a)), zq_iald (3 + a) (nI (cn a)), zq_is1 3, zq_il 3, zq_il 2] [zq_alchk 0, zq_getchk 12 5, zq_kchk 3, zq_ilchk 1, zq_is .iadd 1, zq_is .iaload 1, zq_is1chk 3, zq_ilchk 3, zq_ilchk 2] 31 rfl (by decide +kernel) ?_
  refine ⟨(nI_add 3 a), rfl, (by omega), (by omega), (hce _ (by omega)).1, ?_⟩
  show zq_G _ _ _ _ _ 31 ([(0, .ref 41), (1, .int (nI a)), (2, .int (nI q)), (3, .int (nI (cn a)))], [.int (nI q), .int (nI (cn a))], MH c tr tx (nI Z) td dr s im kp at_ so sr va wy)
  refine zq_if .eq 40 ((cn a) = q) (by decide +kernel) (zq_ceq (a := cn a) (b := q) (by omega) (by omega)) (fun c31 => ?_) (fun c31 => ?_)
  · show zq_G _ _ _ _ _ 40 ([(0, .ref 41), (1, .int (nI a)), (2, .int (nI q)), (3, .int (nI (cn a)))], [], MH c tr tx (nI Z) td dr s im kp at_ so sr va wy)
    refine zq_b [zq_k (-2)] [zq_kchk (-2)] 42 rfl (by decide +kernel) ?_
    show zq_G _ _ _ _ _ 42 ([(0, .ref 41), (1, .int (nI a)), (2, .int (nI q)), (3, .int (nI (cn a)))], [.int (-2)], MH c tr tx (nI Z) td dr s im kp at_ so sr va wy)
    exact zq_iret (by decide +kernel) rfl rfl rfl
  · show zq_G _ _ _ _ _ 34 ([(0, .ref 41), (1, .int (nI a)), (2, .int (nI q)), (3, .int (nI (cn a)))], [], MH c tr tx (nI Z) td dr s im kp at_ so sr va wy)
    refine zq_b [zq_il 3, zq_k 26] [zq_ilchk 3, zq_kchk 26] 37 rfl (by decide +kernel) ?_
    show zq_G _ _ _ _ _ 37 ([(0, .ref 41), (1, .int (nI a)), (2, .int (nI q)), (3, .int (nI (cn a)))], [.int 26, .int (nI (cn a))], MH c tr tx (nI Z) td dr s im kp at_ so sr va wy)
    refine zq_if .ne 43 (¬ (cn a) = 26) (by decide +kernel) (zq_cne (a := cn a) (b := 26) (by omega) (by omega)) (fun c37 => ?_) (fun c37 => ?_)
    · show zq_G _ _ _ _ _ 43 ([(0, .ref 41), (1, .int (nI a)), (2, .int (nI q)), (3, .int (nI (cn a)))], [], MH c tr tx (nI Z) td dr s im kp at_ so sr va wy)
      exact absurd hb (by omega)
    · show zq_G _ _ _ _ _ 40 ([(0, .ref 41), (1, .int (nI a)), (2, .int (nI q)), (3, .int (nI (cn a)))], [], MH c tr tx (nI Z) td dr s im kp at_ so sr va wy)
      refine zq_b [zq_k (-2)] [zq_kchk (-2)] 42 rfl (by decide +kernel) ?_
      show zq_G _ _ _ _ _ 42 ([(0, .ref 41), (1, .int (nI a)), (2, .int (nI q)), (3, .int (nI (cn a)))], [.int (-2)], MH c tr tx (nI Z) td dr s im kp at_ so sr va wy)
      exact zq_iret (by decide +kernel) rfl rfl rfl
set_option maxHeartbeats 4000000 in
set_option maxRecDepth 100000 in
theorem m_walk {a : Nat} {q : Nat} (ht0 : td 0 = nI P) (hs168 : s 168 = nI K) (hP : P ≤ 6) (hK : K ≤ 10) (hce : ∀ j, j < P → s (3 + j) = nI (cn j) ∧ cn j ≤ 26) (ha : a < P) (hcc : q ≤ 25) (hb : ¬ cn a = q ∧ ¬ cn a = 26) : zq_P l mX12_walk 2 [.ref 41, .int (nI a), .int (nI q)] (MH c tr tx (nI Z) td dr s im kp at_ so sr va wy) (some (.int (nI (cn a)))) (MH c tr tx (nI Z) td dr (upd (zkp K s) (3 + a) (nI q)) im kp at_ so sr va wy) := by
  refine zq_start (by decide +kernel) rfl (Nat.le_of_ble_eq_true rfl) ?_
  show zq_G _ _ _ _ _ 0 ([(0, .ref 41), (1, .int (nI a)), (2, .int (nI q))], [], MH c tr tx (nI Z) td dr s im kp at_ so sr va wy)
  have hca := (hce a ha).2
  refine zq_b [zq_al 0, zq_il 1] [zq_alchk 0, zq_ilchk 1] 2 rfl (by decide +kernel) ?_
  show zq_G _ _ _ _ _ 2 ([(0, .ref 41), (1, .int (nI a)), (2, .int (nI q))], [.int (nI a), .ref 41], MH c tr tx (nI Z) td dr s im kp at_ so sr va wy)
  refine zq_callV (av := [.int (nI a)]) (rest := []) (by decide +kernel) k12_100 (m_isPersonN (p := a) ht0 hP (by omega)) rfl rfl rfl rfl ?_
  show zq_G _ _ _ _ _ 5 ([(0, .ref 41), (1, .int (nI a)), (2, .int (nI q))], [.int (zb (a < P))], MH c tr tx (nI Z) td dr s im kp at_ so sr va wy)
  refine zq_ifz .eq 18 (¬ (a < P)) (by decide +kernel) (zb_eq _) (fun c5 => absurd c5 (by omega)) (fun c5 => ?_)
  show zq_G _ _ _ _ _ 8 ([(0, .ref 41), (1, .int (nI a)), (2, .int (nI q))], [], MH c tr tx (nI Z) td dr s im kp at_ so sr va wy)
  refine zq_b [zq_il 2, zq_k 0, zq_k 25] [zq_ilchk 2, zq_kchk 0, zq_kchk 25] 12 rfl (by decide +kernel) ?_
  show zq_G _ _ _ _ _ 12 ([(0, .ref 41), (1, .int (nI a)), (2, .int (nI q))], [.int 25, .int 0, .int (nI q)], MH c tr tx (nI Z) td dr s im kp at_ so sr va wy)
  refine zq_callS (av := [.int (nI q), .int 0, .int 25]) (rest := []) (by decide +kernel) k12_39 (m_inN (x := q) (lo := 0) (hi := 25) (by omega) (by omega) (by omega)) rfl rfl ?_
  show zq_G _ _ _ _ _ 15 ([(0, .ref 41), (1, .int (nI a)), (2, .int (nI q))], [.int (zb (0 ≤ q ∧ q ≤ 25))], MH c tr tx (nI Z) td dr s im kp at_ so sr va wy)
  refine zq_ifz .ne 20 (0 ≤ q ∧ q ≤ 25) (by decide +kernel) (zb_ne _) (fun c15 => ?_) (fun c15 => absurd (by omega) c15)
  show zq_G _ _ _ _ _ 20 ([(0, .ref 41), (1, .int (nI a)), (2, .int (nI q))], [], MH c tr tx (nI Z) td dr s im kp at_ so sr va wy)
  refine zq_b [zq_al 0, zq_get 12 5, zq_k 3, zq_il 1, zq_iadd (nI (3 + a)), zq_iald (3 + a) (nI (cn a)), zq_is1 3, zq_il 3, zq_il 2] [zq_alchk 0, zq_getchk 12 5, zq_kchk 3, zq_ilchk 1, zq_is .iadd 1, zq_is .iaload 1, zq_is1chk 3, zq_ilchk 3, zq_ilchk 2] 31 rfl (by decide +kernel) ?_
  refine ⟨(nI_add 3 a), rfl, (by omega), (by omega), (hce _ (by omega)).1, ?_⟩
  show zq_G _ _ _ _ _ 31 ([(0, .ref 41), (1, .int (nI a)), (2, .int (nI q)), (3, .int (nI (cn a)))], [.int (nI q), .int (nI (cn a))], MH c tr tx (nI Z) td dr s im kp at_ so sr va wy)
  refine zq_if .eq 40 ((cn a) = q) (by decide +kernel) (zq_ceq (a := cn a) (b := q) (by omega) (by omega)) (fun c31 => absurd c31 (by omega)) (fun c31 => ?_)
  show zq_G _ _ _ _ _ 34 ([(0, .ref 41), (1, .int (nI a)), (2, .int (nI q)), (3, .int (nI (cn a)))], [], MH c tr tx (nI Z) td dr s im kp at_ so sr va wy)
  refine zq_b [zq_il 3, zq_k 26] [zq_ilchk 3, zq_kchk 26] 37 rfl (by decide +kernel) ?_
  show zq_G _ _ _ _ _ 37 ([(0, .ref 41), (1, .int (nI a)), (2, .int (nI q)), (3, .int (nI (cn a)))], [.int 26, .int (nI (cn a))], MH c tr tx (nI Z) td dr s im kp at_ so sr va wy)
  refine zq_if .ne 43 (¬ (cn a) = 26) (by decide +kernel) (zq_cne (a := cn a) (b := 26) (by omega) (by omega)) (fun c37 => ?_) (fun c37 => absurd (by omega) c37)
  show zq_G _ _ _ _ _ 43 ([(0, .ref 41), (1, .int (nI a)), (2, .int (nI q)), (3, .int (nI (cn a)))], [], MH c tr tx (nI Z) td dr s im kp at_ so sr va wy)
  refine zq_b [zq_al 0] [zq_alchk 0] 44 rfl (by decide +kernel) ?_
  show zq_G _ _ _ _ _ 44 ([(0, .ref 41), (1, .int (nI a)), (2, .int (nI q)), (3, .int (nI (cn a)))], [.ref 41], MH c tr tx (nI Z) td dr s im kp at_ so sr va wy)
  refine zq_callV (av := []) (rest := []) (by decide +kernel) k12_107 (m_keeps hs168 hK) rfl rfl rfl rfl ?_
  show zq_G _ _ _ _ _ 47 ([(0, .ref 41), (1, .int (nI a)), (2, .int (nI q)), (3, .int (nI (cn a)))], [], MH c tr tx (nI Z) td dr (zkp K s) im kp at_ so sr va wy)
  refine zq_b [zq_al 0, zq_get 12 5, zq_k 3, zq_il 1, zq_iadd (nI (3 + a)), zq_il 2, zq_iast (3 + a), zq_il 3] [zq_alchk 0, zq_getchk 12 5, zq_kchk 3, zq_ilchk 1, zq_is .iadd 1, zq_ilchk 2, zq_is .iastore 1, zq_ilchk 3] 57 rfl (by decide +kernel) ?_
  refine ⟨(nI_add 3 a), rfl, (by omega), (by omega), ?_⟩
  show zq_G _ _ _ _ _ 57 ([(0, .ref 41), (1, .int (nI a)), (2, .int (nI q)), (3, .int (nI (cn a)))], [.int (nI (cn a))], MH c tr tx (nI Z) td dr (upd (zkp K s) (3 + a) (nI q)) im kp at_ so sr va wy)
  exact zq_iret (by decide +kernel) rfl rfl rfl
set_option maxHeartbeats 4000000 in
set_option maxRecDepth 100000 in
theorem m_die_bad {x : Int32} (ht0 : td 0 = nI P) (hP : P ≤ 6) (hb : ¬ (0 ≤ x.toInt ∧ x.toInt < (P : Int))) : zq_P l mX12_die 2 [.ref 41, .int x] (MH c tr tx (nI Z) td dr s im kp at_ so sr va wy) (some (.int (-1))) (MH c tr tx (nI Z) td dr s im kp at_ so sr va wy) := by
  refine zq_start (by decide +kernel) rfl (Nat.le_of_ble_eq_true rfl) ?_
  show zq_G _ _ _ _ _ 0 ([(0, .ref 41), (1, .int x)], [], MH c tr tx (nI Z) td dr s im kp at_ so sr va wy)
  refine zq_b [zq_al 0, zq_il 1] [zq_alchk 0, zq_ilchk 1] 2 rfl (by decide +kernel) ?_
  show zq_G _ _ _ _ _ 2 ([(0, .ref 41), (1, .int x)], [.int x, .ref 41], MH c tr tx (nI Z) td dr s im kp at_ so sr va wy)
  refine zq_callV (av := [.int x]) (rest := []) (by decide +kernel) k12_100 (m_isPerson (p := x) ht0 hP) rfl rfl rfl rfl ?_
  show zq_G _ _ _ _ _ 5 ([(0, .ref 41), (1, .int x)], [.int (zb (0 ≤ x.toInt ∧ x.toInt < (P : Int)))], MH c tr tx (nI Z) td dr s im kp at_ so sr va wy)
  refine zq_ifz .ne 10 (0 ≤ x.toInt ∧ x.toInt < (P : Int)) (by decide +kernel) (zb_ne _) (fun c5 => ?_) (fun c5 => ?_)
  · show zq_G _ _ _ _ _ 10 ([(0, .ref 41), (1, .int x)], [], MH c tr tx (nI Z) td dr s im kp at_ so sr va wy)
    exact absurd hb (by omega)
  · show zq_G _ _ _ _ _ 8 ([(0, .ref 41), (1, .int x)], [], MH c tr tx (nI Z) td dr s im kp at_ so sr va wy)
    refine zq_b [zq_k (-1)] [zq_kchk (-1)] 9 rfl (by decide +kernel) ?_
    show zq_G _ _ _ _ _ 9 ([(0, .ref 41), (1, .int x)], [.int (-1)], MH c tr tx (nI Z) td dr s im kp at_ so sr va wy)
    exact zq_iret (by decide +kernel) rfl rfl rfl
set_option maxHeartbeats 4000000 in
set_option maxRecDepth 100000 in
theorem m_die_st {a : Nat} (ht0 : td 0 = nI P) (hP : P ≤ 6) (hce : ∀ j, j < P → s (3 + j) = nI (cn j) ∧ cn j ≤ 26) (ha : a < P) (hb : cn a = 26) : zq_P l mX12_die 2 [.ref 41, .int (nI a)] (MH c tr tx (nI Z) td dr s im kp at_ so sr va wy) (some (.int (-2))) (MH c tr tx (nI Z) td dr s im kp at_ so sr va wy) := by
  refine zq_start (by decide +kernel) rfl (Nat.le_of_ble_eq_true rfl) ?_
  show zq_G _ _ _ _ _ 0 ([(0, .ref 41), (1, .int (nI a))], [], MH c tr tx (nI Z) td dr s im kp at_ so sr va wy)
  have hca := (hce a ha).2
  refine zq_b [zq_al 0, zq_il 1] [zq_alchk 0, zq_ilchk 1] 2 rfl (by decide +kernel) ?_
  show zq_G _ _ _ _ _ 2 ([(0, .ref 41), (1, .int (nI a))], [.int (nI a), .ref 41], MH c tr tx (nI Z) td dr s im kp at_ so sr va wy)
  refine zq_callV (av := [.int (nI a)]) (rest := []) (by decide +kernel) k12_100 (m_isPersonN (p := a) ht0 hP (by omega)) rfl rfl rfl rfl ?_
  show zq_G _ _ _ _ _ 5 ([(0, .ref 41), (1, .int (nI a))], [.int (zb (a < P))], MH c tr tx (nI Z) td dr s im kp at_ so sr va wy)
  refine zq_ifz .ne 10 (a < P) (by decide +kernel) (zb_ne _) (fun c5 => ?_) (fun c5 => absurd (by omega) c5)
  show zq_G _ _ _ _ _ 10 ([(0, .ref 41), (1, .int (nI a))], [], MH c tr tx (nI Z) td dr s im kp at_ so sr va wy)
  refine zq_b [zq_al 0, zq_get 12 5, zq_k 3, zq_il 1, zq_iadd (nI (3 + a)), zq_iald (3 + a) (nI (cn a)), zq_is1 2, zq_il 2, zq_k 26] [zq_alchk 0, zq_getchk 12 5, zq_kchk 3, zq_ilchk 1, zq_is .iadd 1, zq_is .iaload 1, zq_is1chk 2, zq_ilchk 2, zq_kchk 26] 22 rfl (by decide +kernel) ?_
  refine ⟨(nI_add 3 a), rfl, (by omega), (by omega), (hce _ (by omega)).1, ?_⟩
  show zq_G _ _ _ _ _ 22 ([(0, .ref 41), (1, .int (nI a)), (2, .int (nI (cn a)))], [.int 26, .int (nI (cn a))], MH c tr tx (nI Z) td dr s im kp at_ so sr va wy)
  refine zq_if .ne 28 (¬ (cn a) = 26) (by decide +kernel) (zq_cne (a := cn a) (b := 26) (by omega) (by omega)) (fun c22 => absurd c22 (by omega)) (fun c22 => ?_)
  show zq_G _ _ _ _ _ 25 ([(0, .ref 41), (1, .int (nI a)), (2, .int (nI (cn a)))], [], MH c tr tx (nI Z) td dr s im kp at_ so sr va wy)
  refine zq_b [zq_k (-2)] [zq_kchk (-2)] 27 rfl (by decide +kernel) ?_
  show zq_G _ _ _ _ _ 27 ([(0, .ref 41), (1, .int (nI a)), (2, .int (nI (cn a)))], [.int (-2)], MH c tr tx (nI Z) td dr s im kp at_ so sr va wy)
  exact zq_iret (by decide +kernel) rfl rfl rfl
set_option maxHeartbeats 4000000 in
set_option maxRecDepth 100000 in
theorem m_die {a : Nat} (ht0 : td 0 = nI P) (hs168 : s 168 = nI K) (hP : P ≤ 6) (hK : K ≤ 10) (hce : ∀ j, j < P → s (3 + j) = nI (cn j) ∧ cn j ≤ 26) (ha : a < P) (hb : ¬ cn a = 26) : zq_P l mX12_die 2 [.ref 41, .int (nI a)] (MH c tr tx (nI Z) td dr s im kp at_ so sr va wy) (some (.int (nI (cn a)))) (MH c tr tx (nI Z) td dr (upd (zkp K s) (3 + a) 26) im kp at_ so sr va wy) := by
  refine zq_start (by decide +kernel) rfl (Nat.le_of_ble_eq_true rfl) ?_
  show zq_G _ _ _ _ _ 0 ([(0, .ref 41), (1, .int (nI a))], [], MH c tr tx (nI Z) td dr s im kp at_ so sr va wy)
  have hca := (hce a ha).2
  refine zq_b [zq_al 0, zq_il 1] [zq_alchk 0, zq_ilchk 1] 2 rfl (by decide +kernel) ?_
  show zq_G _ _ _ _ _ 2 ([(0, .ref 41), (1, .int (nI a))], [.int (nI a), .ref 41], MH c tr tx (nI Z) td dr s im kp at_ so sr va wy)
  refine zq_callV (av := [.int (nI a)]) (rest := []) (by decide +kernel) k12_100 (m_isPersonN (p := a) ht0 hP (by omega)) rfl rfl rfl rfl ?_
  show zq_G _ _ _ _ _ 5 ([(0, .ref 41), (1, .int (nI a))], [.int (zb (a < P))], MH c tr tx (nI Z) td dr s im kp at_ so sr va wy)
  refine zq_ifz .ne 10 (a < P) (by decide +kernel) (zb_ne _) (fun c5 => ?_) (fun c5 => absurd (by omega) c5)
  show zq_G _ _ _ _ _ 10 ([(0, .ref 41), (1, .int (nI a))], [], MH c tr tx (nI Z) td dr s im kp at_ so sr va wy)
  refine zq_b [zq_al 0, zq_get 12 5, zq_k 3, zq_il 1, zq_iadd (nI (3 + a)), zq_iald (3 + a) (nI (cn a)), zq_is1 2, zq_il 2, zq_k 26] [zq_alchk 0, zq_getchk 12 5, zq_kchk 3, zq_ilchk 1, zq_is .iadd 1, zq_is .iaload 1, zq_is1chk 2, zq_ilchk 2, zq_kchk 26] 22 rfl (by decide +kernel) ?_
  refine ⟨(nI_add 3 a), rfl, (by omega), (by omega), (hce _ (by omega)).1, ?_⟩
  show zq_G _ _ _ _ _ 22 ([(0, .ref 41), (1, .int (nI a)), (2, .int (nI (cn a)))], [.int 26, .int (nI (cn a))], MH c tr tx (nI Z) td dr s im kp at_ so sr va wy)
  refine zq_if .ne 28 (¬ (cn a) = 26) (by decide +kernel) (zq_cne (a := cn a) (b := 26) (by omega) (by omega)) (fun c22 => ?_) (fun c22 => absurd (by omega) c22)
  show zq_G _ _ _ _ _ 28 ([(0, .ref 41), (1, .int (nI a)), (2, .int (nI (cn a)))], [], MH c tr tx (nI Z) td dr s im kp at_ so sr va wy)
  refine zq_b [zq_al 0] [zq_alchk 0] 29 rfl (by decide +kernel) ?_
  show zq_G _ _ _ _ _ 29 ([(0, .ref 41), (1, .int (nI a)), (2, .int (nI (cn a)))], [.ref 41], MH c tr tx (nI Z) td dr s im kp at_ so sr va wy)
  refine zq_callV (av := []) (rest := []) (by decide +kernel) k12_107 (m_keeps hs168 hK) rfl rfl rfl rfl ?_
  show zq_G _ _ _ _ _ 32 ([(0, .ref 41), (1, .int (nI a)), (2, .int (nI (cn a)))], [], MH c tr tx (nI Z) td dr (zkp K s) im kp at_ so sr va wy)
  refine zq_b [zq_al 0, zq_get 12 5, zq_k 3, zq_il 1, zq_iadd (nI (3 + a)), zq_k 26, zq_iast (3 + a), zq_il 2] [zq_alchk 0, zq_getchk 12 5, zq_kchk 3, zq_ilchk 1, zq_is .iadd 1, zq_kchk 26, zq_is .iastore 1, zq_ilchk 2] 43 rfl (by decide +kernel) ?_
  refine ⟨(nI_add 3 a), rfl, (by omega), (by omega), ?_⟩
  show zq_G _ _ _ _ _ 43 ([(0, .ref 41), (1, .int (nI a)), (2, .int (nI (cn a)))], [.int (nI (cn a))], MH c tr tx (nI Z) td dr (upd (zkp K s) (3 + a) 26) im kp at_ so sr va wy)
  exact zq_iret (by decide +kernel) rfl rfl rfl
set_option maxHeartbeats 4000000 in
set_option maxRecDepth 100000 in
theorem m_smoke_bad {x : Int32} {y : Int32} (hb : ¬ (0 ≤ x.toInt ∧ x.toInt < 25 ∧ 0 ≤ y.toInt ∧ y.toInt ≤ 1)) : zq_P l mX12_smoke 2 [.ref 41, .int x, .int y] (MH c tr tx (nI Z) td dr s im kp at_ so sr va wy) (some (.int (-1))) (MH c tr tx (nI Z) td dr s im kp at_ so sr va wy) := by
  refine zq_start (by decide +kernel) rfl (Nat.le_of_ble_eq_true rfl) ?_
  show zq_G _ _ _ _ _ 0 ([(0, .ref 41), (1, .int x), (2, .int y)], [], MH c tr tx (nI Z) td dr s im kp at_ so sr va wy)
  refine zq_b [zq_il 1, zq_k 0, zq_k 24] [zq_ilchk 1, zq_kchk 0, zq_kchk 24] 4 rfl (by decide +kernel) ?_
  show zq_G _ _ _ _ _ 4 ([(0, .ref 41), (1, .int x), (2, .int y)], [.int 24, .int 0, .int x], MH c tr tx (nI Z) td dr s im kp at_ so sr va wy)
  refine zq_callS (av := [.int x, .int 0, .int 24]) (rest := []) (by decide +kernel) k12_39 (m_in (x := x) (lo := 0) (hi := 24) (by omega) (by omega)) rfl rfl ?_
  show zq_G _ _ _ _ _ 7 ([(0, .ref 41), (1, .int x), (2, .int y)], [.int (zb ((0 : Int) ≤ x.toInt ∧ x.toInt ≤ (24 : Int)))], MH c tr tx (nI Z) td dr s im kp at_ so sr va wy)
  refine zq_ifz .eq 19 (¬ ((0 : Int) ≤ x.toInt ∧ x.toInt ≤ (24 : Int))) (by decide +kernel) (zb_eq _) (fun c7 => ?_) (fun c7 => ?_)
  · show zq_G _ _ _ _ _ 19 ([(0, .ref 41), (1, .int x), (2, .int y)], [], MH c tr tx (nI Z) td dr s im kp at_ so sr va wy)
    refine zq_b [zq_k (-1)] [zq_kchk (-1)] 20 rfl (by decide +kernel) ?_
    show zq_G _ _ _ _ _ 20 ([(0, .ref 41), (1, .int x), (2, .int y)], [.int (-1)], MH c tr tx (nI Z) td dr s im kp at_ so sr va wy)
    exact zq_iret (by decide +kernel) rfl rfl rfl
  · show zq_G _ _ _ _ _ 10 ([(0, .ref 41), (1, .int x), (2, .int y)], [], MH c tr tx (nI Z) td dr s im kp at_ so sr va wy)
    refine zq_b [zq_il 2, zq_k 0, zq_k 1] [zq_ilchk 2, zq_kchk 0, zq_kchk 1] 13 rfl (by decide +kernel) ?_
    show zq_G _ _ _ _ _ 13 ([(0, .ref 41), (1, .int x), (2, .int y)], [.int 1, .int 0, .int y], MH c tr tx (nI Z) td dr s im kp at_ so sr va wy)
    refine zq_callS (av := [.int y, .int 0, .int 1]) (rest := []) (by decide +kernel) k12_39 (m_in (x := y) (lo := 0) (hi := 1) (by omega) (by omega)) rfl rfl ?_
    show zq_G _ _ _ _ _ 16 ([(0, .ref 41), (1, .int x), (2, .int y)], [.int (zb ((0 : Int) ≤ y.toInt ∧ y.toInt ≤ (1 : Int)))], MH c tr tx (nI Z) td dr s im kp at_ so sr va wy)
    refine zq_ifz .ne 21 ((0 : Int) ≤ y.toInt ∧ y.toInt ≤ (1 : Int)) (by decide +kernel) (zb_ne _) (fun c16 => ?_) (fun c16 => ?_)
    · show zq_G _ _ _ _ _ 21 ([(0, .ref 41), (1, .int x), (2, .int y)], [], MH c tr tx (nI Z) td dr s im kp at_ so sr va wy)
      exact absurd hb (by omega)
    · show zq_G _ _ _ _ _ 19 ([(0, .ref 41), (1, .int x), (2, .int y)], [], MH c tr tx (nI Z) td dr s im kp at_ so sr va wy)
      refine zq_b [zq_k (-1)] [zq_kchk (-1)] 20 rfl (by decide +kernel) ?_
      show zq_G _ _ _ _ _ 20 ([(0, .ref 41), (1, .int x), (2, .int y)], [.int (-1)], MH c tr tx (nI Z) td dr s im kp at_ so sr va wy)
      exact zq_iret (by decide +kernel) rfl rfl rfl
set_option maxHeartbeats 4000000 in
set_option maxRecDepth 100000 in
theorem m_smoke_st {a : Nat} {q : Nat} (hs1 : s 1 = sm) (ha : a < 25) (he : q ≤ 1) (hb : zbit sm (nI a) = nI q) : zq_P l mX12_smoke 2 [.ref 41, .int (nI a), .int (nI q)] (MH c tr tx (nI Z) td dr s im kp at_ so sr va wy) (some (.int (-2))) (MH c tr tx (nI Z) td dr s im kp at_ so sr va wy) := by
  refine zq_start (by decide +kernel) rfl (Nat.le_of_ble_eq_true rfl) ?_
  show zq_G _ _ _ _ _ 0 ([(0, .ref 41), (1, .int (nI a)), (2, .int (nI q))], [], MH c tr tx (nI Z) td dr s im kp at_ so sr va wy)
  refine zq_b [zq_il 1, zq_k 0, zq_k 24] [zq_ilchk 1, zq_kchk 0, zq_kchk 24] 4 rfl (by decide +kernel) ?_
  show zq_G _ _ _ _ _ 4 ([(0, .ref 41), (1, .int (nI a)), (2, .int (nI q))], [.int 24, .int 0, .int (nI a)], MH c tr tx (nI Z) td dr s im kp at_ so sr va wy)
  refine zq_callS (av := [.int (nI a), .int 0, .int 24]) (rest := []) (by decide +kernel) k12_39 (m_inN (x := a) (lo := 0) (hi := 24) (by omega) (by omega) (by omega)) rfl rfl ?_
  show zq_G _ _ _ _ _ 7 ([(0, .ref 41), (1, .int (nI a)), (2, .int (nI q))], [.int (zb (0 ≤ a ∧ a ≤ 24))], MH c tr tx (nI Z) td dr s im kp at_ so sr va wy)
  refine zq_ifz .eq 19 (¬ (0 ≤ a ∧ a ≤ 24)) (by decide +kernel) (zb_eq _) (fun c7 => absurd c7 (by omega)) (fun c7 => ?_)
  show zq_G _ _ _ _ _ 10 ([(0, .ref 41), (1, .int (nI a)), (2, .int (nI q))], [], MH c tr tx (nI Z) td dr s im kp at_ so sr va wy)
  refine zq_b [zq_il 2, zq_k 0, zq_k 1] [zq_ilchk 2, zq_kchk 0, zq_kchk 1] 13 rfl (by decide +kernel) ?_
  show zq_G _ _ _ _ _ 13 ([(0, .ref 41), (1, .int (nI a)), (2, .int (nI q))], [.int 1, .int 0, .int (nI q)], MH c tr tx (nI Z) td dr s im kp at_ so sr va wy)
  refine zq_callS (av := [.int (nI q), .int 0, .int 1]) (rest := []) (by decide +kernel) k12_39 (m_inN (x := q) (lo := 0) (hi := 1) (by omega) (by omega) (by omega)) rfl rfl ?_
  show zq_G _ _ _ _ _ 16 ([(0, .ref 41), (1, .int (nI a)), (2, .int (nI q))], [.int (zb (0 ≤ q ∧ q ≤ 1))], MH c tr tx (nI Z) td dr s im kp at_ so sr va wy)
  refine zq_ifz .ne 21 (0 ≤ q ∧ q ≤ 1) (by decide +kernel) (zb_ne _) (fun c16 => ?_) (fun c16 => absurd (by omega) c16)
  show zq_G _ _ _ _ _ 21 ([(0, .ref 41), (1, .int (nI a)), (2, .int (nI q))], [], MH c tr tx (nI Z) td dr s im kp at_ so sr va wy)
  refine zq_b [zq_al 0, zq_get 12 5, zq_k 1, zq_iald 1 sm, zq_il 1, zq_ishr (sm >>> (nI a &&& 31)), zq_k 1, zq_iand (zbit sm (nI a)), zq_il 2] [zq_alchk 0, zq_getchk 12 5, zq_kchk 1, zq_is .iaload 1, zq_ilchk 1, zq_is .ishr 1, zq_kchk 1, zq_is .iand 1, zq_ilchk 2] 32 rfl (by decide +kernel) ?_
  refine ⟨rfl, (by omega), (by omega), hs1, rfl, rfl, ?_⟩
  show zq_G _ _ _ _ _ 32 ([(0, .ref 41), (1, .int (nI a)), (2, .int (nI q))], [.int (nI q), .int (zbit sm (nI a))], MH c tr tx (nI Z) td dr s im kp at_ so sr va wy)
  refine zq_if .ne 38 (¬ (zbit sm (nI a)) = (nI q)) (by decide +kernel) (Iff.rfl) (fun c32 => absurd c32 (fun q => q hb)) (fun c32 => ?_)
  show zq_G _ _ _ _ _ 35 ([(0, .ref 41), (1, .int (nI a)), (2, .int (nI q))], [], MH c tr tx (nI Z) td dr s im kp at_ so sr va wy)
  refine zq_b [zq_k (-2)] [zq_kchk (-2)] 37 rfl (by decide +kernel) ?_
  show zq_G _ _ _ _ _ 37 ([(0, .ref 41), (1, .int (nI a)), (2, .int (nI q))], [.int (-2)], MH c tr tx (nI Z) td dr s im kp at_ so sr va wy)
  exact zq_iret (by decide +kernel) rfl rfl rfl
set_option maxHeartbeats 4000000 in
set_option maxRecDepth 100000 in
theorem m_smoke {a : Nat} {q : Nat} (hs1 : s 1 = sm) (hs168 : s 168 = nI K) (hK : K ≤ 10) (ha : a < 25) (he : q ≤ 1) (hb : ¬ zbit sm (nI a) = nI q) : zq_P l mX12_smoke 2 [.ref 41, .int (nI a), .int (nI q)] (MH c tr tx (nI Z) td dr s im kp at_ so sr va wy) (some (.int (zon (sm ^^^ ((1 : Int32) <<< (nI a &&& 31))) 25))) (MH c tr tx (nI Z) td dr (upd (zkp K s) 1 (sm ^^^ ((1 : Int32) <<< (nI a &&& 31)))) im kp at_ so sr va wy) := by
  refine zq_start (by decide +kernel) rfl (Nat.le_of_ble_eq_true rfl) ?_
  show zq_G _ _ _ _ _ 0 ([(0, .ref 41), (1, .int (nI a)), (2, .int (nI q))], [], MH c tr tx (nI Z) td dr s im kp at_ so sr va wy)
  refine zq_b [zq_il 1, zq_k 0, zq_k 24] [zq_ilchk 1, zq_kchk 0, zq_kchk 24] 4 rfl (by decide +kernel) ?_
  show zq_G _ _ _ _ _ 4 ([(0, .ref 41), (1, .int (nI a)), (2, .int (nI q))], [.int 24, .int 0, .int (nI a)], MH c tr tx (nI Z) td dr s im kp at_ so sr va wy)
  refine zq_callS (av := [.int (nI a), .int 0, .int 24]) (rest := []) (by decide +kernel) k12_39 (m_inN (x := a) (lo := 0) (hi := 24) (by omega) (by omega) (by omega)) rfl rfl ?_
  show zq_G _ _ _ _ _ 7 ([(0, .ref 41), (1, .int (nI a)), (2, .int (nI q))], [.int (zb (0 ≤ a ∧ a ≤ 24))], MH c tr tx (nI Z) td dr s im kp at_ so sr va wy)
  refine zq_ifz .eq 19 (¬ (0 ≤ a ∧ a ≤ 24)) (by decide +kernel) (zb_eq _) (fun c7 => absurd c7 (by omega)) (fun c7 => ?_)
  show zq_G _ _ _ _ _ 10 ([(0, .ref 41), (1, .int (nI a)), (2, .int (nI q))], [], MH c tr tx (nI Z) td dr s im kp at_ so sr va wy)
  refine zq_b [zq_il 2, zq_k 0, zq_k 1] [zq_ilchk 2, zq_kchk 0, zq_kchk 1] 13 rfl (by decide +kernel) ?_
  show zq_G _ _ _ _ _ 13 ([(0, .ref 41), (1, .int (nI a)), (2, .int (nI q))], [.int 1, .int 0, .int (nI q)], MH c tr tx (nI Z) td dr s im kp at_ so sr va wy)
  refine zq_callS (av := [.int (nI q), .int 0, .int 1]) (rest := []) (by decide +kernel) k12_39 (m_inN (x := q) (lo := 0) (hi := 1) (by omega) (by omega) (by omega)) rfl rfl ?_
  show zq_G _ _ _ _ _ 16 ([(0, .ref 41), (1, .int (nI a)), (2, .int (nI q))], [.int (zb (0 ≤ q ∧ q ≤ 1))], MH c tr tx (nI Z) td dr s im kp at_ so sr va wy)
  refine zq_ifz .ne 21 (0 ≤ q ∧ q ≤ 1) (by decide +kernel) (zb_ne _) (fun c16 => ?_) (fun c16 => absurd (by omega) c16)
  show zq_G _ _ _ _ _ 21 ([(0, .ref 41), (1, .int (nI a)), (2, .int (nI q))], [], MH c tr tx (nI Z) td dr s im kp at_ so sr va wy)
  refine zq_b [zq_al 0, zq_get 12 5, zq_k 1, zq_iald 1 sm, zq_il 1, zq_ishr (sm >>> (nI a &&& 31)), zq_k 1, zq_iand (zbit sm (nI a)), zq_il 2] [zq_alchk 0, zq_getchk 12 5, zq_kchk 1, zq_is .iaload 1, zq_ilchk 1, zq_is .ishr 1, zq_kchk 1, zq_is .iand 1, zq_ilchk 2] 32 rfl (by decide +kernel) ?_
  refine ⟨rfl, (by omega), (by omega), hs1, rfl, rfl, ?_⟩
  show zq_G _ _ _ _ _ 32 ([(0, .ref 41), (1, .int (nI a)), (2, .int (nI q))], [.int (nI q), .int (zbit sm (nI a))], MH c tr tx (nI Z) td dr s im kp at_ so sr va wy)
  refine zq_if .ne 38 (¬ (zbit sm (nI a)) = (nI q)) (by decide +kernel) (Iff.rfl) (fun c32 => ?_) (fun c32 => absurd hb c32)
  show zq_G _ _ _ _ _ 38 ([(0, .ref 41), (1, .int (nI a)), (2, .int (nI q))], [], MH c tr tx (nI Z) td dr s im kp at_ so sr va wy)
  refine zq_b [zq_al 0] [zq_alchk 0] 39 rfl (by decide +kernel) ?_
  show zq_G _ _ _ _ _ 39 ([(0, .ref 41), (1, .int (nI a)), (2, .int (nI q))], [.ref 41], MH c tr tx (nI Z) td dr s im kp at_ so sr va wy)
  refine zq_callV (av := []) (rest := []) (by decide +kernel) k12_107 (m_keeps hs168 hK) rfl rfl rfl rfl ?_
  show zq_G _ _ _ _ _ 42 ([(0, .ref 41), (1, .int (nI a)), (2, .int (nI q))], [], MH c tr tx (nI Z) td dr (zkp K s) im kp at_ so sr va wy)
  refine zq_b [zq_al 0, zq_get 12 5, zq_k 1, zq_dup2, zq_iald 1 sm, zq_k 1, zq_il 1, zq_ishl (1 <<< (nI a &&& 31)), zq_ixor (sm ^^^ (1 <<< (nI a &&& 31))), zq_iast 1, zq_al 0, zq_get 12 5, zq_k 1, zq_iald 1 (sm ^^^ ((1 : Int32) <<< (nI a &&& 31)))] [zq_alchk 0, zq_getchk 12 5, zq_kchk 1, zq_is .dup2 1, zq_is .iaload 1, zq_kchk 1, zq_ilchk 1, zq_is .ishl 1, zq_is .ixor 1, zq_is .iastore 1, zq_alchk 0, zq_getchk 12 5, zq_kchk 1, zq_is .iaload 1] 60 rfl (by decide +kernel) ?_
  refine ⟨rfl, (by omega), (by omega), ((zkp_lo (by omega)).trans hs1), rfl, rfl, rfl, (by omega), (by omega), rfl, (by omega), (by omega), pk_us, ?_⟩
  show zq_G _ _ _ _ _ 60 ([(0, .ref 41), (1, .int (nI a)), (2, .int (nI q))], [.int (sm ^^^ ((1 : Int32) <<< (nI a &&& 31)))], MH c tr tx (nI Z) td dr (upd (zkp K s) 1 (sm ^^^ (1 <<< (nI a &&& 31)))) im kp at_ so sr va wy)
  refine zq_callS (av := [.int (sm ^^^ ((1 : Int32) <<< (nI a &&& 31)))]) (rest := []) (by decide +kernel) k12_110 (m_ones (x := (sm ^^^ ((1 : Int32) <<< (nI a &&& 31))))) rfl rfl ?_
  show zq_G _ _ _ _ _ 63 ([(0, .ref 41), (1, .int (nI a)), (2, .int (nI q))], [.int (zon (sm ^^^ ((1 : Int32) <<< (nI a &&& 31))) 25)], MH c tr tx (nI Z) td dr (upd (zkp K s) 1 (sm ^^^ (1 <<< (nI a &&& 31)))) im kp at_ so sr va wy)
  exact zq_iret (by decide +kernel) rfl rfl rfl
end MV2
