section MV5
variable {l : Launch} {c : Nat → zq_C} {tr : Int64} {tx : Nat → Int32} {ty : Int32} {td dr s im kp : Nat → Int32} {at_ so sr va : Int32} {wy : Nat → Int32} {h : zq_H}
variable {P C R L D N K Z : Nat} {sm : Int32} {cn ga gv : Nat → Nat} {bt : Nat → Nat}
variable {a u e v1 v2 : Nat} {q : Int32} {h2 : zq_H}
def byV (bt : Nat → Nat) (Z i : Nat) : Int32 := if i < Z then nI (bt i) else -1
theorem byV_n {bt : Nat → Nat} {Z i : Nat} (h : i < Z) : byV bt Z i = nI (bt i) := by unfold byV; rw [if_pos h]
theorem byV_i {bt : Nat → Nat} {Z i : Nat} (h : i < Z) (hb : bt i ≤ 255) : (byV bt Z i).toInt = (bt i : Int) := by rw [byV_n h, nI_toInt (by omega)]
theorem byV_o {bt : Nat → Nat} {Z i : Nat} (h : ¬ i < Z) : (byV bt Z i).toInt = -1 := by unfold byV; rw [if_neg h]; decide
theorem byL {bt : Nat → Nat} {Z i : Nat} (hb : i < Z → bt i ≤ 255) : ((97 : Int) ≤ (byV bt Z i).toInt ∧ (byV bt Z i).toInt ≤ (122 : Int)) ↔ (i < Z ∧ letB bt i = true) := by
  unfold letB
  by_cases h : i < Z
  · rw [byV_i h (hb h), decide_eq_true_eq]; omega
  · rw [byV_o h]; omega
theorem byD {bt : Nat → Nat} {Z i : Nat} (hb : i < Z → bt i ≤ 255) : ((48 : Int) ≤ (byV bt Z i).toInt ∧ (byV bt Z i).toInt ≤ (57 : Int)) ↔ (i < Z ∧ digB bt i = true) := by
  unfold digB
  by_cases h : i < Z
  · rw [byV_i h (hb h), decide_eq_true_eq]; omega
  · rw [byV_o h]; omega
def mvS (bt : Nat → Nat) (s : Nat) : Nat → Nat
  | 0 => bt s - 48
  | i + 1 => if bt s = 48 ∨ 99 < mvS bt s i then 1000 else 10 * mvS bt s i + bt (s + 1 + i) - 48
theorem mvS_t {bt : Nat → Nat} {s i : Nat} (h : bt s = 48 ∨ 99 < mvS bt s i) : mvS bt s (i + 1) = 1000 := by rw [mvS, if_pos h]
theorem mvS_f {bt : Nat → Nat} {s i : Nat} (h : ¬ (bt s = 48 ∨ 99 < mvS bt s i)) : mvS bt s (i + 1) = 10 * mvS bt s i + bt (s + 1 + i) - 48 := by rw [mvS, if_neg h]
theorem mvS_le {bt : Nat → Nat} {s : Nat} (h0 : bt s ≤ 255) : ∀ n, (∀ j, j < n → bt (s + 1 + j) ≤ 255) → mvS bt s n ≤ 2000 := by
  intro n
  induction n with
  | zero => intro _; rw [mvS]; omega
  | succ n ih =>
    intro h
    have := ih (fun j hj => h j (by omega))
    have h2 := h n (by omega)
    rw [mvS]
    split
    · omega
    · rename_i hq
      have : ¬ 99 < mvS bt s n := fun z => hq (Or.inr z)
      omega
theorem mvS_dv {bt : Nat → Nat} {s : Nat} : ∀ n, (∀ j, j ≤ n → 48 ≤ bt (s + j) ∧ bt (s + j) ≤ 57) → (mvS bt s n ≤ 99 ↔ ¬ (99 < dvN bt s (n + 1) ∨ (bt s = 48 ∧ 1 < n + 1))) ∧ (mvS bt s n ≤ 99 → mvS bt s n = dvN bt s (n + 1)) := by
  intro n
  induction n with
  | zero =>
    intro h
    have h0 := h 0 (by omega)
    simp only [Nat.add_zero] at h0
    rw [mvS, dvN, dvN]
    simp only [Nat.add_zero, Nat.zero_mul, Nat.zero_add]
    omega
  | succ n ih =>
    intro h
    have hi := ih (fun j hj => h j (by omega))
    have h0 := h 0 (by omega)
    simp only [Nat.add_zero] at h0
    have hn := h (n + 1) (by omega)
    have hd := dvN_le bt s (n + 1)
    have e1 : s + 1 + n = s + (n + 1) := by omega
    rw [dvN, mvS, e1]
    by_cases c1 : bt s = 48
    · rw [if_pos (Or.inl c1)]; omega
    · by_cases c2 : 99 < mvS bt s n
      · rw [if_pos (Or.inr c2)]; omega
      · rw [if_neg (by omega)]; omega
def tkM (bt : Nat → Nat) (Z a : Nat) : Nat := if Z ≤ tkS bt Z a then 0 else if letB bt (tkS bt Z a) = true then 1 else if digB bt (tkS bt Z a) = true then 2 else if bt (tkS bt Z a) = 59 then 3 else 4
def tvM (bt : Nat → Nat) (Z a : Nat) : Int32 := if Z ≤ tkS bt Z a then -1 else if letB bt (tkS bt Z a) = true then (if tkE bt Z a = tkS bt Z a + 1 then nI (bt (tkS bt Z a)) else 0) else if digB bt (tkS bt Z a) = true then nI (mvS bt (tkS bt Z a) (tkE bt Z a - (tkS bt Z a + 1))) else nI (bt (tkS bt Z a))
theorem tkM_le (bt : Nat → Nat) (Z a : Nat) : tkM bt Z a ≤ 4 := by
  unfold tkM
  repeat' split
  all_goals omega
theorem tkM_0 {bt : Nat → Nat} {Z a : Nat} : tkM bt Z a = 0 ↔ tkK bt Z a = 0 := by
  unfold tkM tkK
  repeat' split
  all_goals simp
theorem tkM_1 {bt : Nat → Nat} {Z a : Nat} : tkM bt Z a = 1 ↔ tkK bt Z a = 1 := by
  unfold tkM tkK
  repeat' split
  all_goals simp
theorem tkM_3 {bt : Nat → Nat} {Z a : Nat} : tkM bt Z a = 3 ↔ tkK bt Z a = 3 := by
  unfold tkM tkK
  repeat' split
  all_goals simp
theorem tvM_1 {bt : Nat → Nat} {Z a : Nat} (h : tkK bt Z a = 1) : tvM bt Z a = nI (tkV bt Z a) := by
  have h := tkM_1.mpr h
  unfold tkM at h
  split at h
  · cases h
  · rename_i g1
    split at h
    · rename_i g2
      unfold tvM tkV
      rw [if_neg g1, if_pos g2, if_pos g2]
      split <;> rfl
    · split at h
      · cases h
      · split at h <;> cases h
/-- a token of digits: what both sides make of it -/
theorem dig_eq {bt : Nat → Nat} {Z a : Nat} (h : tkM bt Z a = 2) : tvM bt Z a = nI (mvS bt (tkS bt Z a) (tkE bt Z a - (tkS bt Z a + 1))) ∧ (mvS bt (tkS bt Z a) (tkE bt Z a - (tkS bt Z a + 1)) ≤ 99 ↔ tkK bt Z a = 2) ∧ (mvS bt (tkS bt Z a) (tkE bt Z a - (tkS bt Z a + 1)) ≤ 99 → mvS bt (tkS bt Z a) (tkE bt Z a - (tkS bt Z a + 1)) = tkV bt Z a) := by
  have hne : ¬ tkK bt Z a = 0 := fun q => by have := tkM_0.mpr q; omega
  have hlt := tkE_lt hne
  unfold tkM at h
  split at h
  · cases h
  · rename_i g1
    split at h
    · cases h
    · rename_i g2
      split at h
      · rename_i g3
        have e1 : tkE bt Z a = zrun (digB bt) Z Z (tkS bt Z a) := by unfold tkE; rw [if_neg g1, if_neg g2, if_pos g3]
        have hin : ∀ j, tkS bt Z a ≤ j → j < tkE bt Z a → 48 ≤ bt j ∧ bt j ≤ 57 := fun j h1 h2 => by
          rw [e1] at h2
          exact of_decide_eq_true (zrun_in _ _ _ _ j h1 h2).2
        have k := mvS_dv (bt := bt) (s := tkS bt Z a) (tkE bt Z a - (tkS bt Z a + 1)) (fun j hj => hin _ (by omega) (by omega))
        rw [show tkE bt Z a - (tkS bt Z a + 1) + 1 = tkE bt Z a - tkS bt Z a by omega] at k
        refine ⟨?_, ?_, ?_⟩
        · unfold tvM; rw [if_neg g1, if_neg g2, if_pos g3]
        · rw [k.1]
          unfold tkK
          rw [if_neg g1, if_neg g2, if_pos g3]
          by_cases c : 99 < dvN bt (tkS bt Z a) (tkE bt Z a - tkS bt Z a) ∨ (bt (tkS bt Z a) = 48 ∧ 1 < tkE bt Z a - tkS bt Z a)
          · rw [if_pos c]; exact ⟨fun q => absurd c q, fun q => by cases q⟩
          · rw [if_neg c]; exact ⟨fun _ => rfl, fun _ => c⟩
        · intro q
          rw [k.2 q]
          unfold tkV; rw [if_neg g2]
      · split at h <;> cases h
theorem tkM_2 {bt : Nat → Nat} {Z a : Nat} (h : tkK bt Z a = 2) : tkM bt Z a = 2 := by
  unfold tkM; unfold tkK at h
  split at h
  · cases h
  · rename_i g1
    rw [if_neg g1]
    split at h
    · cases h
    · rename_i g2
      rw [if_neg g2]
      split at h
      · rename_i g3; rw [if_pos g3]
      · split at h <;> cases h
theorem tvM_2 {bt : Nat → Nat} {Z a : Nat} (h : tkK bt Z a = 2) : tvM bt Z a = nI (tkV bt Z a) := by
  obtain ⟨k1, k2, k3⟩ := dig_eq (tkM_2 h)
  rw [k1, k3 (k2.mpr h)]
theorem tkV_99 {bt : Nat → Nat} {Z a : Nat} (h : tkK bt Z a = 2) : tkV bt Z a ≤ 99 := by
  obtain ⟨k1, k2, k3⟩ := dig_eq (tkM_2 h)
  rw [← k3 (k2.mpr h)]; exact k2.mpr h
theorem num_ok {bt : Nat → Nat} {Z a lo hi : Nat} (hb : ∀ j, j < Z → bt j ≤ 255) (ha : a ≤ Z) (h : tkM bt Z a = 2) (hi9 : hi ≤ 99) (hq : (lo : Int) ≤ (tvM bt Z a).toInt ∧ (tvM bt Z a).toInt ≤ (hi : Int)) : tkK bt Z a = 2 ∧ lo ≤ tkV bt Z a ∧ tkV bt Z a ≤ hi := by
  obtain ⟨k1, k2, k3⟩ := dig_eq h
  have hne : ¬ tkK bt Z a = 0 := fun q => by have := tkM_0.mpr q; omega
  have hlt := tkE_lt hne
  have hm := tkE_max (bt := bt) ha
  have hle := mvS_le (bt := bt) (s := tkS bt Z a) (hb _ (by omega)) (tkE bt Z a - (tkS bt Z a + 1)) (fun j hj => hb _ (by omega))
  rw [k1, nI_toInt (by omega)] at hq
  have h99 : mvS bt (tkS bt Z a) (tkE bt Z a - (tkS bt Z a + 1)) ≤ 99 := by omega
  have := k3 h99
  exact ⟨k2.mp h99, by omega, by omega⟩
theorem ite_e2 {e s : Nat} {x y : Int32} (h : s + 1 ≤ e) : (if e - (s + 1) = 0 then x else y) = if e = s + 1 then x else y := by
  by_cases q : e = s + 1
  · rw [if_pos (show e - (s + 1) = 0 by omega), if_pos q]
  · rw [if_neg (show ¬ e - (s + 1) = 0 by omega), if_neg q]
def tlC (P : Nat) (dr s : Nat → Int32) : Nat → (Nat → Int32)
  | 0 => s
  | i + 1 => upd (tlC P dr s i) (3 + i) (if i < P then dr (12 + i) else 26)
set_option maxHeartbeats 4000000 in
set_option maxRecDepth 100000 in
theorem m_byteAt {i : Nat} (hZ : Z ≤ 200) (hbt : ∀ j, j < Z → tx j = nI (bt j) ∧ bt j ≤ 255) (hi : i < 1000) : zq_P l mX12_byteAt 0 [.ref 41, .int (nI i)] (MH c tr tx (nI Z) td dr s im kp at_ so sr va wy) (some (.int (byV bt Z i))) (MH c tr tx (nI Z) td dr s im kp at_ so sr va wy) := by
  refine zq_start (by decide +kernel) rfl (Nat.le_of_ble_eq_true rfl) ?_
  show zq_G _ _ _ _ _ 0 ([(0, .ref 41), (1, .int (nI i))], [], MH c tr tx (nI Z) td dr s im kp at_ so sr va wy)
  refine zq_b [zq_il 1, zq_al 0, zq_get 12 2] [zq_ilchk 1, zq_alchk 0, zq_getchk 12 2] 5 rfl (by decide +kernel) ?_
  show zq_G _ _ _ _ _ 5 ([(0, .ref 41), (1, .int (nI i))], [.int (nI Z), .int (nI i)], MH c tr tx (nI Z) td dr s im kp at_ so sr va wy)
  refine zq_if .ge 17 (Z ≤ i) (by decide +kernel) (zq_cge (a := i) (b := Z) (by omega) (by omega)) (fun c5 => ?_) (fun c5 => ?_)
  · show zq_G _ _ _ _ _ 17 ([(0, .ref 41), (1, .int (nI i))], [], MH c tr tx (nI Z) td dr s im kp at_ so sr va wy)
    refine zq_b [zq_k (-1)] [zq_kchk (-1)] 18 rfl (by decide +kernel) ?_
    show zq_G _ _ _ _ _ 18 ([(0, .ref 41), (1, .int (nI i))], [.int (-1)], MH c tr tx (nI Z) td dr s im kp at_ so sr va wy)
    exact zq_iret (by decide +kernel) rfl (by unfold byV; rw [if_neg (by omega)]) rfl
  · show zq_G _ _ _ _ _ 8 ([(0, .ref 41), (1, .int (nI i))], [], MH c tr tx (nI Z) td dr s im kp at_ so sr va wy)
    refine zq_b [zq_al 0, zq_get 12 1, zq_il 1, zq_iald i (nI (bt i)), zq_go] [zq_alchk 0, zq_getchk 12 1, zq_ilchk 1, zq_is .iaload 1, zq_gochk] 18 rfl (by decide +kernel) ?_
    refine ⟨rfl, (by omega), (by omega), (hbt _ (by omega)).1, ?_⟩
    show zq_G _ _ _ _ _ 18 ([(0, .ref 41), (1, .int (nI i))], [.int (nI (bt i))], MH c tr tx (nI Z) td dr s im kp at_ so sr va wy)
    exact zq_iret (by decide +kernel) rfl (by unfold byV; rw [if_pos (by omega)]) rfl
set_option maxHeartbeats 4000000 in
set_option maxRecDepth 100000 in
theorem m_isLetter {x : Int32}  : zq_P l mX12_isLetter 1 [.int x] (h) (some (.int (zb ((97 : Int) ≤ x.toInt ∧ x.toInt ≤ (122 : Int))))) (h) := by
  refine zq_start (by decide +kernel) rfl (Nat.le_of_ble_eq_true rfl) ?_
  show zq_G _ _ _ _ _ 0 ([(0, .int x)], [], h)
  refine zq_b [zq_il 0, zq_k 97, zq_k 122] [zq_ilchk 0, zq_kchk 97, zq_kchk 122] 5 rfl (by decide +kernel) ?_
  show zq_G _ _ _ _ _ 5 ([(0, .int x)], [.int 122, .int 97, .int x], h)
  refine zq_callS (av := [.int x, .int 97, .int 122]) (rest := []) (by decide +kernel) k12_39 (m_in (x := x) (lo := 97) (hi := 122) (by omega) (by omega)) rfl rfl ?_
  show zq_G _ _ _ _ _ 8 ([(0, .int x)], [.int (zb ((97 : Int) ≤ x.toInt ∧ x.toInt ≤ (122 : Int)))], h)
  exact zq_zret (by decide +kernel) rfl (zb_01 _) rfl rfl
set_option maxHeartbeats 4000000 in
set_option maxRecDepth 100000 in
theorem m_isDigit {x : Int32}  : zq_P l mX12_isDigit 1 [.int x] (h) (some (.int (zb ((48 : Int) ≤ x.toInt ∧ x.toInt ≤ (57 : Int))))) (h) := by
  refine zq_start (by decide +kernel) rfl (Nat.le_of_ble_eq_true rfl) ?_
  show zq_G _ _ _ _ _ 0 ([(0, .int x)], [], h)
  refine zq_b [zq_il 0, zq_k 48, zq_k 57] [zq_ilchk 0, zq_kchk 48, zq_kchk 57] 5 rfl (by decide +kernel) ?_
  show zq_G _ _ _ _ _ 5 ([(0, .int x)], [.int 57, .int 48, .int x], h)
  refine zq_callS (av := [.int x, .int 48, .int 57]) (rest := []) (by decide +kernel) k12_39 (m_in (x := x) (lo := 48) (hi := 57) (by omega) (by omega)) rfl rfl ?_
  show zq_G _ _ _ _ _ 8 ([(0, .int x)], [.int (zb ((48 : Int) ≤ x.toInt ∧ x.toInt ≤ (57 : Int)))], h)
  exact zq_zret (by decide +kernel) rfl (zb_01 _) rfl rfl
set_option maxHeartbeats 4000000 in
set_option maxRecDepth 100000 in
theorem t_end {u : Nat} (hZ : Z ≤ 200) (hbt : ∀ j, j < Z → tx j = nI (bt j) ∧ bt j ≤ 255) (has : a ≤ u) (hsp : ∀ j, a ≤ j → j < u → j < Z ∧ bt j = 32) (hs : u = Z) : zq_P l mX12_token 2 [.ref 41] (MH c tr tx (nI Z) td dr s im kp (nI a) so sr va wy) none (MH c tr tx (nI Z) td dr s im kp (nI u) 0 (nI u) (byV bt Z u) wy) := by
  refine zq_start (by decide +kernel) rfl (Nat.le_of_ble_eq_true rfl) ?_
  show zq_G _ _ _ _ _ 0 ([(0, .ref 41)], [], MH c tr tx (nI Z) td dr s im kp (nI a) so sr va wy)
  refine zq_loop (fun i => ([(0, .ref 41)], [], MH c tr tx (nI Z) td dr s im kp (nI (a + i)) so sr va wy)) (fun i => True) (u - a) (0) (by omega) (trivial) (fun i hl0 hi0 hI0 ih0 => ?_) (fun hI0 => ?_)
  · show zq_G _ _ _ _ _ 0 ([(0, .ref 41)], [], MH c tr tx (nI Z) td dr s im kp (nI (a + i)) so sr va wy)
    have hr := hsp (a + i) (by omega) (by omega)
    have hby := byV_i hr.1 (hbt (a + i) hr.1).2
    refine zq_b [zq_al 0, zq_al 0, zq_get 12 8] [zq_alchk 0, zq_alchk 0, zq_getchk 12 8] 5 rfl (by decide +kernel) ?_
    show zq_G _ _ _ _ _ 5 ([(0, .ref 41)], [.int (nI (a + i)), .ref 41], MH c tr tx (nI Z) td dr s im kp (nI (a + i)) so sr va wy)
    refine zq_callV (av := [.int (nI (a + i))]) (rest := []) (by decide +kernel) k12_50 (m_byteAt (i := (a + i)) hZ hbt (by omega)) rfl rfl rfl rfl ?_
    show zq_G _ _ _ _ _ 8 ([(0, .ref 41)], [.int (byV bt Z (a + i))], MH c tr tx (nI Z) td dr s im kp (nI (a + i)) so sr va wy)
    refine zq_b [zq_k 32] [zq_kchk 32] 10 rfl (by decide +kernel) ?_
    show zq_G _ _ _ _ _ 10 ([(0, .ref 41)], [.int 32, .int (byV bt Z (a + i))], MH c tr tx (nI Z) td dr s im kp (nI (a + i)) so sr va wy)
    refine zq_if .ne 26 (¬ (byV bt Z (a + i)).toInt = (32 : Int)) (by decide +kernel) (zq_tn .ne (byV bt Z (a + i)) (n := 32) (by omega)) (fun c10 => absurd c10 (by omega)) (fun c10 => ?_)
    show zq_G _ _ _ _ _ 13 ([(0, .ref 41)], [], MH c tr tx (nI Z) td dr s im kp (nI (a + i)) so sr va wy)
    refine zq_b [zq_al 0, zq_dup, zq_get 12 8, zq_k 1, zq_iadd (nI (a + i + 1)), zq_puti 12 8, zq_go] [zq_alchk 0, zq_is .dup 1, zq_getchk 12 8, zq_kchk 1, zq_is .iadd 1, zq_putchk 12 8 .int, zq_gochk] 0 rfl (by decide +kernel) ?_
    refine ⟨(nI_add (a + i) 1), ?_⟩
    show zq_G _ _ _ _ _ 0 ([(0, .ref 41)], [], MH c tr tx (nI Z) td dr s im kp (nI (a + i + 1)) so sr va wy)
    exact ih0 trivial
  · show zq_G _ _ _ _ _ 0 ([(0, .ref 41)], [], MH c tr tx (nI Z) td dr s im kp (nI (a + (u - a))) so sr va wy)
    have hby := byV_o (bt := bt) (Z := Z) (i := u) (by omega)
    refine zq_eq (σ2 := ([(0, .ref 41)], [], MH c tr tx (nI Z) td dr s im kp (nI u) so sr va wy)) (by rw [show a + (u - a) = u by omega]) ?_
    refine zq_b [zq_al 0, zq_al 0, zq_get 12 8] [zq_alchk 0, zq_alchk 0, zq_getchk 12 8] 5 rfl (by decide +kernel) ?_
    show zq_G _ _ _ _ _ 5 ([(0, .ref 41)], [.int (nI u), .ref 41], MH c tr tx (nI Z) td dr s im kp (nI u) so sr va wy)
    refine zq_callV (av := [.int (nI u)]) (rest := []) (by decide +kernel) k12_50 (m_byteAt (i := u) hZ hbt (by omega)) rfl rfl rfl rfl ?_
    show zq_G _ _ _ _ _ 8 ([(0, .ref 41)], [.int (byV bt Z u)], MH c tr tx (nI Z) td dr s im kp (nI u) so sr va wy)
    refine zq_b [zq_k 32] [zq_kchk 32] 10 rfl (by decide +kernel) ?_
    show zq_G _ _ _ _ _ 10 ([(0, .ref 41)], [.int 32, .int (byV bt Z u)], MH c tr tx (nI Z) td dr s im kp (nI u) so sr va wy)
    refine zq_if .ne 26 (¬ (byV bt Z u).toInt = (32 : Int)) (by decide +kernel) (zq_tn .ne (byV bt Z u) (n := 32) (by omega)) (fun c10 => ?_) (fun c10 => absurd (by omega) c10)
    show zq_G _ _ _ _ _ 26 ([(0, .ref 41)], [], MH c tr tx (nI Z) td dr s im kp (nI u) so sr va wy)
    refine zq_b [zq_al 0, zq_al 0, zq_get 12 8, zq_puti 12 10, zq_al 0, zq_al 0, zq_get 12 8] [zq_alchk 0, zq_alchk 0, zq_getchk 12 8, zq_putchk 12 10 .int, zq_alchk 0, zq_alchk 0, zq_getchk 12 8] 39 rfl (by decide +kernel) ?_
    show zq_G _ _ _ _ _ 39 ([(0, .ref 41)], [.int (nI u), .ref 41], MH c tr tx (nI Z) td dr s im kp (nI u) so (nI u) va wy)
    refine zq_callV (av := [.int (nI u)]) (rest := []) (by decide +kernel) k12_50 (m_byteAt (i := u) hZ hbt (by omega)) rfl rfl rfl rfl ?_
    show zq_G _ _ _ _ _ 42 ([(0, .ref 41)], [.int (byV bt Z u)], MH c tr tx (nI Z) td dr s im kp (nI u) so (nI u) va wy)
    refine zq_b [zq_is1 1, zq_al 0, zq_il 1] [zq_is1chk 1, zq_alchk 0, zq_ilchk 1] 45 rfl (by decide +kernel) ?_
    show zq_G _ _ _ _ _ 45 ([(0, .ref 41), (1, .int (byV bt Z u))], [.int (byV bt Z u), .ref 41], MH c tr tx (nI Z) td dr s im kp (nI u) so (nI u) va wy)
    refine zq_ifz .ge 52 ((0 : Int) ≤ (byV bt Z u).toInt) (by decide +kernel) (zq_tn .ge (byV bt Z u) (n := 0) (by omega)) (fun c45 => absurd c45 (by omega)) (fun c45 => ?_)
    show zq_G _ _ _ _ _ 48 ([(0, .ref 41), (1, .int (byV bt Z u))], [.ref 41], MH c tr tx (nI Z) td dr s im kp (nI u) so (nI u) va wy)
    refine zq_b [zq_k 0, zq_go, zq_puti 12 9, zq_al 0, zq_il 1, zq_puti 12 11, zq_al 0, zq_get 12 9] [zq_kchk 0, zq_gochk, zq_putchk 12 9 .int, zq_alchk 0, zq_ilchk 1, zq_putchk 12 11 .int, zq_alchk 0, zq_getchk 12 9] 97 rfl (by decide +kernel) ?_
    show zq_G _ _ _ _ _ 97 ([(0, .ref 41), (1, .int (byV bt Z u))], [.int 0], MH c tr tx (nI Z) td dr s im kp (nI u) 0 (nI u) (byV bt Z u) wy)
    refine zq_ifz .eq 110 (0 = 0) (by decide +kernel) (zq_ceq (a := 0) (b := 0) (by omega) (by omega)) (fun c97 => ?_) (fun c97 => absurd rfl c97)
    show zq_G _ _ _ _ _ 110 ([(0, .ref 41), (1, .int (byV bt Z u))], [], MH c tr tx (nI Z) td dr s im kp (nI u) 0 (nI u) (byV bt Z u) wy)
    refine zq_b [zq_al 0, zq_get 12 9, zq_k 1] [zq_alchk 0, zq_getchk 12 9, zq_kchk 1] 115 rfl (by decide +kernel) ?_
    show zq_G _ _ _ _ _ 115 ([(0, .ref 41), (1, .int (byV bt Z u))], [.int 1, .int 0], MH c tr tx (nI Z) td dr s im kp (nI u) 0 (nI u) (byV bt Z u) wy)
    refine zq_if .ne 150 (¬ 0 = 1) (by decide +kernel) (zq_cne (a := 0) (b := 1) (by omega) (by omega)) (fun c115 => ?_) (fun c115 => absurd (by decide) c115)
    show zq_G _ _ _ _ _ 150 ([(0, .ref 41), (1, .int (byV bt Z u))], [], MH c tr tx (nI Z) td dr s im kp (nI u) 0 (nI u) (byV bt Z u) wy)
    refine zq_b [zq_al 0, zq_get 12 9, zq_k 2] [zq_alchk 0, zq_getchk 12 9, zq_kchk 2] 155 rfl (by decide +kernel) ?_
    show zq_G _ _ _ _ _ 155 ([(0, .ref 41), (1, .int (byV bt Z u))], [.int 2, .int 0], MH c tr tx (nI Z) td dr s im kp (nI u) 0 (nI u) (byV bt Z u) wy)
    refine zq_if .ne 238 (¬ 0 = 2) (by decide +kernel) (zq_cne (a := 0) (b := 2) (by omega) (by omega)) (fun c155 => ?_) (fun c155 => absurd (by decide) c155)
    show zq_G _ _ _ _ _ 238 ([(0, .ref 41), (1, .int (byV bt Z u))], [], MH c tr tx (nI Z) td dr s im kp (nI u) 0 (nI u) (byV bt Z u) wy)
    exact zq_vret (by decide +kernel) rfl rfl rfl
set_option maxHeartbeats 4000000 in
set_option maxRecDepth 100000 in
theorem t_let {u : Nat} {e : Nat} (hZ : Z ≤ 200) (hbt : ∀ j, j < Z → tx j = nI (bt j) ∧ bt j ≤ 255) (has : a ≤ u) (hsp : ∀ j, a ≤ j → j < u → j < Z ∧ bt j = 32) (hs : u < Z) (hns : ¬ bt u = 32) (hl : 97 ≤ bt u ∧ bt u ≤ 122) (he1 : u + 1 ≤ e) (he2 : e ≤ Z) (hrun : ∀ j, u + 1 ≤ j → j < e → j < Z ∧ letB bt j = true) (hend : ¬ (e < Z ∧ letB bt e = true)) : zq_P l mX12_token 2 [.ref 41] (MH c tr tx (nI Z) td dr s im kp (nI a) so sr va wy) none (MH c tr tx (nI Z) td dr s im kp (nI e) 1 (nI u) (if e = u + 1 then nI (bt u) else 0) wy) := by
  refine zq_start (by decide +kernel) rfl (Nat.le_of_ble_eq_true rfl) ?_
  show zq_G _ _ _ _ _ 0 ([(0, .ref 41)], [], MH c tr tx (nI Z) td dr s im kp (nI a) so sr va wy)
  refine zq_loop (fun i => ([(0, .ref 41)], [], MH c tr tx (nI Z) td dr s im kp (nI (a + i)) so sr va wy)) (fun i => True) (u - a) (0) (by omega) (trivial) (fun i hl0 hi0 hI0 ih0 => ?_) (fun hI0 => ?_)
  · show zq_G _ _ _ _ _ 0 ([(0, .ref 41)], [], MH c tr tx (nI Z) td dr s im kp (nI (a + i)) so sr va wy)
    have hr := hsp (a + i) (by omega) (by omega)
    have hby := byV_i hr.1 (hbt (a + i) hr.1).2
    refine zq_b [zq_al 0, zq_al 0, zq_get 12 8] [zq_alchk 0, zq_alchk 0, zq_getchk 12 8] 5 rfl (by decide +kernel) ?_
    show zq_G _ _ _ _ _ 5 ([(0, .ref 41)], [.int (nI (a + i)), .ref 41], MH c tr tx (nI Z) td dr s im kp (nI (a + i)) so sr va wy)
    refine zq_callV (av := [.int (nI (a + i))]) (rest := []) (by decide +kernel) k12_50 (m_byteAt (i := (a + i)) hZ hbt (by omega)) rfl rfl rfl rfl ?_
    show zq_G _ _ _ _ _ 8 ([(0, .ref 41)], [.int (byV bt Z (a + i))], MH c tr tx (nI Z) td dr s im kp (nI (a + i)) so sr va wy)
    refine zq_b [zq_k 32] [zq_kchk 32] 10 rfl (by decide +kernel) ?_
    show zq_G _ _ _ _ _ 10 ([(0, .ref 41)], [.int 32, .int (byV bt Z (a + i))], MH c tr tx (nI Z) td dr s im kp (nI (a + i)) so sr va wy)
    refine zq_if .ne 26 (¬ (byV bt Z (a + i)).toInt = (32 : Int)) (by decide +kernel) (zq_tn .ne (byV bt Z (a + i)) (n := 32) (by omega)) (fun c10 => absurd c10 (by omega)) (fun c10 => ?_)
    show zq_G _ _ _ _ _ 13 ([(0, .ref 41)], [], MH c tr tx (nI Z) td dr s im kp (nI (a + i)) so sr va wy)
    refine zq_b [zq_al 0, zq_dup, zq_get 12 8, zq_k 1, zq_iadd (nI (a + i + 1)), zq_puti 12 8, zq_go] [zq_alchk 0, zq_is .dup 1, zq_getchk 12 8, zq_kchk 1, zq_is .iadd 1, zq_putchk 12 8 .int, zq_gochk] 0 rfl (by decide +kernel) ?_
    refine ⟨(nI_add (a + i) 1), ?_⟩
    show zq_G _ _ _ _ _ 0 ([(0, .ref 41)], [], MH c tr tx (nI Z) td dr s im kp (nI (a + i + 1)) so sr va wy)
    exact ih0 trivial
  · show zq_G _ _ _ _ _ 0 ([(0, .ref 41)], [], MH c tr tx (nI Z) td dr s im kp (nI (a + (u - a))) so sr va wy)
    have hby := byV_i hs (hbt u hs).2
    refine zq_eq (σ2 := ([(0, .ref 41)], [], MH c tr tx (nI Z) td dr s im kp (nI u) so sr va wy)) (by rw [show a + (u - a) = u by omega]) ?_
    refine zq_b [zq_al 0, zq_al 0, zq_get 12 8] [zq_alchk 0, zq_alchk 0, zq_getchk 12 8] 5 rfl (by decide +kernel) ?_
    show zq_G _ _ _ _ _ 5 ([(0, .ref 41)], [.int (nI u), .ref 41], MH c tr tx (nI Z) td dr s im kp (nI u) so sr va wy)
    refine zq_callV (av := [.int (nI u)]) (rest := []) (by decide +kernel) k12_50 (m_byteAt (i := u) hZ hbt (by omega)) rfl rfl rfl rfl ?_
    show zq_G _ _ _ _ _ 8 ([(0, .ref 41)], [.int (byV bt Z u)], MH c tr tx (nI Z) td dr s im kp (nI u) so sr va wy)
    refine zq_b [zq_k 32] [zq_kchk 32] 10 rfl (by decide +kernel) ?_
    show zq_G _ _ _ _ _ 10 ([(0, .ref 41)], [.int 32, .int (byV bt Z u)], MH c tr tx (nI Z) td dr s im kp (nI u) so sr va wy)
    refine zq_if .ne 26 (¬ (byV bt Z u).toInt = (32 : Int)) (by decide +kernel) (zq_tn .ne (byV bt Z u) (n := 32) (by omega)) (fun c10 => ?_) (fun c10 => absurd (by omega) c10)
    show zq_G _ _ _ _ _ 26 ([(0, .ref 41)], [], MH c tr tx (nI Z) td dr s im kp (nI u) so sr va wy)
    refine zq_b [zq_al 0, zq_al 0, zq_get 12 8, zq_puti 12 10, zq_al 0, zq_al 0, zq_get 12 8] [zq_alchk 0, zq_alchk 0, zq_getchk 12 8, zq_putchk 12 10 .int, zq_alchk 0, zq_alchk 0, zq_getchk 12 8] 39 rfl (by decide +kernel) ?_
    show zq_G _ _ _ _ _ 39 ([(0, .ref 41)], [.int (nI u), .ref 41], MH c tr tx (nI Z) td dr s im kp (nI u) so (nI u) va wy)
    refine zq_callV (av := [.int (nI u)]) (rest := []) (by decide +kernel) k12_50 (m_byteAt (i := u) hZ hbt (by omega)) rfl rfl rfl rfl ?_
    show zq_G _ _ _ _ _ 42 ([(0, .ref 41)], [.int (byV bt Z u)], MH c tr tx (nI Z) td dr s im kp (nI u) so (nI u) va wy)
    refine zq_b [zq_is1 1, zq_al 0, zq_il 1] [zq_is1chk 1, zq_alchk 0, zq_ilchk 1] 45 rfl (by decide +kernel) ?_
    show zq_G _ _ _ _ _ 45 ([(0, .ref 41), (1, .int (byV bt Z u))], [.int (byV bt Z u), .ref 41], MH c tr tx (nI Z) td dr s im kp (nI u) so (nI u) va wy)
    refine zq_ifz .ge 52 ((0 : Int) ≤ (byV bt Z u).toInt) (by decide +kernel) (zq_tn .ge (byV bt Z u) (n := 0) (by omega)) (fun c45 => ?_) (fun c45 => absurd (by omega) c45)
    show zq_G _ _ _ _ _ 52 ([(0, .ref 41), (1, .int (byV bt Z u))], [.ref 41], MH c tr tx (nI Z) td dr s im kp (nI u) so (nI u) va wy)
    refine zq_b [zq_il 1] [zq_ilchk 1] 53 rfl (by decide +kernel) ?_
    show zq_G _ _ _ _ _ 53 ([(0, .ref 41), (1, .int (byV bt Z u))], [.int (byV bt Z u), .ref 41], MH c tr tx (nI Z) td dr s im kp (nI u) so (nI u) va wy)
    refine zq_callS (av := [.int (byV bt Z u)]) (rest := [.ref 41]) (by decide +kernel) k12_57 (m_isLetter (x := (byV bt Z u))) rfl rfl ?_
    show zq_G _ _ _ _ _ 56 ([(0, .ref 41), (1, .int (byV bt Z u))], [.int (zb ((97 : Int) ≤ (byV bt Z u).toInt ∧ (byV bt Z u).toInt ≤ (122 : Int))), .ref 41], MH c tr tx (nI Z) td dr s im kp (nI u) so (nI u) va wy)
    refine zq_ifz .eq 63 (¬ ((97 : Int) ≤ (byV bt Z u).toInt ∧ (byV bt Z u).toInt ≤ (122 : Int))) (by decide +kernel) (zb_eq _) (fun c56 => absurd c56 (by omega)) (fun c56 => ?_)
    show zq_G _ _ _ _ _ 59 ([(0, .ref 41), (1, .int (byV bt Z u))], [.ref 41], MH c tr tx (nI Z) td dr s im kp (nI u) so (nI u) va wy)
    refine zq_b [zq_k 1, zq_go, zq_puti 12 9, zq_al 0, zq_il 1, zq_puti 12 11, zq_al 0, zq_get 12 9] [zq_kchk 1, zq_gochk, zq_putchk 12 9 .int, zq_alchk 0, zq_ilchk 1, zq_putchk 12 11 .int, zq_alchk 0, zq_getchk 12 9] 97 rfl (by decide +kernel) ?_
    show zq_G _ _ _ _ _ 97 ([(0, .ref 41), (1, .int (byV bt Z u))], [.int 1], MH c tr tx (nI Z) td dr s im kp (nI u) 1 (nI u) (byV bt Z u) wy)
    refine zq_ifz .eq 110 (1 = 0) (by decide +kernel) (zq_ceq (a := 1) (b := 0) (by omega) (by omega)) (fun c97 => absurd c97 (by decide)) (fun c97 => ?_)
    show zq_G _ _ _ _ _ 100 ([(0, .ref 41), (1, .int (byV bt Z u))], [], MH c tr tx (nI Z) td dr s im kp (nI u) 1 (nI u) (byV bt Z u) wy)
    refine zq_b [zq_al 0, zq_dup, zq_get 12 8, zq_k 1, zq_iadd (nI (u + 1)), zq_puti 12 8] [zq_alchk 0, zq_is .dup 1, zq_getchk 12 8, zq_kchk 1, zq_is .iadd 1, zq_putchk 12 8 .int] 110 rfl (by decide +kernel) ?_
    refine ⟨(nI_add u 1), ?_⟩
    show zq_G _ _ _ _ _ 110 ([(0, .ref 41), (1, .int (byV bt Z u))], [], MH c tr tx (nI Z) td dr s im kp (nI (u + 1)) 1 (nI u) (byV bt Z u) wy)
    refine zq_eq (σ2 := ([(0, .ref 41), (1, .int (byV bt Z u))], [], MH c tr tx (nI Z) td dr s im kp (nI (u + 1 + (0 : Nat))) 1 (nI u) (if (0 : Nat) = 0 then nI (bt u) else 0) wy)) (by rw [byV_n hs]; rfl) ?_
    refine zq_loop (fun i => ([(0, .ref 41), (1, .int (byV bt Z u))], [], MH c tr tx (nI Z) td dr s im kp (nI (u + 1 + i)) 1 (nI u) (if i = 0 then nI (bt u) else 0) wy)) (fun i => True) (e - (u + 1)) (0) (by omega) (trivial) (fun i hl110 hi110 hI110 ih110 => ?_) (fun hI110 => ?_)
    · show zq_G _ _ _ _ _ 110 ([(0, .ref 41), (1, .int (byV bt Z u))], [], MH c tr tx (nI Z) td dr s im kp (nI (u + 1 + i)) 1 (nI u) (if i = 0 then nI (bt u) else 0) wy)
      have hr := hrun (u + 1 + i) (by omega) (by omega)
      refine zq_b [zq_al 0, zq_get 12 9, zq_k 1] [zq_alchk 0, zq_getchk 12 9, zq_kchk 1] 115 rfl (by decide +kernel) ?_
      show zq_G _ _ _ _ _ 115 ([(0, .ref 41), (1, .int (byV bt Z u))], [.int 1, .int 1], MH c tr tx (nI Z) td dr s im kp (nI (u + 1 + i)) 1 (nI u) (if i = 0 then nI (bt u) else 0) wy)
      refine zq_if .ne 150 (¬ 1 = 1) (by decide +kernel) (zq_cne (a := 1) (b := 1) (by omega) (by omega)) (fun c115 => absurd c115 (fun q => q rfl)) (fun c115 => ?_)
      show zq_G _ _ _ _ _ 118 ([(0, .ref 41), (1, .int (byV bt Z u))], [], MH c tr tx (nI Z) td dr s im kp (nI (u + 1 + i)) 1 (nI u) (if i = 0 then nI (bt u) else 0) wy)
      refine zq_b [zq_al 0, zq_al 0, zq_get 12 8] [zq_alchk 0, zq_alchk 0, zq_getchk 12 8] 123 rfl (by decide +kernel) ?_
      show zq_G _ _ _ _ _ 123 ([(0, .ref 41), (1, .int (byV bt Z u))], [.int (nI (u + 1 + i)), .ref 41], MH c tr tx (nI Z) td dr s im kp (nI (u + 1 + i)) 1 (nI u) (if i = 0 then nI (bt u) else 0) wy)
      refine zq_callV (av := [.int (nI (u + 1 + i))]) (rest := []) (by decide +kernel) k12_50 (m_byteAt (i := (u + 1 + i)) hZ hbt (by omega)) rfl rfl rfl rfl ?_
      show zq_G _ _ _ _ _ 126 ([(0, .ref 41), (1, .int (byV bt Z u))], [.int (byV bt Z (u + 1 + i))], MH c tr tx (nI Z) td dr s im kp (nI (u + 1 + i)) 1 (nI u) (if i = 0 then nI (bt u) else 0) wy)
      refine zq_callS (av := [.int (byV bt Z (u + 1 + i))]) (rest := []) (by decide +kernel) k12_57 (m_isLetter (x := (byV bt Z (u + 1 + i)))) rfl rfl ?_
      show zq_G _ _ _ _ _ 129 ([(0, .ref 41), (1, .int (byV bt Z u))], [.int (zb ((97 : Int) ≤ (byV bt Z (u + 1 + i)).toInt ∧ (byV bt Z (u + 1 + i)).toInt ≤ (122 : Int)))], MH c tr tx (nI Z) td dr s im kp (nI (u + 1 + i)) 1 (nI u) (if i = 0 then nI (bt u) else 0) wy)
      refine zq_ifz .eq 150 (¬ ((97 : Int) ≤ (byV bt Z (u + 1 + i)).toInt ∧ (byV bt Z (u + 1 + i)).toInt ≤ (122 : Int))) (by decide +kernel) (zb_eq _) (fun c129 => absurd c129 (fun q => q ((byL (fun z => (hbt _ z).2)).mpr hr))) (fun c129 => ?_)
      show zq_G _ _ _ _ _ 132 ([(0, .ref 41), (1, .int (byV bt Z u))], [], MH c tr tx (nI Z) td dr s im kp (nI (u + 1 + i)) 1 (nI u) (if i = 0 then nI (bt u) else 0) wy)
      refine zq_b [zq_al 0, zq_k 0, zq_puti 12 11, zq_al 0, zq_dup, zq_get 12 8, zq_k 1, zq_iadd (nI (u + 1 + i + 1)), zq_puti 12 8, zq_go] [zq_alchk 0, zq_kchk 0, zq_putchk 12 11 .int, zq_alchk 0, zq_is .dup 1, zq_getchk 12 8, zq_kchk 1, zq_is .iadd 1, zq_putchk 12 8 .int, zq_gochk] 110 rfl (by decide +kernel) ?_
      refine ⟨(nI_add (u + 1 + i) 1), ?_⟩
      show zq_G _ _ _ _ _ 110 ([(0, .ref 41), (1, .int (byV bt Z u))], [], MH c tr tx (nI Z) td dr s im kp (nI (u + 1 + i + 1)) 1 (nI u) 0 wy)
      exact zq_eq (by rw [if_neg (Nat.succ_ne_zero i)]; rfl) (ih110 trivial)
    · show zq_G _ _ _ _ _ 110 ([(0, .ref 41), (1, .int (byV bt Z u))], [], MH c tr tx (nI Z) td dr s im kp (nI (u + 1 + (e - (u + 1)))) 1 (nI u) (if e - (u + 1) = 0 then nI (bt u) else 0) wy)
      refine zq_eq (σ2 := ([(0, .ref 41), (1, .int (byV bt Z u))], [], MH c tr tx (nI Z) td dr s im kp (nI e) 1 (nI u) (if e = u + 1 then nI (bt u) else 0) wy)) (by rw [show u + 1 + (e - (u + 1)) = e by omega, ite_e2 he1]) ?_
      refine zq_b [zq_al 0, zq_get 12 9, zq_k 1] [zq_alchk 0, zq_getchk 12 9, zq_kchk 1] 115 rfl (by decide +kernel) ?_
      show zq_G _ _ _ _ _ 115 ([(0, .ref 41), (1, .int (byV bt Z u))], [.int 1, .int 1], MH c tr tx (nI Z) td dr s im kp (nI e) 1 (nI u) (if e = u + 1 then nI (bt u) else 0) wy)
      refine zq_if .ne 150 (¬ 1 = 1) (by decide +kernel) (zq_cne (a := 1) (b := 1) (by omega) (by omega)) (fun c115 => absurd c115 (fun q => q rfl)) (fun c115 => ?_)
      show zq_G _ _ _ _ _ 118 ([(0, .ref 41), (1, .int (byV bt Z u))], [], MH c tr tx (nI Z) td dr s im kp (nI e) 1 (nI u) (if e = u + 1 then nI (bt u) else 0) wy)
      refine zq_b [zq_al 0, zq_al 0, zq_get 12 8] [zq_alchk 0, zq_alchk 0, zq_getchk 12 8] 123 rfl (by decide +kernel) ?_
      show zq_G _ _ _ _ _ 123 ([(0, .ref 41), (1, .int (byV bt Z u))], [.int (nI e), .ref 41], MH c tr tx (nI Z) td dr s im kp (nI e) 1 (nI u) (if e = u + 1 then nI (bt u) else 0) wy)
      refine zq_callV (av := [.int (nI e)]) (rest := []) (by decide +kernel) k12_50 (m_byteAt (i := e) hZ hbt (by omega)) rfl rfl rfl rfl ?_
      show zq_G _ _ _ _ _ 126 ([(0, .ref 41), (1, .int (byV bt Z u))], [.int (byV bt Z e)], MH c tr tx (nI Z) td dr s im kp (nI e) 1 (nI u) (if e = u + 1 then nI (bt u) else 0) wy)
      refine zq_callS (av := [.int (byV bt Z e)]) (rest := []) (by decide +kernel) k12_57 (m_isLetter (x := (byV bt Z e))) rfl rfl ?_
      show zq_G _ _ _ _ _ 129 ([(0, .ref 41), (1, .int (byV bt Z u))], [.int (zb ((97 : Int) ≤ (byV bt Z e).toInt ∧ (byV bt Z e).toInt ≤ (122 : Int)))], MH c tr tx (nI Z) td dr s im kp (nI e) 1 (nI u) (if e = u + 1 then nI (bt u) else 0) wy)
      refine zq_ifz .eq 150 (¬ ((97 : Int) ≤ (byV bt Z e).toInt ∧ (byV bt Z e).toInt ≤ (122 : Int))) (by decide +kernel) (zb_eq _) (fun c129 => ?_) (fun c129 => absurd (fun q => hend ((byL (fun z => (hbt _ z).2)).mp q)) c129)
      show zq_G _ _ _ _ _ 150 ([(0, .ref 41), (1, .int (byV bt Z u))], [], MH c tr tx (nI Z) td dr s im kp (nI e) 1 (nI u) (if e = u + 1 then nI (bt u) else 0) wy)
      refine zq_b [zq_al 0, zq_get 12 9, zq_k 2] [zq_alchk 0, zq_getchk 12 9, zq_kchk 2] 155 rfl (by decide +kernel) ?_
      show zq_G _ _ _ _ _ 155 ([(0, .ref 41), (1, .int (byV bt Z u))], [.int 2, .int 1], MH c tr tx (nI Z) td dr s im kp (nI e) 1 (nI u) (if e = u + 1 then nI (bt u) else 0) wy)
      refine zq_if .ne 238 (¬ 1 = 2) (by decide +kernel) (zq_cne (a := 1) (b := 2) (by omega) (by omega)) (fun c155 => ?_) (fun c155 => absurd (by decide) c155)
      show zq_G _ _ _ _ _ 238 ([(0, .ref 41), (1, .int (byV bt Z u))], [], MH c tr tx (nI Z) td dr s im kp (nI e) 1 (nI u) (if e = u + 1 then nI (bt u) else 0) wy)
      exact zq_vret (by decide +kernel) rfl rfl rfl
set_option maxHeartbeats 4000000 in
set_option maxRecDepth 100000 in
theorem t_dig {u : Nat} {e : Nat} (hZ : Z ≤ 200) (hbt : ∀ j, j < Z → tx j = nI (bt j) ∧ bt j ≤ 255) (has : a ≤ u) (hsp : ∀ j, a ≤ j → j < u → j < Z ∧ bt j = 32) (hs : u < Z) (hns : ¬ bt u = 32) (hl : ¬ (97 ≤ bt u ∧ bt u ≤ 122)) (hd : 48 ≤ bt u ∧ bt u ≤ 57) (he1 : u + 1 ≤ e) (he2 : e ≤ Z) (hrun : ∀ j, u + 1 ≤ j → j < e → j < Z ∧ digB bt j = true) (hend : ¬ (e < Z ∧ digB bt e = true)) : zq_P l mX12_token 2 [.ref 41] (MH c tr tx (nI Z) td dr s im kp (nI a) so sr va wy) none (MH c tr tx (nI Z) td dr s im kp (nI e) 2 (nI u) (nI (mvS bt u (e - (u + 1)))) wy) := by
  refine zq_start (by decide +kernel) rfl (Nat.le_of_ble_eq_true rfl) ?_
  show zq_G _ _ _ _ _ 0 ([(0, .ref 41)], [], MH c tr tx (nI Z) td dr s im kp (nI a) so sr va wy)
  refine zq_loop (fun i => ([(0, .ref 41)], [], MH c tr tx (nI Z) td dr s im kp (nI (a + i)) so sr va wy)) (fun i => True) (u - a) (0) (by omega) (trivial) (fun i hl0 hi0 hI0 ih0 => ?_) (fun hI0 => ?_)
  · show zq_G _ _ _ _ _ 0 ([(0, .ref 41)], [], MH c tr tx (nI Z) td dr s im kp (nI (a + i)) so sr va wy)
    have hr := hsp (a + i) (by omega) (by omega)
    have hby := byV_i hr.1 (hbt (a + i) hr.1).2
    refine zq_b [zq_al 0, zq_al 0, zq_get 12 8] [zq_alchk 0, zq_alchk 0, zq_getchk 12 8] 5 rfl (by decide +kernel) ?_
    show zq_G _ _ _ _ _ 5 ([(0, .ref 41)], [.int (nI (a + i)), .ref 41], MH c tr tx (nI Z) td dr s im kp (nI (a + i)) so sr va wy)
    refine zq_callV (av := [.int (nI (a + i))]) (rest := []) (by decide +kernel) k12_50 (m_byteAt (i := (a + i)) hZ hbt (by omega)) rfl rfl rfl rfl ?_
    show zq_G _ _ _ _ _ 8 ([(0, .ref 41)], [.int (byV bt Z (a + i))], MH c tr tx (nI Z) td dr s im kp (nI (a + i)) so sr va wy)
    refine zq_b [zq_k 32] [zq_kchk 32] 10 rfl (by decide +kernel) ?_
    show zq_G _ _ _ _ _ 10 ([(0, .ref 41)], [.int 32, .int (byV bt Z (a + i))], MH c tr tx (nI Z) td dr s im kp (nI (a + i)) so sr va wy)
    refine zq_if .ne 26 (¬ (byV bt Z (a + i)).toInt = (32 : Int)) (by decide +kernel) (zq_tn .ne (byV bt Z (a + i)) (n := 32) (by omega)) (fun c10 => absurd c10 (by omega)) (fun c10 => ?_)
    show zq_G _ _ _ _ _ 13 ([(0, .ref 41)], [], MH c tr tx (nI Z) td dr s im kp (nI (a + i)) so sr va wy)
    refine zq_b [zq_al 0, zq_dup, zq_get 12 8, zq_k 1, zq_iadd (nI (a + i + 1)), zq_puti 12 8, zq_go] [zq_alchk 0, zq_is .dup 1, zq_getchk 12 8, zq_kchk 1, zq_is .iadd 1, zq_putchk 12 8 .int, zq_gochk] 0 rfl (by decide +kernel) ?_
    refine ⟨(nI_add (a + i) 1), ?_⟩
    show zq_G _ _ _ _ _ 0 ([(0, .ref 41)], [], MH c tr tx (nI Z) td dr s im kp (nI (a + i + 1)) so sr va wy)
    exact ih0 trivial
  · show zq_G _ _ _ _ _ 0 ([(0, .ref 41)], [], MH c tr tx (nI Z) td dr s im kp (nI (a + (u - a))) so sr va wy)
    have hby := byV_i hs (hbt u hs).2
    refine zq_eq (σ2 := ([(0, .ref 41)], [], MH c tr tx (nI Z) td dr s im kp (nI u) so sr va wy)) (by rw [show a + (u - a) = u by omega]) ?_
    refine zq_b [zq_al 0, zq_al 0, zq_get 12 8] [zq_alchk 0, zq_alchk 0, zq_getchk 12 8] 5 rfl (by decide +kernel) ?_
    show zq_G _ _ _ _ _ 5 ([(0, .ref 41)], [.int (nI u), .ref 41], MH c tr tx (nI Z) td dr s im kp (nI u) so sr va wy)
    refine zq_callV (av := [.int (nI u)]) (rest := []) (by decide +kernel) k12_50 (m_byteAt (i := u) hZ hbt (by omega)) rfl rfl rfl rfl ?_
    show zq_G _ _ _ _ _ 8 ([(0, .ref 41)], [.int (byV bt Z u)], MH c tr tx (nI Z) td dr s im kp (nI u) so sr va wy)
    refine zq_b [zq_k 32] [zq_kchk 32] 10 rfl (by decide +kernel) ?_
    show zq_G _ _ _ _ _ 10 ([(0, .ref 41)], [.int 32, .int (byV bt Z u)], MH c tr tx (nI Z) td dr s im kp (nI u) so sr va wy)
    refine zq_if .ne 26 (¬ (byV bt Z u).toInt = (32 : Int)) (by decide +kernel) (zq_tn .ne (byV bt Z u) (n := 32) (by omega)) (fun c10 => ?_) (fun c10 => absurd (by omega) c10)
    show zq_G _ _ _ _ _ 26 ([(0, .ref 41)], [], MH c tr tx (nI Z) td dr s im kp (nI u) so sr va wy)
    refine zq_b [zq_al 0, zq_al 0, zq_get 12 8, zq_puti 12 10, zq_al 0, zq_al 0, zq_get 12 8] [zq_alchk 0, zq_alchk 0, zq_getchk 12 8, zq_putchk 12 10 .int, zq_alchk 0, zq_alchk 0, zq_getchk 12 8] 39 rfl (by decide +kernel) ?_
    show zq_G _ _ _ _ _ 39 ([(0, .ref 41)], [.int (nI u), .ref 41], MH c tr tx (nI Z) td dr s im kp (nI u) so (nI u) va wy)
    refine zq_callV (av := [.int (nI u)]) (rest := []) (by decide +kernel) k12_50 (m_byteAt (i := u) hZ hbt (by omega)) rfl rfl rfl rfl ?_
    show zq_G _ _ _ _ _ 42 ([(0, .ref 41)], [.int (byV bt Z u)], MH c tr tx (nI Z) td dr s im kp (nI u) so (nI u) va wy)
    refine zq_b [zq_is1 1, zq_al 0, zq_il 1] [zq_is1chk 1, zq_alchk 0, zq_ilchk 1] 45 rfl (by decide +kernel) ?_
    show zq_G _ _ _ _ _ 45 ([(0, .ref 41), (1, .int (byV bt Z u))], [.int (byV bt Z u), .ref 41], MH c tr tx (nI Z) td dr s im kp (nI u) so (nI u) va wy)
    refine zq_ifz .ge 52 ((0 : Int) ≤ (byV bt Z u).toInt) (by decide +kernel) (zq_tn .ge (byV bt Z u) (n := 0) (by omega)) (fun c45 => ?_) (fun c45 => absurd (by omega) c45)
    show zq_G _ _ _ _ _ 52 ([(0, .ref 41), (1, .int (byV bt Z u))], [.ref 41], MH c tr tx (nI Z) td dr s im kp (nI u) so (nI u) va wy)
    refine zq_b [zq_il 1] [zq_ilchk 1] 53 rfl (by decide +kernel) ?_
    show zq_G _ _ _ _ _ 53 ([(0, .ref 41), (1, .int (byV bt Z u))], [.int (byV bt Z u), .ref 41], MH c tr tx (nI Z) td dr s im kp (nI u) so (nI u) va wy)
    refine zq_callS (av := [.int (byV bt Z u)]) (rest := [.ref 41]) (by decide +kernel) k12_57 (m_isLetter (x := (byV bt Z u))) rfl rfl ?_
    show zq_G _ _ _ _ _ 56 ([(0, .ref 41), (1, .int (byV bt Z u))], [.int (zb ((97 : Int) ≤ (byV bt Z u).toInt ∧ (byV bt Z u).toInt ≤ (122 : Int))), .ref 41], MH c tr tx (nI Z) td dr s im kp (nI u) so (nI u) va wy)
    refine zq_ifz .eq 63 (¬ ((97 : Int) ≤ (byV bt Z u).toInt ∧ (byV bt Z u).toInt ≤ (122 : Int))) (by decide +kernel) (zb_eq _) (fun c56 => ?_) (fun c56 => absurd (by omega) c56)
    show zq_G _ _ _ _ _ 63 ([(0, .ref 41), (1, .int (byV bt Z u))], [.ref 41], MH c tr tx (nI Z) td dr s im kp (nI u) so (nI u) va wy)
    refine zq_b [zq_il 1] [zq_ilchk 1] 64 rfl (by decide +kernel) ?_
    show zq_G _ _ _ _ _ 64 ([(0, .ref 41), (1, .int (byV bt Z u))], [.int (byV bt Z u), .ref 41], MH c tr tx (nI Z) td dr s im kp (nI u) so (nI u) va wy)
    refine zq_callS (av := [.int (byV bt Z u)]) (rest := [.ref 41]) (by decide +kernel) k12_61 (m_isDigit (x := (byV bt Z u))) rfl rfl ?_
    show zq_G _ _ _ _ _ 67 ([(0, .ref 41), (1, .int (byV bt Z u))], [.int (zb ((48 : Int) ≤ (byV bt Z u).toInt ∧ (byV bt Z u).toInt ≤ (57 : Int))), .ref 41], MH c tr tx (nI Z) td dr s im kp (nI u) so (nI u) va wy)
    refine zq_ifz .eq 74 (¬ ((48 : Int) ≤ (byV bt Z u).toInt ∧ (byV bt Z u).toInt ≤ (57 : Int))) (by decide +kernel) (zb_eq _) (fun c67 => absurd c67 (by omega)) (fun c67 => ?_)
    show zq_G _ _ _ _ _ 70 ([(0, .ref 41), (1, .int (byV bt Z u))], [.ref 41], MH c tr tx (nI Z) td dr s im kp (nI u) so (nI u) va wy)
    refine zq_b [zq_k 2, zq_go, zq_puti 12 9, zq_al 0, zq_il 1, zq_puti 12 11, zq_al 0, zq_get 12 9] [zq_kchk 2, zq_gochk, zq_putchk 12 9 .int, zq_alchk 0, zq_ilchk 1, zq_putchk 12 11 .int, zq_alchk 0, zq_getchk 12 9] 97 rfl (by decide +kernel) ?_
    show zq_G _ _ _ _ _ 97 ([(0, .ref 41), (1, .int (byV bt Z u))], [.int 2], MH c tr tx (nI Z) td dr s im kp (nI u) 2 (nI u) (byV bt Z u) wy)
    refine zq_ifz .eq 110 (2 = 0) (by decide +kernel) (zq_ceq (a := 2) (b := 0) (by omega) (by omega)) (fun c97 => absurd c97 (by decide)) (fun c97 => ?_)
    show zq_G _ _ _ _ _ 100 ([(0, .ref 41), (1, .int (byV bt Z u))], [], MH c tr tx (nI Z) td dr s im kp (nI u) 2 (nI u) (byV bt Z u) wy)
    refine zq_b [zq_al 0, zq_dup, zq_get 12 8, zq_k 1, zq_iadd (nI (u + 1)), zq_puti 12 8, zq_al 0, zq_get 12 9, zq_k 1] [zq_alchk 0, zq_is .dup 1, zq_getchk 12 8, zq_kchk 1, zq_is .iadd 1, zq_putchk 12 8 .int, zq_alchk 0, zq_getchk 12 9, zq_kchk 1] 115 rfl (by decide +kernel) ?_
    refine ⟨(nI_add u 1), ?_⟩
    show zq_G _ _ _ _ _ 115 ([(0, .ref 41), (1, .int (byV bt Z u))], [.int 1, .int 2], MH c tr tx (nI Z) td dr s im kp (nI (u + 1)) 2 (nI u) (byV bt Z u) wy)
    refine zq_if .ne 150 (¬ 2 = 1) (by decide +kernel) (zq_cne (a := 2) (b := 1) (by omega) (by omega)) (fun c115 => ?_) (fun c115 => absurd (by decide) c115)
    show zq_G _ _ _ _ _ 150 ([(0, .ref 41), (1, .int (byV bt Z u))], [], MH c tr tx (nI Z) td dr s im kp (nI (u + 1)) 2 (nI u) (byV bt Z u) wy)
    refine zq_b [zq_al 0, zq_get 12 9, zq_k 2] [zq_alchk 0, zq_getchk 12 9, zq_kchk 2] 155 rfl (by decide +kernel) ?_
    show zq_G _ _ _ _ _ 155 ([(0, .ref 41), (1, .int (byV bt Z u))], [.int 2, .int 2], MH c tr tx (nI Z) td dr s im kp (nI (u + 1)) 2 (nI u) (byV bt Z u) wy)
    refine zq_if .ne 238 (¬ 2 = 2) (by decide +kernel) (zq_cne (a := 2) (b := 2) (by omega) (by omega)) (fun c155 => absurd c155 (fun q => q rfl)) (fun c155 => ?_)
    show zq_G _ _ _ _ _ 158 ([(0, .ref 41), (1, .int (byV bt Z u))], [], MH c tr tx (nI Z) td dr s im kp (nI (u + 1)) 2 (nI u) (byV bt Z u) wy)
    refine zq_b [zq_al 0, zq_il 1, zq_k 48, zq_isub (nI (bt u - 48)), zq_puti 12 11] [zq_alchk 0, zq_ilchk 1, zq_kchk 48, zq_is .isub 1, zq_putchk 12 11 .int] 166 rfl (by decide +kernel) ?_
    refine ⟨(by rw [byV_n hs]; exact pk_sub (a := bt u) (b := 48) (by omega)), ?_⟩
    show zq_G _ _ _ _ _ 166 ([(0, .ref 41), (1, .int (byV bt Z u))], [], MH c tr tx (nI Z) td dr s im kp (nI (u + 1)) 2 (nI u) (nI (bt u - 48)) wy)
    refine zq_eq (σ2 := ([(0, .ref 41), (1, .int (byV bt Z u))], [], MH c tr tx (nI Z) td dr s im kp (nI (u + 1 + (0 : Nat))) 2 (nI u) (nI (mvS bt u (0 : Nat))) wy)) (rfl) ?_
    refine zq_loop (fun i => ([(0, .ref 41), (1, .int (byV bt Z u))], [], MH c tr tx (nI Z) td dr s im kp (nI (u + 1 + i)) 2 (nI u) (nI (mvS bt u i)) wy)) (fun i => True) (e - (u + 1)) (0) (by omega) (trivial) (fun i hl166 hi166 hI166 ih166 => ?_) (fun hI166 => ?_)
    · show zq_G _ _ _ _ _ 166 ([(0, .ref 41), (1, .int (byV bt Z u))], [], MH c tr tx (nI Z) td dr s im kp (nI (u + 1 + i)) 2 (nI u) (nI (mvS bt u i)) wy)
      have hr := hrun (u + 1 + i) (by omega) (by omega)
      have hbi := (hbt (u + 1 + i) hr.1).2
      have hdg := of_decide_eq_true hr.2
      have hle := mvS_le (bt := bt) (s := u) (hbt u hs).2 i (fun j hj => (hbt _ (by omega)).2)
      refine zq_b [zq_al 0, zq_al 0, zq_get 12 8] [zq_alchk 0, zq_alchk 0, zq_getchk 12 8] 171 rfl (by decide +kernel) ?_
      show zq_G _ _ _ _ _ 171 ([(0, .ref 41), (1, .int (byV bt Z u))], [.int (nI (u + 1 + i)), .ref 41], MH c tr tx (nI Z) td dr s im kp (nI (u + 1 + i)) 2 (nI u) (nI (mvS bt u i)) wy)
      refine zq_callV (av := [.int (nI (u + 1 + i))]) (rest := []) (by decide +kernel) k12_50 (m_byteAt (i := (u + 1 + i)) hZ hbt (by omega)) rfl rfl rfl rfl ?_
      show zq_G _ _ _ _ _ 174 ([(0, .ref 41), (1, .int (byV bt Z u))], [.int (byV bt Z (u + 1 + i))], MH c tr tx (nI Z) td dr s im kp (nI (u + 1 + i)) 2 (nI u) (nI (mvS bt u i)) wy)
      refine zq_callS (av := [.int (byV bt Z (u + 1 + i))]) (rest := []) (by decide +kernel) k12_61 (m_isDigit (x := (byV bt Z (u + 1 + i)))) rfl rfl ?_
      show zq_G _ _ _ _ _ 177 ([(0, .ref 41), (1, .int (byV bt Z u))], [.int (zb ((48 : Int) ≤ (byV bt Z (u + 1 + i)).toInt ∧ (byV bt Z (u + 1 + i)).toInt ≤ (57 : Int)))], MH c tr tx (nI Z) td dr s im kp (nI (u + 1 + i)) 2 (nI u) (nI (mvS bt u i)) wy)
      refine zq_ifz .eq 238 (¬ ((48 : Int) ≤ (byV bt Z (u + 1 + i)).toInt ∧ (byV bt Z (u + 1 + i)).toInt ≤ (57 : Int))) (by decide +kernel) (zb_eq _) (fun c177 => absurd c177 (fun q => q ((byD (fun z => (hbt _ z).2)).mpr hr))) (fun c177 => ?_)
      show zq_G _ _ _ _ _ 180 ([(0, .ref 41), (1, .int (byV bt Z u))], [], MH c tr tx (nI Z) td dr s im kp (nI (u + 1 + i)) 2 (nI u) (nI (mvS bt u i)) wy)
      refine zq_b [zq_al 0, zq_il 1, zq_k 48] [zq_alchk 0, zq_ilchk 1, zq_kchk 48] 184 rfl (by decide +kernel) ?_
      show zq_G _ _ _ _ _ 184 ([(0, .ref 41), (1, .int (byV bt Z u))], [.int 48, .int (byV bt Z u), .ref 41], MH c tr tx (nI Z) td dr s im kp (nI (u + 1 + i)) 2 (nI u) (nI (mvS bt u i)) wy)
      refine zq_if .eq 196 ((byV bt Z u).toInt = (48 : Int)) (by decide +kernel) (zq_tn .eq (byV bt Z u) (n := 48) (by omega)) (fun c184 => ?_) (fun c184 => ?_)
      · show zq_G _ _ _ _ _ 196 ([(0, .ref 41), (1, .int (byV bt Z u))], [.ref 41], MH c tr tx (nI Z) td dr s im kp (nI (u + 1 + i)) 2 (nI u) (nI (mvS bt u i)) wy)
        refine zq_b [zq_k 1000, zq_go, zq_puti 12 11, zq_al 0, zq_dup, zq_get 12 8, zq_k 1, zq_iadd (nI (u + 1 + i + 1)), zq_puti 12 8, zq_go] [zq_kchk 1000, zq_gochk, zq_putchk 12 11 .int, zq_alchk 0, zq_is .dup 1, zq_getchk 12 8, zq_kchk 1, zq_is .iadd 1, zq_putchk 12 8 .int, zq_gochk] 166 rfl (by decide +kernel) ?_
        refine ⟨(nI_add (u + 1 + i) 1), ?_⟩
        show zq_G _ _ _ _ _ 166 ([(0, .ref 41), (1, .int (byV bt Z u))], [], MH c tr tx (nI Z) td dr s im kp (nI (u + 1 + i + 1)) 2 (nI u) 1000 wy)
        exact zq_eq (by rw [mvS_t (bt := bt) (s := u) (i := i) (Or.inl (by omega))]; rfl) (ih166 trivial)
      · show zq_G _ _ _ _ _ 187 ([(0, .ref 41), (1, .int (byV bt Z u))], [.ref 41], MH c tr tx (nI Z) td dr s im kp (nI (u + 1 + i)) 2 (nI u) (nI (mvS bt u i)) wy)
        refine zq_b [zq_al 0, zq_get 12 11, zq_k 99] [zq_alchk 0, zq_getchk 12 11, zq_kchk 99] 193 rfl (by decide +kernel) ?_
        show zq_G _ _ _ _ _ 193 ([(0, .ref 41), (1, .int (byV bt Z u))], [.int 99, .int (nI (mvS bt u i)), .ref 41], MH c tr tx (nI Z) td dr s im kp (nI (u + 1 + i)) 2 (nI u) (nI (mvS bt u i)) wy)
        refine zq_if .le 202 ((mvS bt u i) ≤ 99) (by decide +kernel) (zq_cle (a := mvS bt u i) (b := 99) (by omega) (by omega)) (fun c193 => ?_) (fun c193 => ?_)
        · show zq_G _ _ _ _ _ 202 ([(0, .ref 41), (1, .int (byV bt Z u))], [.ref 41], MH c tr tx (nI Z) td dr s im kp (nI (u + 1 + i)) 2 (nI u) (nI (mvS bt u i)) wy)
          refine zq_b [zq_k 10, zq_al 0, zq_get 12 11, zq_imul (nI (10 * (mvS bt u i))), zq_al 0, zq_get 12 1, zq_al 0, zq_get 12 8, zq_iald (u + 1 + i) (nI (bt (u + 1 + i))), zq_iadd (nI ((10 * (mvS bt u i)) + (bt (u + 1 + i)))), zq_k 48, zq_isub (nI (10 * mvS bt u i + bt (u + 1 + i) - 48)), zq_puti 12 11, zq_al 0, zq_dup, zq_get 12 8, zq_k 1, zq_iadd (nI (u + 1 + i + 1)), zq_puti 12 8, zq_go] [zq_kchk 10, zq_alchk 0, zq_getchk 12 11, zq_is .imul 1, zq_alchk 0, zq_getchk 12 1, zq_alchk 0, zq_getchk 12 8, zq_is .iaload 1, zq_is .iadd 1, zq_kchk 48, zq_is .isub 1, zq_putchk 12 11 .int, zq_alchk 0, zq_is .dup 1, zq_getchk 12 8, zq_kchk 1, zq_is .iadd 1, zq_putchk 12 8 .int, zq_gochk] 166 rfl (by decide +kernel) ?_
          refine ⟨(pk_mul 10 (mvS bt u i)), rfl, (by omega), (by omega), (hbt _ (by omega)).1, (nI_add (10 * (mvS bt u i)) (bt (u + 1 + i))), (pk_sub (a := 10 * mvS bt u i + bt (u + 1 + i)) (b := 48) (by omega)), (nI_add (u + 1 + i) 1), ?_⟩
          show zq_G _ _ _ _ _ 166 ([(0, .ref 41), (1, .int (byV bt Z u))], [], MH c tr tx (nI Z) td dr s im kp (nI (u + 1 + i + 1)) 2 (nI u) (nI (10 * mvS bt u i + bt (u + 1 + i) - 48)) wy)
          exact zq_eq (by rw [mvS_f (bt := bt) (s := u) (i := i) (by omega)]; rfl) (ih166 trivial)
        · show zq_G _ _ _ _ _ 196 ([(0, .ref 41), (1, .int (byV bt Z u))], [.ref 41], MH c tr tx (nI Z) td dr s im kp (nI (u + 1 + i)) 2 (nI u) (nI (mvS bt u i)) wy)
          refine zq_b [zq_k 1000, zq_go, zq_puti 12 11, zq_al 0, zq_dup, zq_get 12 8, zq_k 1, zq_iadd (nI (u + 1 + i + 1)), zq_puti 12 8, zq_go] [zq_kchk 1000, zq_gochk, zq_putchk 12 11 .int, zq_alchk 0, zq_is .dup 1, zq_getchk 12 8, zq_kchk 1, zq_is .iadd 1, zq_putchk 12 8 .int, zq_gochk] 166 rfl (by decide +kernel) ?_
          refine ⟨(nI_add (u + 1 + i) 1), ?_⟩
          show zq_G _ _ _ _ _ 166 ([(0, .ref 41), (1, .int (byV bt Z u))], [], MH c tr tx (nI Z) td dr s im kp (nI (u + 1 + i + 1)) 2 (nI u) 1000 wy)
          exact zq_eq (by rw [mvS_t (bt := bt) (s := u) (i := i) (Or.inr (by omega))]; rfl) (ih166 trivial)
    · show zq_G _ _ _ _ _ 166 ([(0, .ref 41), (1, .int (byV bt Z u))], [], MH c tr tx (nI Z) td dr s im kp (nI (u + 1 + (e - (u + 1)))) 2 (nI u) (nI (mvS bt u (e - (u + 1)))) wy)
      refine zq_eq (σ2 := ([(0, .ref 41), (1, .int (byV bt Z u))], [], MH c tr tx (nI Z) td dr s im kp (nI e) 2 (nI u) (nI (mvS bt u (e - (u + 1)))) wy)) (by rw [show u + 1 + (e - (u + 1)) = e by omega]) ?_
      refine zq_b [zq_al 0, zq_al 0, zq_get 12 8] [zq_alchk 0, zq_alchk 0, zq_getchk 12 8] 171 rfl (by decide +kernel) ?_
      show zq_G _ _ _ _ _ 171 ([(0, .ref 41), (1, .int (byV bt Z u))], [.int (nI e), .ref 41], MH c tr tx (nI Z) td dr s im kp (nI e) 2 (nI u) (nI (mvS bt u (e - (u + 1)))) wy)
      refine zq_callV (av := [.int (nI e)]) (rest := []) (by decide +kernel) k12_50 (m_byteAt (i := e) hZ hbt (by omega)) rfl rfl rfl rfl ?_
      show zq_G _ _ _ _ _ 174 ([(0, .ref 41), (1, .int (byV bt Z u))], [.int (byV bt Z e)], MH c tr tx (nI Z) td dr s im kp (nI e) 2 (nI u) (nI (mvS bt u (e - (u + 1)))) wy)
      refine zq_callS (av := [.int (byV bt Z e)]) (rest := []) (by decide +kernel) k12_61 (m_isDigit (x := (byV bt Z e))) rfl rfl ?_
      show zq_G _ _ _ _ _ 177 ([(0, .ref 41), (1, .int (byV bt Z u))], [.int (zb ((48 : Int) ≤ (byV bt Z e).toInt ∧ (byV bt Z e).toInt ≤ (57 : Int)))], MH c tr tx (nI Z) td dr s im kp (nI e) 2 (nI u) (nI (mvS bt u (e - (u + 1)))) wy)
      refine zq_ifz .eq 238 (¬ ((48 : Int) ≤ (byV bt Z e).toInt ∧ (byV bt Z e).toInt ≤ (57 : Int))) (by decide +kernel) (zb_eq _) (fun c177 => ?_) (fun c177 => absurd (fun q => hend ((byD (fun z => (hbt _ z).2)).mp q)) c177)
      show zq_G _ _ _ _ _ 238 ([(0, .ref 41), (1, .int (byV bt Z u))], [], MH c tr tx (nI Z) td dr s im kp (nI e) 2 (nI u) (nI (mvS bt u (e - (u + 1)))) wy)
      exact zq_vret (by decide +kernel) rfl rfl rfl
set_option maxHeartbeats 4000000 in
set_option maxRecDepth 100000 in
theorem t_stop {u : Nat} (hZ : Z ≤ 200) (hbt : ∀ j, j < Z → tx j = nI (bt j) ∧ bt j ≤ 255) (has : a ≤ u) (hsp : ∀ j, a ≤ j → j < u → j < Z ∧ bt j = 32) (hs : u < Z) (hns : ¬ bt u = 32) (hl : ¬ (97 ≤ bt u ∧ bt u ≤ 122)) (hd : ¬ (48 ≤ bt u ∧ bt u ≤ 57)) (h59 : bt u = 59) : zq_P l mX12_token 2 [.ref 41] (MH c tr tx (nI Z) td dr s im kp (nI a) so sr va wy) none (MH c tr tx (nI Z) td dr s im kp (nI (u + 1)) 3 (nI u) (byV bt Z u) wy) := by
  refine zq_start (by decide +kernel) rfl (Nat.le_of_ble_eq_true rfl) ?_
  show zq_G _ _ _ _ _ 0 ([(0, .ref 41)], [], MH c tr tx (nI Z) td dr s im kp (nI a) so sr va wy)
  refine zq_loop (fun i => ([(0, .ref 41)], [], MH c tr tx (nI Z) td dr s im kp (nI (a + i)) so sr va wy)) (fun i => True) (u - a) (0) (by omega) (trivial) (fun i hl0 hi0 hI0 ih0 => ?_) (fun hI0 => ?_)
  · show zq_G _ _ _ _ _ 0 ([(0, .ref 41)], [], MH c tr tx (nI Z) td dr s im kp (nI (a + i)) so sr va wy)
    have hr := hsp (a + i) (by omega) (by omega)
    have hby := byV_i hr.1 (hbt (a + i) hr.1).2
    refine zq_b [zq_al 0, zq_al 0, zq_get 12 8] [zq_alchk 0, zq_alchk 0, zq_getchk 12 8] 5 rfl (by decide +kernel) ?_
    show zq_G _ _ _ _ _ 5 ([(0, .ref 41)], [.int (nI (a + i)), .ref 41], MH c tr tx (nI Z) td dr s im kp (nI (a + i)) so sr va wy)
    refine zq_callV (av := [.int (nI (a + i))]) (rest := []) (by decide +kernel) k12_50 (m_byteAt (i := (a + i)) hZ hbt (by omega)) rfl rfl rfl rfl ?_
    show zq_G _ _ _ _ _ 8 ([(0, .ref 41)], [.int (byV bt Z (a + i))], MH c tr tx (nI Z) td dr s im kp (nI (a + i)) so sr va wy)
    refine zq_b [zq_k 32] [zq_kchk 32] 10 rfl (by decide +kernel) ?_
    show zq_G _ _ _ _ _ 10 ([(0, .ref 41)], [.int 32, .int (byV bt Z (a + i))], MH c tr tx (nI Z) td dr s im kp (nI (a + i)) so sr va wy)
    refine zq_if .ne 26 (¬ (byV bt Z (a + i)).toInt = (32 : Int)) (by decide +kernel) (zq_tn .ne (byV bt Z (a + i)) (n := 32) (by omega)) (fun c10 => absurd c10 (by omega)) (fun c10 => ?_)
    show zq_G _ _ _ _ _ 13 ([(0, .ref 41)], [], MH c tr tx (nI Z) td dr s im kp (nI (a + i)) so sr va wy)
    refine zq_b [zq_al 0, zq_dup, zq_get 12 8, zq_k 1, zq_iadd (nI (a + i + 1)), zq_puti 12 8, zq_go] [zq_alchk 0, zq_is .dup 1, zq_getchk 12 8, zq_kchk 1, zq_is .iadd 1, zq_putchk 12 8 .int, zq_gochk] 0 rfl (by decide +kernel) ?_
    refine ⟨(nI_add (a + i) 1), ?_⟩
    show zq_G _ _ _ _ _ 0 ([(0, .ref 41)], [], MH c tr tx (nI Z) td dr s im kp (nI (a + i + 1)) so sr va wy)
    exact ih0 trivial
  · show zq_G _ _ _ _ _ 0 ([(0, .ref 41)], [], MH c tr tx (nI Z) td dr s im kp (nI (a + (u - a))) so sr va wy)
    have hby := byV_i hs (hbt u hs).2
    refine zq_eq (σ2 := ([(0, .ref 41)], [], MH c tr tx (nI Z) td dr s im kp (nI u) so sr va wy)) (by rw [show a + (u - a) = u by omega]) ?_
    refine zq_b [zq_al 0, zq_al 0, zq_get 12 8] [zq_alchk 0, zq_alchk 0, zq_getchk 12 8] 5 rfl (by decide +kernel) ?_
    show zq_G _ _ _ _ _ 5 ([(0, .ref 41)], [.int (nI u), .ref 41], MH c tr tx (nI Z) td dr s im kp (nI u) so sr va wy)
    refine zq_callV (av := [.int (nI u)]) (rest := []) (by decide +kernel) k12_50 (m_byteAt (i := u) hZ hbt (by omega)) rfl rfl rfl rfl ?_
    show zq_G _ _ _ _ _ 8 ([(0, .ref 41)], [.int (byV bt Z u)], MH c tr tx (nI Z) td dr s im kp (nI u) so sr va wy)
    refine zq_b [zq_k 32] [zq_kchk 32] 10 rfl (by decide +kernel) ?_
    show zq_G _ _ _ _ _ 10 ([(0, .ref 41)], [.int 32, .int (byV bt Z u)], MH c tr tx (nI Z) td dr s im kp (nI u) so sr va wy)
    refine zq_if .ne 26 (¬ (byV bt Z u).toInt = (32 : Int)) (by decide +kernel) (zq_tn .ne (byV bt Z u) (n := 32) (by omega)) (fun c10 => ?_) (fun c10 => absurd (by omega) c10)
    show zq_G _ _ _ _ _ 26 ([(0, .ref 41)], [], MH c tr tx (nI Z) td dr s im kp (nI u) so sr va wy)
    refine zq_b [zq_al 0, zq_al 0, zq_get 12 8, zq_puti 12 10, zq_al 0, zq_al 0, zq_get 12 8] [zq_alchk 0, zq_alchk 0, zq_getchk 12 8, zq_putchk 12 10 .int, zq_alchk 0, zq_alchk 0, zq_getchk 12 8] 39 rfl (by decide +kernel) ?_
    show zq_G _ _ _ _ _ 39 ([(0, .ref 41)], [.int (nI u), .ref 41], MH c tr tx (nI Z) td dr s im kp (nI u) so (nI u) va wy)
    refine zq_callV (av := [.int (nI u)]) (rest := []) (by decide +kernel) k12_50 (m_byteAt (i := u) hZ hbt (by omega)) rfl rfl rfl rfl ?_
    show zq_G _ _ _ _ _ 42 ([(0, .ref 41)], [.int (byV bt Z u)], MH c tr tx (nI Z) td dr s im kp (nI u) so (nI u) va wy)
    refine zq_b [zq_is1 1, zq_al 0, zq_il 1] [zq_is1chk 1, zq_alchk 0, zq_ilchk 1] 45 rfl (by decide +kernel) ?_
    show zq_G _ _ _ _ _ 45 ([(0, .ref 41), (1, .int (byV bt Z u))], [.int (byV bt Z u), .ref 41], MH c tr tx (nI Z) td dr s im kp (nI u) so (nI u) va wy)
    refine zq_ifz .ge 52 ((0 : Int) ≤ (byV bt Z u).toInt) (by decide +kernel) (zq_tn .ge (byV bt Z u) (n := 0) (by omega)) (fun c45 => ?_) (fun c45 => absurd (by omega) c45)
    show zq_G _ _ _ _ _ 52 ([(0, .ref 41), (1, .int (byV bt Z u))], [.ref 41], MH c tr tx (nI Z) td dr s im kp (nI u) so (nI u) va wy)
    refine zq_b [zq_il 1] [zq_ilchk 1] 53 rfl (by decide +kernel) ?_
    show zq_G _ _ _ _ _ 53 ([(0, .ref 41), (1, .int (byV bt Z u))], [.int (byV bt Z u), .ref 41], MH c tr tx (nI Z) td dr s im kp (nI u) so (nI u) va wy)
    refine zq_callS (av := [.int (byV bt Z u)]) (rest := [.ref 41]) (by decide +kernel) k12_57 (m_isLetter (x := (byV bt Z u))) rfl rfl ?_
    show zq_G _ _ _ _ _ 56 ([(0, .ref 41), (1, .int (byV bt Z u))], [.int (zb ((97 : Int) ≤ (byV bt Z u).toInt ∧ (byV bt Z u).toInt ≤ (122 : Int))), .ref 41], MH c tr tx (nI Z) td dr s im kp (nI u) so (nI u) va wy)
    refine zq_ifz .eq 63 (¬ ((97 : Int) ≤ (byV bt Z u).toInt ∧ (byV bt Z u).toInt ≤ (122 : Int))) (by decide +kernel) (zb_eq _) (fun c56 => ?_) (fun c56 => absurd (by omega) c56)
    show zq_G _ _ _ _ _ 63 ([(0, .ref 41), (1, .int (byV bt Z u))], [.ref 41], MH c tr tx (nI Z) td dr s im kp (nI u) so (nI u) va wy)
    refine zq_b [zq_il 1] [zq_ilchk 1] 64 rfl (by decide +kernel) ?_
    show zq_G _ _ _ _ _ 64 ([(0, .ref 41), (1, .int (byV bt Z u))], [.int (byV bt Z u), .ref 41], MH c tr tx (nI Z) td dr s im kp (nI u) so (nI u) va wy)
    refine zq_callS (av := [.int (byV bt Z u)]) (rest := [.ref 41]) (by decide +kernel) k12_61 (m_isDigit (x := (byV bt Z u))) rfl rfl ?_
    show zq_G _ _ _ _ _ 67 ([(0, .ref 41), (1, .int (byV bt Z u))], [.int (zb ((48 : Int) ≤ (byV bt Z u).toInt ∧ (byV bt Z u).toInt ≤ (57 : Int))), .ref 41], MH c tr tx (nI Z) td dr s im kp (nI u) so (nI u) va wy)
    refine zq_ifz .eq 74 (¬ ((48 : Int) ≤ (byV bt Z u).toInt ∧ (byV bt Z u).toInt ≤ (57 : Int))) (by decide +kernel) (zb_eq _) (fun c67 => ?_) (fun c67 => absurd (by omega) c67)
    show zq_G _ _ _ _ _ 74 ([(0, .ref 41), (1, .int (byV bt Z u))], [.ref 41], MH c tr tx (nI Z) td dr s im kp (nI u) so (nI u) va wy)
    refine zq_b [zq_il 1, zq_k 59] [zq_ilchk 1, zq_kchk 59] 77 rfl (by decide +kernel) ?_
    show zq_G _ _ _ _ _ 77 ([(0, .ref 41), (1, .int (byV bt Z u))], [.int 59, .int (byV bt Z u), .ref 41], MH c tr tx (nI Z) td dr s im kp (nI u) so (nI u) va wy)
    refine zq_if .ne 84 (¬ (byV bt Z u).toInt = (59 : Int)) (by decide +kernel) (zq_tn .ne (byV bt Z u) (n := 59) (by omega)) (fun c77 => absurd c77 (by omega)) (fun c77 => ?_)
    show zq_G _ _ _ _ _ 80 ([(0, .ref 41), (1, .int (byV bt Z u))], [.ref 41], MH c tr tx (nI Z) td dr s im kp (nI u) so (nI u) va wy)
    refine zq_b [zq_k 3, zq_go, zq_puti 12 9, zq_al 0, zq_il 1, zq_puti 12 11, zq_al 0, zq_get 12 9] [zq_kchk 3, zq_gochk, zq_putchk 12 9 .int, zq_alchk 0, zq_ilchk 1, zq_putchk 12 11 .int, zq_alchk 0, zq_getchk 12 9] 97 rfl (by decide +kernel) ?_
    show zq_G _ _ _ _ _ 97 ([(0, .ref 41), (1, .int (byV bt Z u))], [.int 3], MH c tr tx (nI Z) td dr s im kp (nI u) 3 (nI u) (byV bt Z u) wy)
    refine zq_ifz .eq 110 (3 = 0) (by decide +kernel) (zq_ceq (a := 3) (b := 0) (by omega) (by omega)) (fun c97 => absurd c97 (by decide)) (fun c97 => ?_)
    show zq_G _ _ _ _ _ 100 ([(0, .ref 41), (1, .int (byV bt Z u))], [], MH c tr tx (nI Z) td dr s im kp (nI u) 3 (nI u) (byV bt Z u) wy)
    refine zq_b [zq_al 0, zq_dup, zq_get 12 8, zq_k 1, zq_iadd (nI (u + 1)), zq_puti 12 8, zq_al 0, zq_get 12 9, zq_k 1] [zq_alchk 0, zq_is .dup 1, zq_getchk 12 8, zq_kchk 1, zq_is .iadd 1, zq_putchk 12 8 .int, zq_alchk 0, zq_getchk 12 9, zq_kchk 1] 115 rfl (by decide +kernel) ?_
    refine ⟨(nI_add u 1), ?_⟩
    show zq_G _ _ _ _ _ 115 ([(0, .ref 41), (1, .int (byV bt Z u))], [.int 1, .int 3], MH c tr tx (nI Z) td dr s im kp (nI (u + 1)) 3 (nI u) (byV bt Z u) wy)
    refine zq_if .ne 150 (¬ 3 = 1) (by decide +kernel) (zq_cne (a := 3) (b := 1) (by omega) (by omega)) (fun c115 => ?_) (fun c115 => absurd (by decide) c115)
    show zq_G _ _ _ _ _ 150 ([(0, .ref 41), (1, .int (byV bt Z u))], [], MH c tr tx (nI Z) td dr s im kp (nI (u + 1)) 3 (nI u) (byV bt Z u) wy)
    refine zq_b [zq_al 0, zq_get 12 9, zq_k 2] [zq_alchk 0, zq_getchk 12 9, zq_kchk 2] 155 rfl (by decide +kernel) ?_
    show zq_G _ _ _ _ _ 155 ([(0, .ref 41), (1, .int (byV bt Z u))], [.int 2, .int 3], MH c tr tx (nI Z) td dr s im kp (nI (u + 1)) 3 (nI u) (byV bt Z u) wy)
    refine zq_if .ne 238 (¬ 3 = 2) (by decide +kernel) (zq_cne (a := 3) (b := 2) (by omega) (by omega)) (fun c155 => ?_) (fun c155 => absurd (by decide) c155)
    show zq_G _ _ _ _ _ 238 ([(0, .ref 41), (1, .int (byV bt Z u))], [], MH c tr tx (nI Z) td dr s im kp (nI (u + 1)) 3 (nI u) (byV bt Z u) wy)
    exact zq_vret (by decide +kernel) rfl rfl rfl
set_option maxHeartbeats 4000000 in
set_option maxRecDepth 100000 in
theorem t_wrong {u : Nat} (hZ : Z ≤ 200) (hbt : ∀ j, j < Z → tx j = nI (bt j) ∧ bt j ≤ 255) (has : a ≤ u) (hsp : ∀ j, a ≤ j → j < u → j < Z ∧ bt j = 32) (hs : u < Z) (hns : ¬ bt u = 32) (hl : ¬ (97 ≤ bt u ∧ bt u ≤ 122)) (hd : ¬ (48 ≤ bt u ∧ bt u ≤ 57)) (h59 : ¬ bt u = 59) : zq_P l mX12_token 2 [.ref 41] (MH c tr tx (nI Z) td dr s im kp (nI a) so sr va wy) none (MH c tr tx (nI Z) td dr s im kp (nI (u + 1)) 4 (nI u) (byV bt Z u) wy) := by
  refine zq_start (by decide +kernel) rfl (Nat.le_of_ble_eq_true rfl) ?_
  show zq_G _ _ _ _ _ 0 ([(0, .ref 41)], [], MH c tr tx (nI Z) td dr s im kp (nI a) so sr va wy)
  refine zq_loop (fun i => ([(0, .ref 41)], [], MH c tr tx (nI Z) td dr s im kp (nI (a + i)) so sr va wy)) (fun i => True) (u - a) (0) (by omega) (trivial) (fun i hl0 hi0 hI0 ih0 => ?_) (fun hI0 => ?_)
  · show zq_G _ _ _ _ _ 0 ([(0, .ref 41)], [], MH c tr tx (nI Z) td dr s im kp (nI (a + i)) so sr va wy)
    have hr := hsp (a + i) (by omega) (by omega)
    have hby := byV_i hr.1 (hbt (a + i) hr.1).2
    refine zq_b [zq_al 0, zq_al 0, zq_get 12 8] [zq_alchk 0, zq_alchk 0, zq_getchk 12 8] 5 rfl (by decide +kernel) ?_
    show zq_G _ _ _ _ _ 5 ([(0, .ref 41)], [.int (nI (a + i)), .ref 41], MH c tr tx (nI Z) td dr s im kp (nI (a + i)) so sr va wy)
    refine zq_callV (av := [.int (nI (a + i))]) (rest := []) (by decide +kernel) k12_50 (m_byteAt (i := (a + i)) hZ hbt (by omega)) rfl rfl rfl rfl ?_
    show zq_G _ _ _ _ _ 8 ([(0, .ref 41)], [.int (byV bt Z (a + i))], MH c tr tx (nI Z) td dr s im kp (nI (a + i)) so sr va wy)
    refine zq_b [zq_k 32] [zq_kchk 32] 10 rfl (by decide +kernel) ?_
    show zq_G _ _ _ _ _ 10 ([(0, .ref 41)], [.int 32, .int (byV bt Z (a + i))], MH c tr tx (nI Z) td dr s im kp (nI (a + i)) so sr va wy)
    refine zq_if .ne 26 (¬ (byV bt Z (a + i)).toInt = (32 : Int)) (by decide +kernel) (zq_tn .ne (byV bt Z (a + i)) (n := 32) (by omega)) (fun c10 => absurd c10 (by omega)) (fun c10 => ?_)
    show zq_G _ _ _ _ _ 13 ([(0, .ref 41)], [], MH c tr tx (nI Z) td dr s im kp (nI (a + i)) so sr va wy)
    refine zq_b [zq_al 0, zq_dup, zq_get 12 8, zq_k 1, zq_iadd (nI (a + i + 1)), zq_puti 12 8, zq_go] [zq_alchk 0, zq_is .dup 1, zq_getchk 12 8, zq_kchk 1, zq_is .iadd 1, zq_putchk 12 8 .int, zq_gochk] 0 rfl (by decide +kernel) ?_
    refine ⟨(nI_add (a + i) 1), ?_⟩
    show zq_G _ _ _ _ _ 0 ([(0, .ref 41)], [], MH c tr tx (nI Z) td dr s im kp (nI (a + i + 1)) so sr va wy)
    exact ih0 trivial
  · show zq_G _ _ _ _ _ 0 ([(0, .ref 41)], [], MH c tr tx (nI Z) td dr s im kp (nI (a + (u - a))) so sr va wy)
    have hby := byV_i hs (hbt u hs).2
    refine zq_eq (σ2 := ([(0, .ref 41)], [], MH c tr tx (nI Z) td dr s im kp (nI u) so sr va wy)) (by rw [show a + (u - a) = u by omega]) ?_
    refine zq_b [zq_al 0, zq_al 0, zq_get 12 8] [zq_alchk 0, zq_alchk 0, zq_getchk 12 8] 5 rfl (by decide +kernel) ?_
    show zq_G _ _ _ _ _ 5 ([(0, .ref 41)], [.int (nI u), .ref 41], MH c tr tx (nI Z) td dr s im kp (nI u) so sr va wy)
    refine zq_callV (av := [.int (nI u)]) (rest := []) (by decide +kernel) k12_50 (m_byteAt (i := u) hZ hbt (by omega)) rfl rfl rfl rfl ?_
    show zq_G _ _ _ _ _ 8 ([(0, .ref 41)], [.int (byV bt Z u)], MH c tr tx (nI Z) td dr s im kp (nI u) so sr va wy)
    refine zq_b [zq_k 32] [zq_kchk 32] 10 rfl (by decide +kernel) ?_
    show zq_G _ _ _ _ _ 10 ([(0, .ref 41)], [.int 32, .int (byV bt Z u)], MH c tr tx (nI Z) td dr s im kp (nI u) so sr va wy)
    refine zq_if .ne 26 (¬ (byV bt Z u).toInt = (32 : Int)) (by decide +kernel) (zq_tn .ne (byV bt Z u) (n := 32) (by omega)) (fun c10 => ?_) (fun c10 => absurd (by omega) c10)
    show zq_G _ _ _ _ _ 26 ([(0, .ref 41)], [], MH c tr tx (nI Z) td dr s im kp (nI u) so sr va wy)
    refine zq_b [zq_al 0, zq_al 0, zq_get 12 8, zq_puti 12 10, zq_al 0, zq_al 0, zq_get 12 8] [zq_alchk 0, zq_alchk 0, zq_getchk 12 8, zq_putchk 12 10 .int, zq_alchk 0, zq_alchk 0, zq_getchk 12 8] 39 rfl (by decide +kernel) ?_
    show zq_G _ _ _ _ _ 39 ([(0, .ref 41)], [.int (nI u), .ref 41], MH c tr tx (nI Z) td dr s im kp (nI u) so (nI u) va wy)
    refine zq_callV (av := [.int (nI u)]) (rest := []) (by decide +kernel) k12_50 (m_byteAt (i := u) hZ hbt (by omega)) rfl rfl rfl rfl ?_
    show zq_G _ _ _ _ _ 42 ([(0, .ref 41)], [.int (byV bt Z u)], MH c tr tx (nI Z) td dr s im kp (nI u) so (nI u) va wy)
    refine zq_b [zq_is1 1, zq_al 0, zq_il 1] [zq_is1chk 1, zq_alchk 0, zq_ilchk 1] 45 rfl (by decide +kernel) ?_
    show zq_G _ _ _ _ _ 45 ([(0, .ref 41), (1, .int (byV bt Z u))], [.int (byV bt Z u), .ref 41], MH c tr tx (nI Z) td dr s im kp (nI u) so (nI u) va wy)
    refine zq_ifz .ge 52 ((0 : Int) ≤ (byV bt Z u).toInt) (by decide +kernel) (zq_tn .ge (byV bt Z u) (n := 0) (by omega)) (fun c45 => ?_) (fun c45 => absurd (by omega) c45)
    show zq_G _ _ _ _ _ 52 ([(0, .ref 41), (1, .int (byV bt Z u))], [.ref 41], MH c tr tx (nI Z) td dr s im kp (nI u) so (nI u) va wy)
    refine zq_b [zq_il 1] [zq_ilchk 1] 53 rfl (by decide +kernel) ?_
    show zq_G _ _ _ _ _ 53 ([(0, .ref 41), (1, .int (byV bt Z u))], [.int (byV bt Z u), .ref 41], MH c tr tx (nI Z) td dr s im kp (nI u) so (nI u) va wy)
    refine zq_callS (av := [.int (byV bt Z u)]) (rest := [.ref 41]) (by decide +kernel) k12_57 (m_isLetter (x := (byV bt Z u))) rfl rfl ?_
    show zq_G _ _ _ _ _ 56 ([(0, .ref 41), (1, .int (byV bt Z u))], [.int (zb ((97 : Int) ≤ (byV bt Z u).toInt ∧ (byV bt Z u).toInt ≤ (122 : Int))), .ref 41], MH c tr tx (nI Z) td dr s im kp (nI u) so (nI u) va wy)
    refine zq_ifz .eq 63 (¬ ((97 : Int) ≤ (byV bt Z u).toInt ∧ (byV bt Z u).toInt ≤ (122 : Int))) (by decide +kernel) (zb_eq _) (fun c56 => ?_) (fun c56 => absurd (by omega) c56)
    show zq_G _ _ _ _ _ 63 ([(0, .ref 41), (1, .int (byV bt Z u))], [.ref 41], MH c tr tx (nI Z) td dr s im kp (nI u) so (nI u) va wy)
    refine zq_b [zq_il 1] [zq_ilchk 1] 64 rfl (by decide +kernel) ?_
    show zq_G _ _ _ _ _ 64 ([(0, .ref 41), (1, .int (byV bt Z u))], [.int (byV bt Z u), .ref 41], MH c tr tx (nI Z) td dr s im kp (nI u) so (nI u) va wy)
    refine zq_callS (av := [.int (byV bt Z u)]) (rest := [.ref 41]) (by decide +kernel) k12_61 (m_isDigit (x := (byV bt Z u))) rfl rfl ?_
    show zq_G _ _ _ _ _ 67 ([(0, .ref 41), (1, .int (byV bt Z u))], [.int (zb ((48 : Int) ≤ (byV bt Z u).toInt ∧ (byV bt Z u).toInt ≤ (57 : Int))), .ref 41], MH c tr tx (nI Z) td dr s im kp (nI u) so (nI u) va wy)
    refine zq_ifz .eq 74 (¬ ((48 : Int) ≤ (byV bt Z u).toInt ∧ (byV bt Z u).toInt ≤ (57 : Int))) (by decide +kernel) (zb_eq _) (fun c67 => ?_) (fun c67 => absurd (by omega) c67)
    show zq_G _ _ _ _ _ 74 ([(0, .ref 41), (1, .int (byV bt Z u))], [.ref 41], MH c tr tx (nI Z) td dr s im kp (nI u) so (nI u) va wy)
    refine zq_b [zq_il 1, zq_k 59] [zq_ilchk 1, zq_kchk 59] 77 rfl (by decide +kernel) ?_
    show zq_G _ _ _ _ _ 77 ([(0, .ref 41), (1, .int (byV bt Z u))], [.int 59, .int (byV bt Z u), .ref 41], MH c tr tx (nI Z) td dr s im kp (nI u) so (nI u) va wy)
    refine zq_if .ne 84 (¬ (byV bt Z u).toInt = (59 : Int)) (by decide +kernel) (zq_tn .ne (byV bt Z u) (n := 59) (by omega)) (fun c77 => ?_) (fun c77 => absurd (by omega) c77)
    show zq_G _ _ _ _ _ 84 ([(0, .ref 41), (1, .int (byV bt Z u))], [.ref 41], MH c tr tx (nI Z) td dr s im kp (nI u) so (nI u) va wy)
    refine zq_b [zq_k 4, zq_puti 12 9, zq_al 0, zq_il 1, zq_puti 12 11, zq_al 0, zq_get 12 9] [zq_kchk 4, zq_putchk 12 9 .int, zq_alchk 0, zq_ilchk 1, zq_putchk 12 11 .int, zq_alchk 0, zq_getchk 12 9] 97 rfl (by decide +kernel) ?_
    show zq_G _ _ _ _ _ 97 ([(0, .ref 41), (1, .int (byV bt Z u))], [.int 4], MH c tr tx (nI Z) td dr s im kp (nI u) 4 (nI u) (byV bt Z u) wy)
    refine zq_ifz .eq 110 (4 = 0) (by decide +kernel) (zq_ceq (a := 4) (b := 0) (by omega) (by omega)) (fun c97 => absurd c97 (by decide)) (fun c97 => ?_)
    show zq_G _ _ _ _ _ 100 ([(0, .ref 41), (1, .int (byV bt Z u))], [], MH c tr tx (nI Z) td dr s im kp (nI u) 4 (nI u) (byV bt Z u) wy)
    refine zq_b [zq_al 0, zq_dup, zq_get 12 8, zq_k 1, zq_iadd (nI (u + 1)), zq_puti 12 8, zq_al 0, zq_get 12 9, zq_k 1] [zq_alchk 0, zq_is .dup 1, zq_getchk 12 8, zq_kchk 1, zq_is .iadd 1, zq_putchk 12 8 .int, zq_alchk 0, zq_getchk 12 9, zq_kchk 1] 115 rfl (by decide +kernel) ?_
    refine ⟨(nI_add u 1), ?_⟩
    show zq_G _ _ _ _ _ 115 ([(0, .ref 41), (1, .int (byV bt Z u))], [.int 1, .int 4], MH c tr tx (nI Z) td dr s im kp (nI (u + 1)) 4 (nI u) (byV bt Z u) wy)
    refine zq_if .ne 150 (¬ 4 = 1) (by decide +kernel) (zq_cne (a := 4) (b := 1) (by omega) (by omega)) (fun c115 => ?_) (fun c115 => absurd (by decide) c115)
    show zq_G _ _ _ _ _ 150 ([(0, .ref 41), (1, .int (byV bt Z u))], [], MH c tr tx (nI Z) td dr s im kp (nI (u + 1)) 4 (nI u) (byV bt Z u) wy)
    refine zq_b [zq_al 0, zq_get 12 9, zq_k 2] [zq_alchk 0, zq_getchk 12 9, zq_kchk 2] 155 rfl (by decide +kernel) ?_
    show zq_G _ _ _ _ _ 155 ([(0, .ref 41), (1, .int (byV bt Z u))], [.int 2, .int 4], MH c tr tx (nI Z) td dr s im kp (nI (u + 1)) 4 (nI u) (byV bt Z u) wy)
    refine zq_if .ne 238 (¬ 4 = 2) (by decide +kernel) (zq_cne (a := 4) (b := 2) (by omega) (by omega)) (fun c155 => ?_) (fun c155 => absurd (by decide) c155)
    show zq_G _ _ _ _ _ 238 ([(0, .ref 41), (1, .int (byV bt Z u))], [], MH c tr tx (nI Z) td dr s im kp (nI (u + 1)) 4 (nI u) (byV bt Z u) wy)
    exact zq_vret (by decide +kernel) rfl rfl rfl
set_option maxHeartbeats 4000000 in
theorem m_tok (hZ : Z ≤ 200) (hbt : ∀ j, j < Z → tx j = nI (bt j) ∧ bt j ≤ 255) (ha : a ≤ Z) : zq_P l mX12_token 2 [.ref 41] (MH c tr tx (nI Z) td dr s im kp (nI a) so sr va wy) none (MH c tr tx (nI Z) td dr s im kp (nI (tkE bt Z a)) (nI (tkM bt Z a)) (nI (tkS bt Z a)) (tvM bt Z a) wy) := by
  have has := tkS_le bt Z a
  have hsm := tkS_max (bt := bt) ha
  have hin := zrun_in (blkB bt) Z Z a
  have hsp : ∀ j, a ≤ j → j < tkS bt Z a → j < Z ∧ bt j = 32 := fun j h1 h2 => ⟨(hin j h1 h2).1, of_decide_eq_true (hin j h1 h2).2⟩
  by_cases h0 : Z ≤ tkS bt Z a
  · have e1 : tkE bt Z a = tkS bt Z a := by unfold tkE; rw [if_pos h0]
    have e2 : tkM bt Z a = 0 := by unfold tkM; rw [if_pos h0]
    have e3 : tvM bt Z a = byV bt Z (tkS bt Z a) := by unfold tvM byV; rw [if_pos h0, if_neg (by omega)]
    rw [e1, e2, e3]
    exact t_end (u := tkS bt Z a) hZ hbt has hsp (by omega)
  · have hs : tkS bt Z a < Z := by omega
    have hns : ¬ bt (tkS bt Z a) = 32 := fun q => zrun_end (blkB bt) Z Z a (by omega) ⟨hs, decide_eq_true q⟩
    by_cases hl : letB bt (tkS bt Z a) = true
    · have e1 : tkE bt Z a = zrun (letB bt) Z Z (tkS bt Z a + 1) := by unfold tkE; rw [if_neg h0, if_pos hl]
      have e2 : tkM bt Z a = 1 := by unfold tkM; rw [if_neg h0, if_pos hl]
      have e3 : tvM bt Z a = if tkE bt Z a = tkS bt Z a + 1 then nI (bt (tkS bt Z a)) else 0 := by
        unfold tvM
        rw [if_neg h0, if_pos hl]
      rw [e3, e2]
      refine t_let (u := tkS bt Z a) (e := tkE bt Z a) hZ hbt has hsp hs hns (of_decide_eq_true hl) ?_ (tkE_max ha) ?_ ?_
      · rw [e1]; exact zrun_le _ _ _ _
      · rw [e1]; exact zrun_in _ _ _ _
      · rw [e1]; exact zrun_end _ _ _ _ (by omega)
    · by_cases hd : digB bt (tkS bt Z a) = true
      · have e1 : tkE bt Z a = zrun (digB bt) Z Z (tkS bt Z a) := by unfold tkE; rw [if_neg h0, if_neg hl, if_pos hd]
        have e2 : tkM bt Z a = 2 := by unfold tkM; rw [if_neg h0, if_neg hl, if_pos hd]
        have e3 : tvM bt Z a = nI (mvS bt (tkS bt Z a) (tkE bt Z a - (tkS bt Z a + 1))) := by
          unfold tvM
          rw [if_neg h0, if_neg hl, if_pos hd]
        have hlt : tkS bt Z a < tkE bt Z a := tkE_lt (fun q => by have := tkM_0.mpr q; omega)
        rw [e3, e2]
        refine t_dig (u := tkS bt Z a) (e := tkE bt Z a) hZ hbt has hsp hs hns (fun q => hl (decide_eq_true q)) (of_decide_eq_true hd) hlt (tkE_max ha) ?_ ?_
        · rw [e1]; exact fun j h1 h2 => zrun_in _ _ _ _ j (by omega) h2
        · rw [e1]; exact zrun_end _ _ _ _ (by omega)
      · have e1 : tkE bt Z a = tkS bt Z a + 1 := by unfold tkE; rw [if_neg h0, if_neg hl, if_neg hd]
        have e3 : tvM bt Z a = byV bt Z (tkS bt Z a) := by
          unfold tvM byV
          rw [if_neg h0, if_neg hl, if_neg hd, if_pos hs]
        by_cases h59 : bt (tkS bt Z a) = 59
        · have e2 : tkM bt Z a = 3 := by unfold tkM; rw [if_neg h0, if_neg hl, if_neg hd, if_pos h59]
          rw [e1, e2, e3]
          exact t_stop (u := tkS bt Z a) hZ hbt has hsp hs hns (fun q => hl (decide_eq_true q)) (fun q => hd (decide_eq_true q)) h59
        · have e2 : tkM bt Z a = 4 := by unfold tkM; rw [if_neg h0, if_neg hl, if_neg hd, if_neg h59]
          rw [e1, e2, e3]
          exact t_wrong (u := tkS bt Z a) hZ hbt has hsp hs hns (fun q => hl (decide_eq_true q)) (fun q => hd (decide_eq_true q)) h59
set_option maxHeartbeats 4000000 in
set_option maxRecDepth 100000 in
theorem m_num_t {p : Nat} {lo : Nat} {hi : Nat} (hZ : Z ≤ 200) (hbt : ∀ j, j < Z → tx j = nI (bt j) ∧ bt j ≤ 255) (ha : a ≤ Z) (hp : p < 32) (hk : tkK bt Z a = 2) (h1 : lo ≤ tkV bt Z a) (h2 : tkV bt Z a ≤ hi) (h3 : hi < 256) : zq_P l mX12_number 3 [.ref 41, .int (nI p), .int (nI lo), .int (nI hi)] (MH c tr tx (nI Z) td dr s im kp (nI a) so sr va wy) (some (.int 1)) (MH c tr tx (nI Z) td (upd dr p (nI (tkV bt Z a))) s im kp (nI (tkE bt Z a)) 2 (nI (tkS bt Z a)) (nI (tkV bt Z a)) wy) := by
  refine zq_start (by decide +kernel) rfl (Nat.le_of_ble_eq_true rfl) ?_
  show zq_G _ _ _ _ _ 0 ([(0, .ref 41), (1, .int (nI p)), (2, .int (nI lo)), (3, .int (nI hi))], [], MH c tr tx (nI Z) td dr s im kp (nI a) so sr va wy)
  refine zq_b [zq_al 0] [zq_alchk 0] 1 rfl (by decide +kernel) ?_
  show zq_G _ _ _ _ _ 1 ([(0, .ref 41), (1, .int (nI p)), (2, .int (nI lo)), (3, .int (nI hi))], [.ref 41], MH c tr tx (nI Z) td dr s im kp (nI a) so sr va wy)
  refine zq_callV (av := []) (rest := []) (by decide +kernel) k12_70 (m_tok hZ hbt (by omega)) rfl rfl rfl rfl ?_
  show zq_G _ _ _ _ _ 4 ([(0, .ref 41), (1, .int (nI p)), (2, .int (nI lo)), (3, .int (nI hi))], [], MH c tr tx (nI Z) td dr s im kp (nI (tkE bt Z a)) (nI (tkM bt Z a)) (nI (tkS bt Z a)) (tvM bt Z a) wy)
  refine zq_eq (σ2 := ([(0, .ref 41), (1, .int (nI p)), (2, .int (nI lo)), (3, .int (nI hi))], [], MH c tr tx (nI Z) td dr s im kp (nI (tkE bt Z a)) 2 (nI (tkS bt Z a)) (nI (tkV bt Z a)) wy)) (by rw [tkM_2 hk, tvM_2 hk]; rfl) ?_
  refine zq_b [zq_al 0, zq_get 12 4, zq_il 1, zq_al 0, zq_get 12 11, zq_iast p, zq_al 0, zq_get 12 9, zq_k 2] [zq_alchk 0, zq_getchk 12 4, zq_ilchk 1, zq_alchk 0, zq_getchk 12 11, zq_is .iastore 1, zq_alchk 0, zq_getchk 12 9, zq_kchk 2] 19 rfl (by decide +kernel) ?_
  refine ⟨rfl, (by omega), (by omega), ?_⟩
  show zq_G _ _ _ _ _ 19 ([(0, .ref 41), (1, .int (nI p)), (2, .int (nI lo)), (3, .int (nI hi))], [.int 2, .int 2], MH c tr tx (nI Z) td (upd dr p (nI (tkV bt Z a))) s im kp (nI (tkE bt Z a)) 2 (nI (tkS bt Z a)) (nI (tkV bt Z a)) wy)
  refine zq_if .ne 38 (¬ 2 = 2) (by decide +kernel) (zq_cne (a := 2) (b := 2) (by omega) (by omega)) (fun c19 => absurd c19 (fun q => q rfl)) (fun c19 => ?_)
  show zq_G _ _ _ _ _ 22 ([(0, .ref 41), (1, .int (nI p)), (2, .int (nI lo)), (3, .int (nI hi))], [], MH c tr tx (nI Z) td (upd dr p (nI (tkV bt Z a))) s im kp (nI (tkE bt Z a)) 2 (nI (tkS bt Z a)) (nI (tkV bt Z a)) wy)
  refine zq_b [zq_al 0, zq_get 12 11, zq_il 2, zq_il 3] [zq_alchk 0, zq_getchk 12 11, zq_ilchk 2, zq_ilchk 3] 28 rfl (by decide +kernel) ?_
  show zq_G _ _ _ _ _ 28 ([(0, .ref 41), (1, .int (nI p)), (2, .int (nI lo)), (3, .int (nI hi))], [.int (nI hi), .int (nI lo), .int (nI (tkV bt Z a))], MH c tr tx (nI Z) td (upd dr p (nI (tkV bt Z a))) s im kp (nI (tkE bt Z a)) 2 (nI (tkS bt Z a)) (nI (tkV bt Z a)) wy)
  refine zq_callS (av := [.int (nI (tkV bt Z a)), .int (nI lo), .int (nI hi)]) (rest := []) (by decide +kernel) k12_39 (m_inN (x := (tkV bt Z a)) (lo := lo) (hi := hi) (by omega) (by omega) (by omega)) rfl rfl ?_
  show zq_G _ _ _ _ _ 31 ([(0, .ref 41), (1, .int (nI p)), (2, .int (nI lo)), (3, .int (nI hi))], [.int (zb (lo ≤ (tkV bt Z a) ∧ (tkV bt Z a) ≤ hi))], MH c tr tx (nI Z) td (upd dr p (nI (tkV bt Z a))) s im kp (nI (tkE bt Z a)) 2 (nI (tkS bt Z a)) (nI (tkV bt Z a)) wy)
  refine zq_ifz .eq 38 (¬ (lo ≤ (tkV bt Z a) ∧ (tkV bt Z a) ≤ hi)) (by decide +kernel) (zb_eq _) (fun c31 => absurd c31 (by omega)) (fun c31 => ?_)
  show zq_G _ _ _ _ _ 34 ([(0, .ref 41), (1, .int (nI p)), (2, .int (nI lo)), (3, .int (nI hi))], [], MH c tr tx (nI Z) td (upd dr p (nI (tkV bt Z a))) s im kp (nI (tkE bt Z a)) 2 (nI (tkS bt Z a)) (nI (tkV bt Z a)) wy)
  refine zq_b [zq_k 1, zq_go] [zq_kchk 1, zq_gochk] 39 rfl (by decide +kernel) ?_
  show zq_G _ _ _ _ _ 39 ([(0, .ref 41), (1, .int (nI p)), (2, .int (nI lo)), (3, .int (nI hi))], [.int 1], MH c tr tx (nI Z) td (upd dr p (nI (tkV bt Z a))) s im kp (nI (tkE bt Z a)) 2 (nI (tkS bt Z a)) (nI (tkV bt Z a)) wy)
  exact zq_zret (by decide +kernel) rfl (Or.inr rfl) rfl rfl
set_option maxHeartbeats 4000000 in
set_option maxRecDepth 100000 in
theorem m_num_f {p : Nat} {lo : Nat} {hi : Nat} (hZ : Z ≤ 200) (hbt : ∀ j, j < Z → tx j = nI (bt j) ∧ bt j ≤ 255) (ha : a ≤ Z) (hp : p < 32) (hk : ¬ (tkK bt Z a = 2 ∧ lo ≤ tkV bt Z a ∧ tkV bt Z a ≤ hi)) (h3 : hi ≤ 99 ∧ lo ≤ 99) : zq_P l mX12_number 3 [.ref 41, .int (nI p), .int (nI lo), .int (nI hi)] (MH c tr tx (nI Z) td dr s im kp (nI a) so sr va wy) (some (.int 0)) (MH c tr tx (nI Z) td (upd dr p (tvM bt Z a)) s im kp (nI (tkE bt Z a)) (nI (tkM bt Z a)) (nI (tkS bt Z a)) (tvM bt Z a) wy) := by
  refine zq_start (by decide +kernel) rfl (Nat.le_of_ble_eq_true rfl) ?_
  show zq_G _ _ _ _ _ 0 ([(0, .ref 41), (1, .int (nI p)), (2, .int (nI lo)), (3, .int (nI hi))], [], MH c tr tx (nI Z) td dr s im kp (nI a) so sr va wy)
  have hk4 := tkM_le bt Z a
  refine zq_b [zq_al 0] [zq_alchk 0] 1 rfl (by decide +kernel) ?_
  show zq_G _ _ _ _ _ 1 ([(0, .ref 41), (1, .int (nI p)), (2, .int (nI lo)), (3, .int (nI hi))], [.ref 41], MH c tr tx (nI Z) td dr s im kp (nI a) so sr va wy)
  refine zq_callV (av := []) (rest := []) (by decide +kernel) k12_70 (m_tok hZ hbt (by omega)) rfl rfl rfl rfl ?_
  show zq_G _ _ _ _ _ 4 ([(0, .ref 41), (1, .int (nI p)), (2, .int (nI lo)), (3, .int (nI hi))], [], MH c tr tx (nI Z) td dr s im kp (nI (tkE bt Z a)) (nI (tkM bt Z a)) (nI (tkS bt Z a)) (tvM bt Z a) wy)
  refine zq_eq (σ2 := ([(0, .ref 41), (1, .int (nI p)), (2, .int (nI lo)), (3, .int (nI hi))], [], MH c tr tx (nI Z) td dr s im kp (nI (tkE bt Z a)) (nI (tkM bt Z a)) (nI (tkS bt Z a)) (tvM bt Z a) wy)) (rfl) ?_
  refine zq_b [zq_al 0, zq_get 12 4, zq_il 1, zq_al 0, zq_get 12 11, zq_iast p, zq_al 0, zq_get 12 9, zq_k 2] [zq_alchk 0, zq_getchk 12 4, zq_ilchk 1, zq_alchk 0, zq_getchk 12 11, zq_is .iastore 1, zq_alchk 0, zq_getchk 12 9, zq_kchk 2] 19 rfl (by decide +kernel) ?_
  refine ⟨rfl, (by omega), (by omega), ?_⟩
  show zq_G _ _ _ _ _ 19 ([(0, .ref 41), (1, .int (nI p)), (2, .int (nI lo)), (3, .int (nI hi))], [.int 2, .int (nI (tkM bt Z a))], MH c tr tx (nI Z) td (upd dr p (tvM bt Z a)) s im kp (nI (tkE bt Z a)) (nI (tkM bt Z a)) (nI (tkS bt Z a)) (tvM bt Z a) wy)
  refine zq_if .ne 38 (¬ (tkM bt Z a) = 2) (by decide +kernel) (zq_cne (a := tkM bt Z a) (b := 2) (by omega) (by omega)) (fun c19 => ?_) (fun c19 => ?_)
  · show zq_G _ _ _ _ _ 38 ([(0, .ref 41), (1, .int (nI p)), (2, .int (nI lo)), (3, .int (nI hi))], [], MH c tr tx (nI Z) td (upd dr p (tvM bt Z a)) s im kp (nI (tkE bt Z a)) (nI (tkM bt Z a)) (nI (tkS bt Z a)) (tvM bt Z a) wy)
    refine zq_b [zq_k 0] [zq_kchk 0] 39 rfl (by decide +kernel) ?_
    show zq_G _ _ _ _ _ 39 ([(0, .ref 41), (1, .int (nI p)), (2, .int (nI lo)), (3, .int (nI hi))], [.int 0], MH c tr tx (nI Z) td (upd dr p (tvM bt Z a)) s im kp (nI (tkE bt Z a)) (nI (tkM bt Z a)) (nI (tkS bt Z a)) (tvM bt Z a) wy)
    exact zq_zret (by decide +kernel) rfl (Or.inl rfl) rfl rfl
  · show zq_G _ _ _ _ _ 22 ([(0, .ref 41), (1, .int (nI p)), (2, .int (nI lo)), (3, .int (nI hi))], [], MH c tr tx (nI Z) td (upd dr p (tvM bt Z a)) s im kp (nI (tkE bt Z a)) (nI (tkM bt Z a)) (nI (tkS bt Z a)) (tvM bt Z a) wy)
    refine zq_b [zq_al 0, zq_get 12 11, zq_il 2, zq_il 3] [zq_alchk 0, zq_getchk 12 11, zq_ilchk 2, zq_ilchk 3] 28 rfl (by decide +kernel) ?_
    show zq_G _ _ _ _ _ 28 ([(0, .ref 41), (1, .int (nI p)), (2, .int (nI lo)), (3, .int (nI hi))], [.int (nI hi), .int (nI lo), .int (tvM bt Z a)], MH c tr tx (nI Z) td (upd dr p (tvM bt Z a)) s im kp (nI (tkE bt Z a)) (nI (tkM bt Z a)) (nI (tkS bt Z a)) (tvM bt Z a) wy)
    refine zq_callS (av := [.int (tvM bt Z a), .int (nI lo), .int (nI hi)]) (rest := []) (by decide +kernel) k12_39 (m_in (x := (tvM bt Z a)) (lo := lo) (hi := hi) (by omega) (by omega)) rfl rfl ?_
    show zq_G _ _ _ _ _ 31 ([(0, .ref 41), (1, .int (nI p)), (2, .int (nI lo)), (3, .int (nI hi))], [.int (zb ((lo : Int) ≤ (tvM bt Z a).toInt ∧ (tvM bt Z a).toInt ≤ (hi : Int)))], MH c tr tx (nI Z) td (upd dr p (tvM bt Z a)) s im kp (nI (tkE bt Z a)) (nI (tkM bt Z a)) (nI (tkS bt Z a)) (tvM bt Z a) wy)
    refine zq_ifz .eq 38 (¬ ((lo : Int) ≤ (tvM bt Z a).toInt ∧ (tvM bt Z a).toInt ≤ (hi : Int))) (by decide +kernel) (zb_eq _) (fun c31 => ?_) (fun c31 => ?_)
    · show zq_G _ _ _ _ _ 38 ([(0, .ref 41), (1, .int (nI p)), (2, .int (nI lo)), (3, .int (nI hi))], [], MH c tr tx (nI Z) td (upd dr p (tvM bt Z a)) s im kp (nI (tkE bt Z a)) (nI (tkM bt Z a)) (nI (tkS bt Z a)) (tvM bt Z a) wy)
      refine zq_b [zq_k 0] [zq_kchk 0] 39 rfl (by decide +kernel) ?_
      show zq_G _ _ _ _ _ 39 ([(0, .ref 41), (1, .int (nI p)), (2, .int (nI lo)), (3, .int (nI hi))], [.int 0], MH c tr tx (nI Z) td (upd dr p (tvM bt Z a)) s im kp (nI (tkE bt Z a)) (nI (tkM bt Z a)) (nI (tkS bt Z a)) (tvM bt Z a) wy)
      exact zq_zret (by decide +kernel) rfl (Or.inl rfl) rfl rfl
    · show zq_G _ _ _ _ _ 34 ([(0, .ref 41), (1, .int (nI p)), (2, .int (nI lo)), (3, .int (nI hi))], [], MH c tr tx (nI Z) td (upd dr p (tvM bt Z a)) s im kp (nI (tkE bt Z a)) (nI (tkM bt Z a)) (nI (tkS bt Z a)) (tvM bt Z a) wy)
      exact absurd (num_ok (fun j hj => (hbt j hj).2) ha (Decidable.not_not.mp c19) h3.1 (Decidable.not_not.mp c31)) hk
set_option maxHeartbeats 4000000 in
set_option maxRecDepth 100000 in
theorem mp_full  (hZ : Z ≤ 200) (hbt : ∀ j, j < Z → tx j = nI (bt j) ∧ bt j ≤ 255) (ha : a ≤ Z) (h0 : dr 0 = nI P) (hP : P = 6) : zq_P l mX12_readsPerson 4 [.ref 41] (MH c tr tx (nI Z) td dr s im kp (nI a) so sr va wy) (some (.int 0)) (MH c tr tx (nI Z) td dr s im kp (nI a) so sr va wy) := by
  refine zq_start (by decide +kernel) rfl (Nat.le_of_ble_eq_true rfl) ?_
  show zq_G _ _ _ _ _ 0 ([(0, .ref 41)], [], MH c tr tx (nI Z) td dr s im kp (nI a) so sr va wy)
  refine zq_b [zq_al 0, zq_get 12 4, zq_k 0, zq_iald 0 (nI P), zq_is1 1, zq_il 1, zq_k 6] [zq_alchk 0, zq_getchk 12 4, zq_kchk 0, zq_is .iaload 1, zq_is1chk 1, zq_ilchk 1, zq_kchk 6] 10 rfl (by decide +kernel) ?_
  refine ⟨rfl, (by omega), (by omega), h0, ?_⟩
  show zq_G _ _ _ _ _ 10 ([(0, .ref 41), (1, .int (nI P))], [.int 6, .int (nI P)], MH c tr tx (nI Z) td dr s im kp (nI a) so sr va wy)
  refine zq_if .eq 41 (P = 6) (by decide +kernel) (zq_ceq (a := P) (b := 6) (by omega) (by omega)) (fun c10 => ?_) (fun c10 => absurd (by omega) c10)
  show zq_G _ _ _ _ _ 41 ([(0, .ref 41), (1, .int (nI P))], [], MH c tr tx (nI Z) td dr s im kp (nI a) so sr va wy)
  refine zq_b [zq_k 0] [zq_kchk 0] 42 rfl (by decide +kernel) ?_
  show zq_G _ _ _ _ _ 42 ([(0, .ref 41), (1, .int (nI P))], [.int 0], MH c tr tx (nI Z) td dr s im kp (nI a) so sr va wy)
  exact zq_zret (by decide +kernel) rfl (Or.inl rfl) rfl rfl
set_option maxHeartbeats 4000000 in
set_option maxRecDepth 100000 in
theorem mp_n1  (hZ : Z ≤ 200) (hbt : ∀ j, j < Z → tx j = nI (bt j) ∧ bt j ≤ 255) (ha : a ≤ Z) (h0 : dr 0 = nI P) (hP : P < 6) (hkA : ¬ (tkK bt Z a = 2 ∧ 1 ≤ tkV bt Z a ∧ tkV bt Z a ≤ 9)) : zq_P l mX12_readsPerson 4 [.ref 41] (MH c tr tx (nI Z) td dr s im kp (nI a) so sr va wy) (some (.int 0)) (MH c tr tx (nI Z) td (upd dr (6 + P) (tvM bt Z a)) s im kp (nI (tkE bt Z a)) (nI (tkM bt Z a)) (nI (tkS bt Z a)) (tvM bt Z a) wy) := by
  refine zq_start (by decide +kernel) rfl (Nat.le_of_ble_eq_true rfl) ?_
  show zq_G _ _ _ _ _ 0 ([(0, .ref 41)], [], MH c tr tx (nI Z) td dr s im kp (nI a) so sr va wy)
  have hE1 := tkE_max (bt := bt) ha
  have hE2 := tkE_max (bt := bt) hE1
  have hE3 := tkE_max (bt := bt) hE2
  refine zq_b [zq_al 0, zq_get 12 4, zq_k 0, zq_iald 0 (nI P), zq_is1 1, zq_il 1, zq_k 6] [zq_alchk 0, zq_getchk 12 4, zq_kchk 0, zq_is .iaload 1, zq_is1chk 1, zq_ilchk 1, zq_kchk 6] 10 rfl (by decide +kernel) ?_
  refine ⟨rfl, (by omega), (by omega), h0, ?_⟩
  show zq_G _ _ _ _ _ 10 ([(0, .ref 41), (1, .int (nI P))], [.int 6, .int (nI P)], MH c tr tx (nI Z) td dr s im kp (nI a) so sr va wy)
  refine zq_if .eq 41 (P = 6) (by decide +kernel) (zq_ceq (a := P) (b := 6) (by omega) (by omega)) (fun c10 => absurd c10 (by omega)) (fun c10 => ?_)
  show zq_G _ _ _ _ _ 13 ([(0, .ref 41), (1, .int (nI P))], [], MH c tr tx (nI Z) td dr s im kp (nI a) so sr va wy)
  refine zq_b [zq_al 0, zq_k 6, zq_il 1, zq_iadd (nI (6 + P)), zq_k 1, zq_k 9] [zq_alchk 0, zq_kchk 6, zq_ilchk 1, zq_is .iadd 1, zq_kchk 1, zq_kchk 9] 21 rfl (by decide +kernel) ?_
  refine ⟨(nI_add 6 P), ?_⟩
  show zq_G _ _ _ _ _ 21 ([(0, .ref 41), (1, .int (nI P))], [.int 9, .int 1, .int (nI (6 + P)), .ref 41], MH c tr tx (nI Z) td dr s im kp (nI a) so sr va wy)
  refine zq_callV (av := [.int (nI (6 + P)), .int 1, .int 9]) (rest := []) (by decide +kernel) k12_73 (m_num_f (p := (6 + P)) (lo := 1) (hi := 9) hZ hbt (by omega) (by omega) hkA (by decide)) rfl rfl rfl rfl ?_
  show zq_G _ _ _ _ _ 24 ([(0, .ref 41), (1, .int (nI P))], [.int 0], MH c tr tx (nI Z) td (upd dr (6 + P) (tvM bt Z a)) s im kp (nI (tkE bt Z a)) (nI (tkM bt Z a)) (nI (tkS bt Z a)) (tvM bt Z a) wy)
  refine zq_ifz .eq 41 (0 = 0) (by decide +kernel) (zq_ceq (a := 0) (b := 0) (by omega) (by omega)) (fun c24 => ?_) (fun c24 => absurd rfl c24)
  show zq_G _ _ _ _ _ 41 ([(0, .ref 41), (1, .int (nI P))], [], MH c tr tx (nI Z) td (upd dr (6 + P) (tvM bt Z a)) s im kp (nI (tkE bt Z a)) (nI (tkM bt Z a)) (nI (tkS bt Z a)) (tvM bt Z a) wy)
  refine zq_b [zq_k 0] [zq_kchk 0] 42 rfl (by decide +kernel) ?_
  show zq_G _ _ _ _ _ 42 ([(0, .ref 41), (1, .int (nI P))], [.int 0], MH c tr tx (nI Z) td (upd dr (6 + P) (tvM bt Z a)) s im kp (nI (tkE bt Z a)) (nI (tkM bt Z a)) (nI (tkS bt Z a)) (tvM bt Z a) wy)
  exact zq_zret (by decide +kernel) rfl (Or.inl rfl) rfl rfl
set_option maxHeartbeats 4000000 in
set_option maxRecDepth 100000 in
theorem mp_n2  (hZ : Z ≤ 200) (hbt : ∀ j, j < Z → tx j = nI (bt j) ∧ bt j ≤ 255) (ha : a ≤ Z) (h0 : dr 0 = nI P) (hP : P < 6) (hkA : tkK bt Z a = 2) (hlA : 1 ≤ tkV bt Z a) (hhA : tkV bt Z a ≤ 9) (hkB : ¬ (tkK bt Z (tkE bt Z a) = 2 ∧ 0 ≤ tkV bt Z (tkE bt Z a) ∧ tkV bt Z (tkE bt Z a) ≤ 25)) : zq_P l mX12_readsPerson 4 [.ref 41] (MH c tr tx (nI Z) td dr s im kp (nI a) so sr va wy) (some (.int 0)) (MH c tr tx (nI Z) td (upd (upd dr (6 + P) (nI (tkV bt Z a))) (12 + P) (tvM bt Z (tkE bt Z a))) s im kp (nI (tkE bt Z (tkE bt Z a))) (nI (tkM bt Z (tkE bt Z a))) (nI (tkS bt Z (tkE bt Z a))) (tvM bt Z (tkE bt Z a)) wy) := by
  refine zq_start (by decide +kernel) rfl (Nat.le_of_ble_eq_true rfl) ?_
  show zq_G _ _ _ _ _ 0 ([(0, .ref 41)], [], MH c tr tx (nI Z) td dr s im kp (nI a) so sr va wy)
  have hE1 := tkE_max (bt := bt) ha
  have hE2 := tkE_max (bt := bt) hE1
  have hE3 := tkE_max (bt := bt) hE2
  refine zq_b [zq_al 0, zq_get 12 4, zq_k 0, zq_iald 0 (nI P), zq_is1 1, zq_il 1, zq_k 6] [zq_alchk 0, zq_getchk 12 4, zq_kchk 0, zq_is .iaload 1, zq_is1chk 1, zq_ilchk 1, zq_kchk 6] 10 rfl (by decide +kernel) ?_
  refine ⟨rfl, (by omega), (by omega), h0, ?_⟩
  show zq_G _ _ _ _ _ 10 ([(0, .ref 41), (1, .int (nI P))], [.int 6, .int (nI P)], MH c tr tx (nI Z) td dr s im kp (nI a) so sr va wy)
  refine zq_if .eq 41 (P = 6) (by decide +kernel) (zq_ceq (a := P) (b := 6) (by omega) (by omega)) (fun c10 => absurd c10 (by omega)) (fun c10 => ?_)
  show zq_G _ _ _ _ _ 13 ([(0, .ref 41), (1, .int (nI P))], [], MH c tr tx (nI Z) td dr s im kp (nI a) so sr va wy)
  refine zq_b [zq_al 0, zq_k 6, zq_il 1, zq_iadd (nI (6 + P)), zq_k 1, zq_k 9] [zq_alchk 0, zq_kchk 6, zq_ilchk 1, zq_is .iadd 1, zq_kchk 1, zq_kchk 9] 21 rfl (by decide +kernel) ?_
  refine ⟨(nI_add 6 P), ?_⟩
  show zq_G _ _ _ _ _ 21 ([(0, .ref 41), (1, .int (nI P))], [.int 9, .int 1, .int (nI (6 + P)), .ref 41], MH c tr tx (nI Z) td dr s im kp (nI a) so sr va wy)
  refine zq_callV (av := [.int (nI (6 + P)), .int 1, .int 9]) (rest := []) (by decide +kernel) k12_73 (m_num_t (p := (6 + P)) (lo := 1) (hi := 9) hZ hbt (by omega) (by omega) hkA hlA hhA (by decide)) rfl rfl rfl rfl ?_
  show zq_G _ _ _ _ _ 24 ([(0, .ref 41), (1, .int (nI P))], [.int 1], MH c tr tx (nI Z) td (upd dr (6 + P) (nI (tkV bt Z a))) s im kp (nI (tkE bt Z a)) 2 (nI (tkS bt Z a)) (nI (tkV bt Z a)) wy)
  refine zq_ifz .eq 41 (1 = 0) (by decide +kernel) (zq_ceq (a := 1) (b := 0) (by omega) (by omega)) (fun c24 => absurd c24 (by decide)) (fun c24 => ?_)
  show zq_G _ _ _ _ _ 27 ([(0, .ref 41), (1, .int (nI P))], [], MH c tr tx (nI Z) td (upd dr (6 + P) (nI (tkV bt Z a))) s im kp (nI (tkE bt Z a)) 2 (nI (tkS bt Z a)) (nI (tkV bt Z a)) wy)
  refine zq_b [zq_al 0, zq_k 12, zq_il 1, zq_iadd (nI (12 + P)), zq_k 0, zq_k 25] [zq_alchk 0, zq_kchk 12, zq_ilchk 1, zq_is .iadd 1, zq_kchk 0, zq_kchk 25] 35 rfl (by decide +kernel) ?_
  refine ⟨(nI_add 12 P), ?_⟩
  show zq_G _ _ _ _ _ 35 ([(0, .ref 41), (1, .int (nI P))], [.int 25, .int 0, .int (nI (12 + P)), .ref 41], MH c tr tx (nI Z) td (upd dr (6 + P) (nI (tkV bt Z a))) s im kp (nI (tkE bt Z a)) 2 (nI (tkS bt Z a)) (nI (tkV bt Z a)) wy)
  refine zq_callV (av := [.int (nI (12 + P)), .int 0, .int 25]) (rest := []) (by decide +kernel) k12_73 (m_num_f (p := (12 + P)) (lo := 0) (hi := 25) hZ hbt (by omega) (by omega) hkB (by decide)) rfl rfl rfl rfl ?_
  show zq_G _ _ _ _ _ 38 ([(0, .ref 41), (1, .int (nI P))], [.int 0], MH c tr tx (nI Z) td (upd (upd dr (6 + P) (nI (tkV bt Z a))) (12 + P) (tvM bt Z (tkE bt Z a))) s im kp (nI (tkE bt Z (tkE bt Z a))) (nI (tkM bt Z (tkE bt Z a))) (nI (tkS bt Z (tkE bt Z a))) (tvM bt Z (tkE bt Z a)) wy)
  refine zq_ifz .ne 43 (¬ 0 = 0) (by decide +kernel) (zq_cne (a := 0) (b := 0) (by omega) (by omega)) (fun c38 => absurd c38 (fun q => q rfl)) (fun c38 => ?_)
  show zq_G _ _ _ _ _ 41 ([(0, .ref 41), (1, .int (nI P))], [], MH c tr tx (nI Z) td (upd (upd dr (6 + P) (nI (tkV bt Z a))) (12 + P) (tvM bt Z (tkE bt Z a))) s im kp (nI (tkE bt Z (tkE bt Z a))) (nI (tkM bt Z (tkE bt Z a))) (nI (tkS bt Z (tkE bt Z a))) (tvM bt Z (tkE bt Z a)) wy)
  refine zq_b [zq_k 0] [zq_kchk 0] 42 rfl (by decide +kernel) ?_
  show zq_G _ _ _ _ _ 42 ([(0, .ref 41), (1, .int (nI P))], [.int 0], MH c tr tx (nI Z) td (upd (upd dr (6 + P) (nI (tkV bt Z a))) (12 + P) (tvM bt Z (tkE bt Z a))) s im kp (nI (tkE bt Z (tkE bt Z a))) (nI (tkM bt Z (tkE bt Z a))) (nI (tkS bt Z (tkE bt Z a))) (tvM bt Z (tkE bt Z a)) wy)
  exact zq_zret (by decide +kernel) rfl (Or.inl rfl) rfl rfl
set_option maxHeartbeats 4000000 in
set_option maxRecDepth 100000 in
theorem mp_go  (hZ : Z ≤ 200) (hbt : ∀ j, j < Z → tx j = nI (bt j) ∧ bt j ≤ 255) (ha : a ≤ Z) (h0 : dr 0 = nI P) (hP : P < 6) (hkA : tkK bt Z a = 2) (hlA : 1 ≤ tkV bt Z a) (hhA : tkV bt Z a ≤ 9) (hkB : tkK bt Z (tkE bt Z a) = 2) (hlB : 0 ≤ tkV bt Z (tkE bt Z a)) (hhB : tkV bt Z (tkE bt Z a) ≤ 25) : zq_P l mX12_readsPerson 4 [.ref 41] (MH c tr tx (nI Z) td dr s im kp (nI a) so sr va wy) (some (.int 1)) (MH c tr tx (nI Z) td (upd (upd (upd dr (6 + P) (nI (tkV bt Z a))) (12 + P) (nI (tkV bt Z (tkE bt Z a)))) 0 (nI (P + 1))) s im kp (nI (tkE bt Z (tkE bt Z a))) 2 (nI (tkS bt Z (tkE bt Z a))) (nI (tkV bt Z (tkE bt Z a))) wy) := by
  refine zq_start (by decide +kernel) rfl (Nat.le_of_ble_eq_true rfl) ?_
  show zq_G _ _ _ _ _ 0 ([(0, .ref 41)], [], MH c tr tx (nI Z) td dr s im kp (nI a) so sr va wy)
  have hE1 := tkE_max (bt := bt) ha
  have hE2 := tkE_max (bt := bt) hE1
  have hE3 := tkE_max (bt := bt) hE2
  refine zq_b [zq_al 0, zq_get 12 4, zq_k 0, zq_iald 0 (nI P), zq_is1 1, zq_il 1, zq_k 6] [zq_alchk 0, zq_getchk 12 4, zq_kchk 0, zq_is .iaload 1, zq_is1chk 1, zq_ilchk 1, zq_kchk 6] 10 rfl (by decide +kernel) ?_
  refine ⟨rfl, (by omega), (by omega), h0, ?_⟩
  show zq_G _ _ _ _ _ 10 ([(0, .ref 41), (1, .int (nI P))], [.int 6, .int (nI P)], MH c tr tx (nI Z) td dr s im kp (nI a) so sr va wy)
  refine zq_if .eq 41 (P = 6) (by decide +kernel) (zq_ceq (a := P) (b := 6) (by omega) (by omega)) (fun c10 => absurd c10 (by omega)) (fun c10 => ?_)
  show zq_G _ _ _ _ _ 13 ([(0, .ref 41), (1, .int (nI P))], [], MH c tr tx (nI Z) td dr s im kp (nI a) so sr va wy)
  refine zq_b [zq_al 0, zq_k 6, zq_il 1, zq_iadd (nI (6 + P)), zq_k 1, zq_k 9] [zq_alchk 0, zq_kchk 6, zq_ilchk 1, zq_is .iadd 1, zq_kchk 1, zq_kchk 9] 21 rfl (by decide +kernel) ?_
  refine ⟨(nI_add 6 P), ?_⟩
  show zq_G _ _ _ _ _ 21 ([(0, .ref 41), (1, .int (nI P))], [.int 9, .int 1, .int (nI (6 + P)), .ref 41], MH c tr tx (nI Z) td dr s im kp (nI a) so sr va wy)
  refine zq_callV (av := [.int (nI (6 + P)), .int 1, .int 9]) (rest := []) (by decide +kernel) k12_73 (m_num_t (p := (6 + P)) (lo := 1) (hi := 9) hZ hbt (by omega) (by omega) hkA hlA hhA (by decide)) rfl rfl rfl rfl ?_
  show zq_G _ _ _ _ _ 24 ([(0, .ref 41), (1, .int (nI P))], [.int 1], MH c tr tx (nI Z) td (upd dr (6 + P) (nI (tkV bt Z a))) s im kp (nI (tkE bt Z a)) 2 (nI (tkS bt Z a)) (nI (tkV bt Z a)) wy)
  refine zq_ifz .eq 41 (1 = 0) (by decide +kernel) (zq_ceq (a := 1) (b := 0) (by omega) (by omega)) (fun c24 => absurd c24 (by decide)) (fun c24 => ?_)
  show zq_G _ _ _ _ _ 27 ([(0, .ref 41), (1, .int (nI P))], [], MH c tr tx (nI Z) td (upd dr (6 + P) (nI (tkV bt Z a))) s im kp (nI (tkE bt Z a)) 2 (nI (tkS bt Z a)) (nI (tkV bt Z a)) wy)
  refine zq_b [zq_al 0, zq_k 12, zq_il 1, zq_iadd (nI (12 + P)), zq_k 0, zq_k 25] [zq_alchk 0, zq_kchk 12, zq_ilchk 1, zq_is .iadd 1, zq_kchk 0, zq_kchk 25] 35 rfl (by decide +kernel) ?_
  refine ⟨(nI_add 12 P), ?_⟩
  show zq_G _ _ _ _ _ 35 ([(0, .ref 41), (1, .int (nI P))], [.int 25, .int 0, .int (nI (12 + P)), .ref 41], MH c tr tx (nI Z) td (upd dr (6 + P) (nI (tkV bt Z a))) s im kp (nI (tkE bt Z a)) 2 (nI (tkS bt Z a)) (nI (tkV bt Z a)) wy)
  refine zq_callV (av := [.int (nI (12 + P)), .int 0, .int 25]) (rest := []) (by decide +kernel) k12_73 (m_num_t (p := (12 + P)) (lo := 0) (hi := 25) hZ hbt (by omega) (by omega) hkB hlB hhB (by decide)) rfl rfl rfl rfl ?_
  show zq_G _ _ _ _ _ 38 ([(0, .ref 41), (1, .int (nI P))], [.int 1], MH c tr tx (nI Z) td (upd (upd dr (6 + P) (nI (tkV bt Z a))) (12 + P) (nI (tkV bt Z (tkE bt Z a)))) s im kp (nI (tkE bt Z (tkE bt Z a))) 2 (nI (tkS bt Z (tkE bt Z a))) (nI (tkV bt Z (tkE bt Z a))) wy)
  refine zq_ifz .ne 43 (¬ 1 = 0) (by decide +kernel) (zq_cne (a := 1) (b := 0) (by omega) (by omega)) (fun c38 => ?_) (fun c38 => absurd (by decide) c38)
  show zq_G _ _ _ _ _ 43 ([(0, .ref 41), (1, .int (nI P))], [], MH c tr tx (nI Z) td (upd (upd dr (6 + P) (nI (tkV bt Z a))) (12 + P) (nI (tkV bt Z (tkE bt Z a)))) s im kp (nI (tkE bt Z (tkE bt Z a))) 2 (nI (tkS bt Z (tkE bt Z a))) (nI (tkV bt Z (tkE bt Z a))) wy)
  refine zq_b [zq_al 0, zq_get 12 4, zq_k 0, zq_dup2, zq_iald 0 (nI P), zq_k 1, zq_iadd (nI (P + 1)), zq_iast 0, zq_k 1] [zq_alchk 0, zq_getchk 12 4, zq_kchk 0, zq_is .dup2 1, zq_is .iaload 1, zq_kchk 1, zq_is .iadd 1, zq_is .iastore 1, zq_kchk 1] 54 rfl (by decide +kernel) ?_
  refine ⟨rfl, (by omega), (by omega), (by rw [pk_un (by omega), pk_un (by omega), h0]), (nI_add P 1), rfl, (by omega), (by omega), ?_⟩
  show zq_G _ _ _ _ _ 54 ([(0, .ref 41), (1, .int (nI P))], [.int 1], MH c tr tx (nI Z) td (upd (upd (upd dr (6 + P) (nI (tkV bt Z a))) (12 + P) (nI (tkV bt Z (tkE bt Z a)))) 0 (nI (P + 1))) s im kp (nI (tkE bt Z (tkE bt Z a))) 2 (nI (tkS bt Z (tkE bt Z a))) (nI (tkV bt Z (tkE bt Z a))) wy)
  exact zq_zret (by decide +kernel) rfl (Or.inr rfl) rfl rfl
set_option maxHeartbeats 4000000 in
set_option maxRecDepth 100000 in
theorem ml_told  (h5 : dr 5 = 1) : zq_P l mX12_readsLate 4 [.ref 41] (MH c tr tx (nI Z) td dr s im kp (nI a) so sr va wy) (some (.int 0)) (MH c tr tx (nI Z) td dr s im kp (nI a) so sr va wy) := by
  refine zq_start (by decide +kernel) rfl (Nat.le_of_ble_eq_true rfl) ?_
  show zq_G _ _ _ _ _ 0 ([(0, .ref 41)], [], MH c tr tx (nI Z) td dr s im kp (nI a) so sr va wy)
  refine zq_b [zq_al 0, zq_get 12 4, zq_k 5, zq_iald 5 1, zq_k 1] [zq_alchk 0, zq_getchk 12 4, zq_kchk 5, zq_is .iaload 1, zq_kchk 1] 7 rfl (by decide +kernel) ?_
  refine ⟨rfl, (by omega), (by omega), h5, ?_⟩
  show zq_G _ _ _ _ _ 7 ([(0, .ref 41)], [.int 1, .int 1], MH c tr tx (nI Z) td dr s im kp (nI a) so sr va wy)
  refine zq_if .ne 12 (¬ 1 = 1) (by decide +kernel) (zq_cne (a := 1) (b := 1) (by omega) (by omega)) (fun c7 => absurd c7 (fun q => q rfl)) (fun c7 => ?_)
  show zq_G _ _ _ _ _ 10 ([(0, .ref 41)], [], MH c tr tx (nI Z) td dr s im kp (nI a) so sr va wy)
  refine zq_b [zq_k 0] [zq_kchk 0] 11 rfl (by decide +kernel) ?_
  show zq_G _ _ _ _ _ 11 ([(0, .ref 41)], [.int 0], MH c tr tx (nI Z) td dr s im kp (nI a) so sr va wy)
  exact zq_zret (by decide +kernel) rfl (Or.inl rfl) rfl rfl
set_option maxHeartbeats 4000000 in
set_option maxRecDepth 100000 in
theorem ml_n  (hZ : Z ≤ 200) (hbt : ∀ j, j < Z → tx j = nI (bt j) ∧ bt j ≤ 255) (ha : a ≤ Z) (h5 : dr 5 = 0) (hkA : ¬ (tkK bt Z a = 2 ∧ 1 ≤ tkV bt Z a ∧ tkV bt Z a ≤ 30)) : zq_P l mX12_readsLate 4 [.ref 41] (MH c tr tx (nI Z) td dr s im kp (nI a) so sr va wy) (some (.int 0)) (MH c tr tx (nI Z) td (upd (upd dr 5 1) 3 (tvM bt Z a)) s im kp (nI (tkE bt Z a)) (nI (tkM bt Z a)) (nI (tkS bt Z a)) (tvM bt Z a) wy) := by
  refine zq_start (by decide +kernel) rfl (Nat.le_of_ble_eq_true rfl) ?_
  show zq_G _ _ _ _ _ 0 ([(0, .ref 41)], [], MH c tr tx (nI Z) td dr s im kp (nI a) so sr va wy)
  have hE1 := tkE_max (bt := bt) ha
  have hE2 := tkE_max (bt := bt) hE1
  have hE3 := tkE_max (bt := bt) hE2
  refine zq_b [zq_al 0, zq_get 12 4, zq_k 5, zq_iald 5 0, zq_k 1] [zq_alchk 0, zq_getchk 12 4, zq_kchk 5, zq_is .iaload 1, zq_kchk 1] 7 rfl (by decide +kernel) ?_
  refine ⟨rfl, (by omega), (by omega), h5, ?_⟩
  show zq_G _ _ _ _ _ 7 ([(0, .ref 41)], [.int 1, .int 0], MH c tr tx (nI Z) td dr s im kp (nI a) so sr va wy)
  refine zq_if .ne 12 (¬ 0 = 1) (by decide +kernel) (zq_cne (a := 0) (b := 1) (by omega) (by omega)) (fun c7 => ?_) (fun c7 => absurd (by decide) c7)
  show zq_G _ _ _ _ _ 12 ([(0, .ref 41)], [], MH c tr tx (nI Z) td dr s im kp (nI a) so sr va wy)
  refine zq_b [zq_al 0, zq_get 12 4, zq_k 5, zq_k 1, zq_iast 5, zq_al 0, zq_k 3, zq_k 1, zq_k 30] [zq_alchk 0, zq_getchk 12 4, zq_kchk 5, zq_kchk 1, zq_is .iastore 1, zq_alchk 0, zq_kchk 3, zq_kchk 1, zq_kchk 30] 24 rfl (by decide +kernel) ?_
  refine ⟨rfl, (by omega), (by omega), ?_⟩
  show zq_G _ _ _ _ _ 24 ([(0, .ref 41)], [.int 30, .int 1, .int 3, .ref 41], MH c tr tx (nI Z) td (upd dr 5 1) s im kp (nI a) so sr va wy)
  refine zq_callV (av := [.int 3, .int 1, .int 30]) (rest := []) (by decide +kernel) k12_73 (m_num_f (p := 3) (lo := 1) (hi := 30) hZ hbt (by omega) (by omega) hkA (by decide)) rfl rfl rfl rfl ?_
  show zq_G _ _ _ _ _ 27 ([(0, .ref 41)], [.int 0], MH c tr tx (nI Z) td (upd (upd dr 5 1) 3 (tvM bt Z a)) s im kp (nI (tkE bt Z a)) (nI (tkM bt Z a)) (nI (tkS bt Z a)) (tvM bt Z a) wy)
  exact zq_zret (by decide +kernel) rfl (Or.inl rfl) rfl rfl
set_option maxHeartbeats 4000000 in
set_option maxRecDepth 100000 in
theorem ml_go  (hZ : Z ≤ 200) (hbt : ∀ j, j < Z → tx j = nI (bt j) ∧ bt j ≤ 255) (ha : a ≤ Z) (h5 : dr 5 = 0) (hkA : tkK bt Z a = 2) (hlA : 1 ≤ tkV bt Z a) (hhA : tkV bt Z a ≤ 30) : zq_P l mX12_readsLate 4 [.ref 41] (MH c tr tx (nI Z) td dr s im kp (nI a) so sr va wy) (some (.int 1)) (MH c tr tx (nI Z) td (upd (upd dr 5 1) 3 (nI (tkV bt Z a))) s im kp (nI (tkE bt Z a)) 2 (nI (tkS bt Z a)) (nI (tkV bt Z a)) wy) := by
  refine zq_start (by decide +kernel) rfl (Nat.le_of_ble_eq_true rfl) ?_
  show zq_G _ _ _ _ _ 0 ([(0, .ref 41)], [], MH c tr tx (nI Z) td dr s im kp (nI a) so sr va wy)
  have hE1 := tkE_max (bt := bt) ha
  have hE2 := tkE_max (bt := bt) hE1
  have hE3 := tkE_max (bt := bt) hE2
  refine zq_b [zq_al 0, zq_get 12 4, zq_k 5, zq_iald 5 0, zq_k 1] [zq_alchk 0, zq_getchk 12 4, zq_kchk 5, zq_is .iaload 1, zq_kchk 1] 7 rfl (by decide +kernel) ?_
  refine ⟨rfl, (by omega), (by omega), h5, ?_⟩
  show zq_G _ _ _ _ _ 7 ([(0, .ref 41)], [.int 1, .int 0], MH c tr tx (nI Z) td dr s im kp (nI a) so sr va wy)
  refine zq_if .ne 12 (¬ 0 = 1) (by decide +kernel) (zq_cne (a := 0) (b := 1) (by omega) (by omega)) (fun c7 => ?_) (fun c7 => absurd (by decide) c7)
  show zq_G _ _ _ _ _ 12 ([(0, .ref 41)], [], MH c tr tx (nI Z) td dr s im kp (nI a) so sr va wy)
  refine zq_b [zq_al 0, zq_get 12 4, zq_k 5, zq_k 1, zq_iast 5, zq_al 0, zq_k 3, zq_k 1, zq_k 30] [zq_alchk 0, zq_getchk 12 4, zq_kchk 5, zq_kchk 1, zq_is .iastore 1, zq_alchk 0, zq_kchk 3, zq_kchk 1, zq_kchk 30] 24 rfl (by decide +kernel) ?_
  refine ⟨rfl, (by omega), (by omega), ?_⟩
  show zq_G _ _ _ _ _ 24 ([(0, .ref 41)], [.int 30, .int 1, .int 3, .ref 41], MH c tr tx (nI Z) td (upd dr 5 1) s im kp (nI a) so sr va wy)
  refine zq_callV (av := [.int 3, .int 1, .int 30]) (rest := []) (by decide +kernel) k12_73 (m_num_t (p := 3) (lo := 1) (hi := 30) hZ hbt (by omega) (by omega) hkA hlA hhA (by decide)) rfl rfl rfl rfl ?_
  show zq_G _ _ _ _ _ 27 ([(0, .ref 41)], [.int 1], MH c tr tx (nI Z) td (upd (upd dr 5 1) 3 (nI (tkV bt Z a))) s im kp (nI (tkE bt Z a)) 2 (nI (tkS bt Z a)) (nI (tkV bt Z a)) wy)
  exact zq_zret (by decide +kernel) rfl (Or.inr rfl) rfl rfl
set_option maxHeartbeats 4000000 in
set_option maxRecDepth 100000 in
theorem mc_full  (hZ : Z ≤ 200) (hbt : ∀ j, j < Z → tx j = nI (bt j) ∧ bt j ≤ 255) (ha : a ≤ Z) (h1 : dr 1 = nI C) (hC : C = 8) : zq_P l mX12_readsCloud 4 [.ref 41] (MH c tr tx (nI Z) td dr s im kp (nI a) so sr va wy) (some (.int 0)) (MH c tr tx (nI Z) td dr s im kp (nI a) so sr va wy) := by
  refine zq_start (by decide +kernel) rfl (Nat.le_of_ble_eq_true rfl) ?_
  show zq_G _ _ _ _ _ 0 ([(0, .ref 41)], [], MH c tr tx (nI Z) td dr s im kp (nI a) so sr va wy)
  refine zq_b [zq_al 0, zq_get 12 4, zq_k 1, zq_iald 1 (nI C), zq_is1 1, zq_il 1, zq_k 8] [zq_alchk 0, zq_getchk 12 4, zq_kchk 1, zq_is .iaload 1, zq_is1chk 1, zq_ilchk 1, zq_kchk 8] 10 rfl (by decide +kernel) ?_
  refine ⟨rfl, (by omega), (by omega), h1, ?_⟩
  show zq_G _ _ _ _ _ 10 ([(0, .ref 41), (1, .int (nI C))], [.int 8, .int (nI C)], MH c tr tx (nI Z) td dr s im kp (nI a) so sr va wy)
  refine zq_if .eq 27 (C = 8) (by decide +kernel) (zq_ceq (a := C) (b := 8) (by omega) (by omega)) (fun c10 => ?_) (fun c10 => absurd (by omega) c10)
  show zq_G _ _ _ _ _ 27 ([(0, .ref 41), (1, .int (nI C))], [], MH c tr tx (nI Z) td dr s im kp (nI a) so sr va wy)
  refine zq_b [zq_k 0] [zq_kchk 0] 28 rfl (by decide +kernel) ?_
  show zq_G _ _ _ _ _ 28 ([(0, .ref 41), (1, .int (nI C))], [.int 0], MH c tr tx (nI Z) td dr s im kp (nI a) so sr va wy)
  exact zq_zret (by decide +kernel) rfl (Or.inl rfl) rfl rfl
set_option maxHeartbeats 4000000 in
set_option maxRecDepth 100000 in
theorem mc_n  (hZ : Z ≤ 200) (hbt : ∀ j, j < Z → tx j = nI (bt j) ∧ bt j ≤ 255) (ha : a ≤ Z) (h1 : dr 1 = nI C) (hC : C < 8) (hkA : ¬ (tkK bt Z a = 2 ∧ 0 ≤ tkV bt Z a ∧ tkV bt Z a ≤ 99)) : zq_P l mX12_readsCloud 4 [.ref 41] (MH c tr tx (nI Z) td dr s im kp (nI a) so sr va wy) (some (.int 0)) (MH c tr tx (nI Z) td (upd dr (18 + C) (tvM bt Z a)) s im kp (nI (tkE bt Z a)) (nI (tkM bt Z a)) (nI (tkS bt Z a)) (tvM bt Z a) wy) := by
  refine zq_start (by decide +kernel) rfl (Nat.le_of_ble_eq_true rfl) ?_
  show zq_G _ _ _ _ _ 0 ([(0, .ref 41)], [], MH c tr tx (nI Z) td dr s im kp (nI a) so sr va wy)
  have hE1 := tkE_max (bt := bt) ha
  have hE2 := tkE_max (bt := bt) hE1
  have hE3 := tkE_max (bt := bt) hE2
  refine zq_b [zq_al 0, zq_get 12 4, zq_k 1, zq_iald 1 (nI C), zq_is1 1, zq_il 1, zq_k 8] [zq_alchk 0, zq_getchk 12 4, zq_kchk 1, zq_is .iaload 1, zq_is1chk 1, zq_ilchk 1, zq_kchk 8] 10 rfl (by decide +kernel) ?_
  refine ⟨rfl, (by omega), (by omega), h1, ?_⟩
  show zq_G _ _ _ _ _ 10 ([(0, .ref 41), (1, .int (nI C))], [.int 8, .int (nI C)], MH c tr tx (nI Z) td dr s im kp (nI a) so sr va wy)
  refine zq_if .eq 27 (C = 8) (by decide +kernel) (zq_ceq (a := C) (b := 8) (by omega) (by omega)) (fun c10 => absurd c10 (by omega)) (fun c10 => ?_)
  show zq_G _ _ _ _ _ 13 ([(0, .ref 41), (1, .int (nI C))], [], MH c tr tx (nI Z) td dr s im kp (nI a) so sr va wy)
  refine zq_b [zq_al 0, zq_k 18, zq_il 1, zq_iadd (nI (18 + C)), zq_k 0, zq_k 99] [zq_alchk 0, zq_kchk 18, zq_ilchk 1, zq_is .iadd 1, zq_kchk 0, zq_kchk 99] 21 rfl (by decide +kernel) ?_
  refine ⟨(nI_add 18 C), ?_⟩
  show zq_G _ _ _ _ _ 21 ([(0, .ref 41), (1, .int (nI C))], [.int 99, .int 0, .int (nI (18 + C)), .ref 41], MH c tr tx (nI Z) td dr s im kp (nI a) so sr va wy)
  refine zq_callV (av := [.int (nI (18 + C)), .int 0, .int 99]) (rest := []) (by decide +kernel) k12_73 (m_num_f (p := (18 + C)) (lo := 0) (hi := 99) hZ hbt (by omega) (by omega) hkA (by decide)) rfl rfl rfl rfl ?_
  show zq_G _ _ _ _ _ 24 ([(0, .ref 41), (1, .int (nI C))], [.int 0], MH c tr tx (nI Z) td (upd dr (18 + C) (tvM bt Z a)) s im kp (nI (tkE bt Z a)) (nI (tkM bt Z a)) (nI (tkS bt Z a)) (tvM bt Z a) wy)
  refine zq_ifz .ne 29 (¬ 0 = 0) (by decide +kernel) (zq_cne (a := 0) (b := 0) (by omega) (by omega)) (fun c24 => absurd c24 (fun q => q rfl)) (fun c24 => ?_)
  show zq_G _ _ _ _ _ 27 ([(0, .ref 41), (1, .int (nI C))], [], MH c tr tx (nI Z) td (upd dr (18 + C) (tvM bt Z a)) s im kp (nI (tkE bt Z a)) (nI (tkM bt Z a)) (nI (tkS bt Z a)) (tvM bt Z a) wy)
  refine zq_b [zq_k 0] [zq_kchk 0] 28 rfl (by decide +kernel) ?_
  show zq_G _ _ _ _ _ 28 ([(0, .ref 41), (1, .int (nI C))], [.int 0], MH c tr tx (nI Z) td (upd dr (18 + C) (tvM bt Z a)) s im kp (nI (tkE bt Z a)) (nI (tkM bt Z a)) (nI (tkS bt Z a)) (tvM bt Z a) wy)
  exact zq_zret (by decide +kernel) rfl (Or.inl rfl) rfl rfl
set_option maxHeartbeats 4000000 in
set_option maxRecDepth 100000 in
theorem mc_go  (hZ : Z ≤ 200) (hbt : ∀ j, j < Z → tx j = nI (bt j) ∧ bt j ≤ 255) (ha : a ≤ Z) (h1 : dr 1 = nI C) (hC : C < 8) (hkA : tkK bt Z a = 2) (hlA : 0 ≤ tkV bt Z a) (hhA : tkV bt Z a ≤ 99) : zq_P l mX12_readsCloud 4 [.ref 41] (MH c tr tx (nI Z) td dr s im kp (nI a) so sr va wy) (some (.int (zb (¬ zany (fun i => decide (dr (18 + i) = nI (tkV bt Z a))) C = true)))) (MH c tr tx (nI Z) td (upd (upd dr (18 + C) (nI (tkV bt Z a))) 1 (nI (C + 1))) s im kp (nI (tkE bt Z a)) 2 (nI (tkS bt Z a)) (nI (tkV bt Z a)) wy) := by
  refine zq_start (by decide +kernel) rfl (Nat.le_of_ble_eq_true rfl) ?_
  show zq_G _ _ _ _ _ 0 ([(0, .ref 41)], [], MH c tr tx (nI Z) td dr s im kp (nI a) so sr va wy)
  have hE1 := tkE_max (bt := bt) ha
  have hE2 := tkE_max (bt := bt) hE1
  have hE3 := tkE_max (bt := bt) hE2
  refine zq_b [zq_al 0, zq_get 12 4, zq_k 1, zq_iald 1 (nI C), zq_is1 1, zq_il 1, zq_k 8] [zq_alchk 0, zq_getchk 12 4, zq_kchk 1, zq_is .iaload 1, zq_is1chk 1, zq_ilchk 1, zq_kchk 8] 10 rfl (by decide +kernel) ?_
  refine ⟨rfl, (by omega), (by omega), h1, ?_⟩
  show zq_G _ _ _ _ _ 10 ([(0, .ref 41), (1, .int (nI C))], [.int 8, .int (nI C)], MH c tr tx (nI Z) td dr s im kp (nI a) so sr va wy)
  refine zq_if .eq 27 (C = 8) (by decide +kernel) (zq_ceq (a := C) (b := 8) (by omega) (by omega)) (fun c10 => absurd c10 (by omega)) (fun c10 => ?_)
  show zq_G _ _ _ _ _ 13 ([(0, .ref 41), (1, .int (nI C))], [], MH c tr tx (nI Z) td dr s im kp (nI a) so sr va wy)
  refine zq_b [zq_al 0, zq_k 18, zq_il 1, zq_iadd (nI (18 + C)), zq_k 0, zq_k 99] [zq_alchk 0, zq_kchk 18, zq_ilchk 1, zq_is .iadd 1, zq_kchk 0, zq_kchk 99] 21 rfl (by decide +kernel) ?_
  refine ⟨(nI_add 18 C), ?_⟩
  show zq_G _ _ _ _ _ 21 ([(0, .ref 41), (1, .int (nI C))], [.int 99, .int 0, .int (nI (18 + C)), .ref 41], MH c tr tx (nI Z) td dr s im kp (nI a) so sr va wy)
  refine zq_callV (av := [.int (nI (18 + C)), .int 0, .int 99]) (rest := []) (by decide +kernel) k12_73 (m_num_t (p := (18 + C)) (lo := 0) (hi := 99) hZ hbt (by omega) (by omega) hkA hlA hhA (by decide)) rfl rfl rfl rfl ?_
  show zq_G _ _ _ _ _ 24 ([(0, .ref 41), (1, .int (nI C))], [.int 1], MH c tr tx (nI Z) td (upd dr (18 + C) (nI (tkV bt Z a))) s im kp (nI (tkE bt Z a)) 2 (nI (tkS bt Z a)) (nI (tkV bt Z a)) wy)
  refine zq_ifz .ne 29 (¬ 1 = 0) (by decide +kernel) (zq_cne (a := 1) (b := 0) (by omega) (by omega)) (fun c24 => ?_) (fun c24 => absurd (by decide) c24)
  show zq_G _ _ _ _ _ 29 ([(0, .ref 41), (1, .int (nI C))], [], MH c tr tx (nI Z) td (upd dr (18 + C) (nI (tkV bt Z a))) s im kp (nI (tkE bt Z a)) 2 (nI (tkS bt Z a)) (nI (tkV bt Z a)) wy)
  refine zq_b [zq_k 1, zq_is1 2, zq_k 0, zq_is1 3] [zq_kchk 1, zq_is1chk 2, zq_kchk 0, zq_is1chk 3] 33 rfl (by decide +kernel) ?_
  show zq_G _ _ _ _ _ 33 ([(0, .ref 41), (1, .int (nI C)), (2, .int 1), (3, .int 0)], [], MH c tr tx (nI Z) td (upd dr (18 + C) (nI (tkV bt Z a))) s im kp (nI (tkE bt Z a)) 2 (nI (tkS bt Z a)) (nI (tkV bt Z a)) wy)
  refine zq_eq (σ2 := ([(0, .ref 41), (1, .int (nI C)), (2, .int (zb (¬ zany (fun i => decide (dr (18 + i) = nI (tkV bt Z a))) (0 : Nat) = true))), (3, .int (nI (0 : Nat)))], [], MH c tr tx (nI Z) td (upd dr (18 + C) (nI (tkV bt Z a))) s im kp (nI (tkE bt Z a)) 2 (nI (tkS bt Z a)) (nI (tkV bt Z a)) wy)) (by rw [← zb_t (P := ¬ zany (fun i => decide (dr (18 + i) = nI (tkV bt Z a))) 0 = true) Bool.false_ne_true]; rfl) ?_
  refine zq_loop (fun i => ([(0, .ref 41), (1, .int (nI C)), (2, .int (zb (¬ zany (fun i => decide (dr (18 + i) = nI (tkV bt Z a))) i = true))), (3, .int (nI i))], [], MH c tr tx (nI Z) td (upd dr (18 + C) (nI (tkV bt Z a))) s im kp (nI (tkE bt Z a)) 2 (nI (tkS bt Z a)) (nI (tkV bt Z a)) wy)) (fun i => True) (C) (0) (by omega) (trivial) (fun i hl33 hi33 hI33 ih33 => ?_) (fun hI33 => ?_)
  · show zq_G _ _ _ _ _ 33 ([(0, .ref 41), (1, .int (nI C)), (2, .int (zb (¬ zany (fun i => decide (dr (18 + i) = nI (tkV bt Z a))) i = true))), (3, .int (nI i))], [], MH c tr tx (nI Z) td (upd dr (18 + C) (nI (tkV bt Z a))) s im kp (nI (tkE bt Z a)) 2 (nI (tkS bt Z a)) (nI (tkV bt Z a)) wy)
    refine zq_b [zq_il 3, zq_il 1] [zq_ilchk 3, zq_ilchk 1] 35 rfl (by decide +kernel) ?_
    show zq_G _ _ _ _ _ 35 ([(0, .ref 41), (1, .int (nI C)), (2, .int (zb (¬ zany (fun i => decide (dr (18 + i) = nI (tkV bt Z a))) i = true))), (3, .int (nI i))], [.int (nI C), .int (nI i)], MH c tr tx (nI Z) td (upd dr (18 + C) (nI (tkV bt Z a))) s im kp (nI (tkE bt Z a)) 2 (nI (tkS bt Z a)) (nI (tkV bt Z a)) wy)
    refine zq_if .ge 70 (C ≤ i) (by decide +kernel) (zq_cge (a := i) (b := C) (by omega) (by omega)) (fun c35 => absurd c35 (by omega)) (fun c35 => ?_)
    show zq_G _ _ _ _ _ 38 ([(0, .ref 41), (1, .int (nI C)), (2, .int (zb (¬ zany (fun i => decide (dr (18 + i) = nI (tkV bt Z a))) i = true))), (3, .int (nI i))], [], MH c tr tx (nI Z) td (upd dr (18 + C) (nI (tkV bt Z a))) s im kp (nI (tkE bt Z a)) 2 (nI (tkS bt Z a)) (nI (tkV bt Z a)) wy)
    refine zq_b [zq_il 2] [zq_ilchk 2] 39 rfl (by decide +kernel) ?_
    show zq_G _ _ _ _ _ 39 ([(0, .ref 41), (1, .int (nI C)), (2, .int (zb (¬ zany (fun i => decide (dr (18 + i) = nI (tkV bt Z a))) i = true))), (3, .int (nI i))], [.int (zb (¬ zany (fun i => decide (dr (18 + i) = nI (tkV bt Z a))) i = true))], MH c tr tx (nI Z) td (upd dr (18 + C) (nI (tkV bt Z a))) s im kp (nI (tkE bt Z a)) 2 (nI (tkS bt Z a)) (nI (tkV bt Z a)) wy)
    refine zq_ifz .eq 62 (¬ (¬ zany (fun i => decide (dr (18 + i) = nI (tkV bt Z a))) i = true)) (by decide +kernel) (zb_eq _) (fun c39 => ?_) (fun c39 => ?_)
    · show zq_G _ _ _ _ _ 62 ([(0, .ref 41), (1, .int (nI C)), (2, .int (zb (¬ zany (fun i => decide (dr (18 + i) = nI (tkV bt Z a))) i = true))), (3, .int (nI i))], [], MH c tr tx (nI Z) td (upd dr (18 + C) (nI (tkV bt Z a))) s im kp (nI (tkE bt Z a)) 2 (nI (tkS bt Z a)) (nI (tkV bt Z a)) wy)
      refine zq_b [zq_k 0, zq_is1 2, zq_inc 3 1 (nI (i + 1)), zq_go] [zq_kchk 0, zq_is1chk 2, zq_incchk 3 1, zq_gochk] 33 rfl (by decide +kernel) ?_
      refine ⟨nI_add i 1, ?_⟩
      show zq_G _ _ _ _ _ 33 ([(0, .ref 41), (1, .int (nI C)), (2, .int 0), (3, .int (nI (i + 1)))], [], MH c tr tx (nI Z) td (upd dr (18 + C) (nI (tkV bt Z a))) s im kp (nI (tkE bt Z a)) 2 (nI (tkS bt Z a)) (nI (tkV bt Z a)) wy)
      exact zq_eq (by rw [← zb_f (P := ¬ zany (fun i => decide (dr (18 + i) = nI (tkV bt Z a))) (i + 1) = true) (fun y => y (by rw [zany, Bool.or_eq_true]; exact Or.inl (Decidable.not_not.mp c39)))]) (ih33 trivial)
    · show zq_G _ _ _ _ _ 42 ([(0, .ref 41), (1, .int (nI C)), (2, .int (zb (¬ zany (fun i => decide (dr (18 + i) = nI (tkV bt Z a))) i = true))), (3, .int (nI i))], [], MH c tr tx (nI Z) td (upd dr (18 + C) (nI (tkV bt Z a))) s im kp (nI (tkE bt Z a)) 2 (nI (tkS bt Z a)) (nI (tkV bt Z a)) wy)
      refine zq_b [zq_al 0, zq_get 12 4, zq_k 18, zq_il 3, zq_iadd (nI (18 + i)), zq_iald (18 + i) (dr (18 + i)), zq_al 0, zq_get 12 11] [zq_alchk 0, zq_getchk 12 4, zq_kchk 18, zq_ilchk 3, zq_is .iadd 1, zq_is .iaload 1, zq_alchk 0, zq_getchk 12 11] 55 rfl (by decide +kernel) ?_
      refine ⟨(nI_add 18 i), rfl, (by omega), (by omega), (pk_un (by omega)), ?_⟩
      show zq_G _ _ _ _ _ 55 ([(0, .ref 41), (1, .int (nI C)), (2, .int (zb (¬ zany (fun i => decide (dr (18 + i) = nI (tkV bt Z a))) i = true))), (3, .int (nI i))], [.int (nI (tkV bt Z a)), .int (dr (18 + i))], MH c tr tx (nI Z) td (upd dr (18 + C) (nI (tkV bt Z a))) s im kp (nI (tkE bt Z a)) 2 (nI (tkS bt Z a)) (nI (tkV bt Z a)) wy)
      refine zq_if .eq 62 ((dr (18 + i)) = (nI (tkV bt Z a))) (by decide +kernel) (Iff.rfl) (fun c55 => ?_) (fun c55 => ?_)
      · show zq_G _ _ _ _ _ 62 ([(0, .ref 41), (1, .int (nI C)), (2, .int (zb (¬ zany (fun i => decide (dr (18 + i) = nI (tkV bt Z a))) i = true))), (3, .int (nI i))], [], MH c tr tx (nI Z) td (upd dr (18 + C) (nI (tkV bt Z a))) s im kp (nI (tkE bt Z a)) 2 (nI (tkS bt Z a)) (nI (tkV bt Z a)) wy)
        refine zq_b [zq_k 0, zq_is1 2, zq_inc 3 1 (nI (i + 1)), zq_go] [zq_kchk 0, zq_is1chk 2, zq_incchk 3 1, zq_gochk] 33 rfl (by decide +kernel) ?_
        refine ⟨nI_add i 1, ?_⟩
        show zq_G _ _ _ _ _ 33 ([(0, .ref 41), (1, .int (nI C)), (2, .int 0), (3, .int (nI (i + 1)))], [], MH c tr tx (nI Z) td (upd dr (18 + C) (nI (tkV bt Z a))) s im kp (nI (tkE bt Z a)) 2 (nI (tkS bt Z a)) (nI (tkV bt Z a)) wy)
        exact zq_eq (by rw [← zb_f (P := ¬ zany (fun i => decide (dr (18 + i) = nI (tkV bt Z a))) (i + 1) = true) (fun y => y (by rw [zany, Bool.or_eq_true]; exact Or.inr (decide_eq_true c55)))]) (ih33 trivial)
      · show zq_G _ _ _ _ _ 58 ([(0, .ref 41), (1, .int (nI C)), (2, .int (zb (¬ zany (fun i => decide (dr (18 + i) = nI (tkV bt Z a))) i = true))), (3, .int (nI i))], [], MH c tr tx (nI Z) td (upd dr (18 + C) (nI (tkV bt Z a))) s im kp (nI (tkE bt Z a)) 2 (nI (tkS bt Z a)) (nI (tkV bt Z a)) wy)
        refine zq_b [zq_k 1, zq_go, zq_is1 2, zq_inc 3 1 (nI (i + 1)), zq_go] [zq_kchk 1, zq_gochk, zq_is1chk 2, zq_incchk 3 1, zq_gochk] 33 rfl (by decide +kernel) ?_
        refine ⟨nI_add i 1, ?_⟩
        show zq_G _ _ _ _ _ 33 ([(0, .ref 41), (1, .int (nI C)), (2, .int 1), (3, .int (nI (i + 1)))], [], MH c tr tx (nI Z) td (upd dr (18 + C) (nI (tkV bt Z a))) s im kp (nI (tkE bt Z a)) 2 (nI (tkS bt Z a)) (nI (tkV bt Z a)) wy)
        exact zq_eq (by rw [← zb_t (P := ¬ zany (fun i => decide (dr (18 + i) = nI (tkV bt Z a))) (i + 1) = true) (by rw [zany, Bool.or_eq_true]; rintro (z | z); exact c39 (fun y => y z); exact c55 (of_decide_eq_true z))]) (ih33 trivial)
  · show zq_G _ _ _ _ _ 33 ([(0, .ref 41), (1, .int (nI C)), (2, .int (zb (¬ zany (fun i => decide (dr (18 + i) = nI (tkV bt Z a))) C = true))), (3, .int (nI C))], [], MH c tr tx (nI Z) td (upd dr (18 + C) (nI (tkV bt Z a))) s im kp (nI (tkE bt Z a)) 2 (nI (tkS bt Z a)) (nI (tkV bt Z a)) wy)
    refine zq_b [zq_il 3, zq_il 1] [zq_ilchk 3, zq_ilchk 1] 35 rfl (by decide +kernel) ?_
    show zq_G _ _ _ _ _ 35 ([(0, .ref 41), (1, .int (nI C)), (2, .int (zb (¬ zany (fun i => decide (dr (18 + i) = nI (tkV bt Z a))) C = true))), (3, .int (nI C))], [.int (nI C), .int (nI C)], MH c tr tx (nI Z) td (upd dr (18 + C) (nI (tkV bt Z a))) s im kp (nI (tkE bt Z a)) 2 (nI (tkS bt Z a)) (nI (tkV bt Z a)) wy)
    refine zq_if .ge 70 (C ≤ C) (by decide +kernel) (zq_cge (a := C) (b := C) (by omega) (by omega)) (fun c35 => ?_) (fun c35 => absurd (by omega) c35)
    show zq_G _ _ _ _ _ 70 ([(0, .ref 41), (1, .int (nI C)), (2, .int (zb (¬ zany (fun i => decide (dr (18 + i) = nI (tkV bt Z a))) C = true))), (3, .int (nI C))], [], MH c tr tx (nI Z) td (upd dr (18 + C) (nI (tkV bt Z a))) s im kp (nI (tkE bt Z a)) 2 (nI (tkS bt Z a)) (nI (tkV bt Z a)) wy)
    refine zq_b [zq_al 0, zq_get 12 4, zq_k 1, zq_dup2, zq_iald 1 (nI C), zq_k 1, zq_iadd (nI (C + 1)), zq_iast 1, zq_il 2] [zq_alchk 0, zq_getchk 12 4, zq_kchk 1, zq_is .dup2 1, zq_is .iaload 1, zq_kchk 1, zq_is .iadd 1, zq_is .iastore 1, zq_ilchk 2] 81 rfl (by decide +kernel) ?_
    refine ⟨rfl, (by omega), (by omega), (by rw [pk_un (by omega), h1]), (nI_add C 1), rfl, (by omega), (by omega), ?_⟩
    show zq_G _ _ _ _ _ 81 ([(0, .ref 41), (1, .int (nI C)), (2, .int (zb (¬ zany (fun i => decide (dr (18 + i) = nI (tkV bt Z a))) C = true))), (3, .int (nI C))], [.int (zb (¬ zany (fun i => decide (dr (18 + i) = nI (tkV bt Z a))) C = true))], MH c tr tx (nI Z) td (upd (upd dr (18 + C) (nI (tkV bt Z a))) 1 (nI (C + 1))) s im kp (nI (tkE bt Z a)) 2 (nI (tkS bt Z a)) (nI (tkV bt Z a)) wy)
    exact zq_zret (by decide +kernel) rfl (zb_01 _) rfl rfl
set_option maxHeartbeats 4000000 in
set_option maxRecDepth 100000 in
theorem mr_full  (hZ : Z ≤ 200) (hbt : ∀ j, j < Z → tx j = nI (bt j) ∧ bt j ≤ 255) (ha : a ≤ Z) (h2 : dr 2 = nI R) (hR : R = 6) : zq_P l mX12_readsRule 4 [.ref 41] (MH c tr tx (nI Z) td dr s im kp (nI a) so sr va wy) (some (.int 0)) (MH c tr tx (nI Z) td dr s im kp (nI a) so sr va wy) := by
  refine zq_start (by decide +kernel) rfl (Nat.le_of_ble_eq_true rfl) ?_
  show zq_G _ _ _ _ _ 0 ([(0, .ref 41)], [], MH c tr tx (nI Z) td dr s im kp (nI a) so sr va wy)
  refine zq_b [zq_al 0, zq_get 12 4, zq_k 2, zq_iald 2 (nI R), zq_is1 1, zq_il 1, zq_k 6] [zq_alchk 0, zq_getchk 12 4, zq_kchk 2, zq_is .iaload 1, zq_is1chk 1, zq_ilchk 1, zq_kchk 6] 10 rfl (by decide +kernel) ?_
  refine ⟨rfl, (by omega), (by omega), h2, ?_⟩
  show zq_G _ _ _ _ _ 10 ([(0, .ref 41), (1, .int (nI R))], [.int 6, .int (nI R)], MH c tr tx (nI Z) td dr s im kp (nI a) so sr va wy)
  refine zq_if .eq 27 (R = 6) (by decide +kernel) (zq_ceq (a := R) (b := 6) (by omega) (by omega)) (fun c10 => ?_) (fun c10 => absurd (by omega) c10)
  show zq_G _ _ _ _ _ 27 ([(0, .ref 41), (1, .int (nI R))], [], MH c tr tx (nI Z) td dr s im kp (nI a) so sr va wy)
  refine zq_b [zq_k 0] [zq_kchk 0] 28 rfl (by decide +kernel) ?_
  show zq_G _ _ _ _ _ 28 ([(0, .ref 41), (1, .int (nI R))], [.int 0], MH c tr tx (nI Z) td dr s im kp (nI a) so sr va wy)
  exact zq_zret (by decide +kernel) rfl (Or.inl rfl) rfl rfl
set_option maxHeartbeats 4000000 in
set_option maxRecDepth 100000 in
theorem mr_n1  (hZ : Z ≤ 200) (hbt : ∀ j, j < Z → tx j = nI (bt j) ∧ bt j ≤ 255) (ha : a ≤ Z) (h2 : dr 2 = nI R) (hR : R < 6) (hkA : ¬ (tkK bt Z a = 2 ∧ 0 ≤ tkV bt Z a ∧ tkV bt Z a ≤ 7)) : zq_P l mX12_readsRule 4 [.ref 41] (MH c tr tx (nI Z) td dr s im kp (nI a) so sr va wy) (some (.int 0)) (MH c tr tx (nI Z) td (upd dr (26 + R) (tvM bt Z a)) s im kp (nI (tkE bt Z a)) (nI (tkM bt Z a)) (nI (tkS bt Z a)) (tvM bt Z a) wy) := by
  refine zq_start (by decide +kernel) rfl (Nat.le_of_ble_eq_true rfl) ?_
  show zq_G _ _ _ _ _ 0 ([(0, .ref 41)], [], MH c tr tx (nI Z) td dr s im kp (nI a) so sr va wy)
  have hE1 := tkE_max (bt := bt) ha
  have hE2 := tkE_max (bt := bt) hE1
  have hE3 := tkE_max (bt := bt) hE2
  refine zq_b [zq_al 0, zq_get 12 4, zq_k 2, zq_iald 2 (nI R), zq_is1 1, zq_il 1, zq_k 6] [zq_alchk 0, zq_getchk 12 4, zq_kchk 2, zq_is .iaload 1, zq_is1chk 1, zq_ilchk 1, zq_kchk 6] 10 rfl (by decide +kernel) ?_
  refine ⟨rfl, (by omega), (by omega), h2, ?_⟩
  show zq_G _ _ _ _ _ 10 ([(0, .ref 41), (1, .int (nI R))], [.int 6, .int (nI R)], MH c tr tx (nI Z) td dr s im kp (nI a) so sr va wy)
  refine zq_if .eq 27 (R = 6) (by decide +kernel) (zq_ceq (a := R) (b := 6) (by omega) (by omega)) (fun c10 => absurd c10 (by omega)) (fun c10 => ?_)
  show zq_G _ _ _ _ _ 13 ([(0, .ref 41), (1, .int (nI R))], [], MH c tr tx (nI Z) td dr s im kp (nI a) so sr va wy)
  refine zq_b [zq_al 0, zq_k 26, zq_il 1, zq_iadd (nI (26 + R)), zq_k 0, zq_k 7] [zq_alchk 0, zq_kchk 26, zq_ilchk 1, zq_is .iadd 1, zq_kchk 0, zq_kchk 7] 21 rfl (by decide +kernel) ?_
  refine ⟨(nI_add 26 R), ?_⟩
  show zq_G _ _ _ _ _ 21 ([(0, .ref 41), (1, .int (nI R))], [.int 7, .int 0, .int (nI (26 + R)), .ref 41], MH c tr tx (nI Z) td dr s im kp (nI a) so sr va wy)
  refine zq_callV (av := [.int (nI (26 + R)), .int 0, .int 7]) (rest := []) (by decide +kernel) k12_73 (m_num_f (p := (26 + R)) (lo := 0) (hi := 7) hZ hbt (by omega) (by omega) hkA (by decide)) rfl rfl rfl rfl ?_
  show zq_G _ _ _ _ _ 24 ([(0, .ref 41), (1, .int (nI R))], [.int 0], MH c tr tx (nI Z) td (upd dr (26 + R) (tvM bt Z a)) s im kp (nI (tkE bt Z a)) (nI (tkM bt Z a)) (nI (tkS bt Z a)) (tvM bt Z a) wy)
  refine zq_ifz .ne 29 (¬ 0 = 0) (by decide +kernel) (zq_cne (a := 0) (b := 0) (by omega) (by omega)) (fun c24 => absurd c24 (fun q => q rfl)) (fun c24 => ?_)
  show zq_G _ _ _ _ _ 27 ([(0, .ref 41), (1, .int (nI R))], [], MH c tr tx (nI Z) td (upd dr (26 + R) (tvM bt Z a)) s im kp (nI (tkE bt Z a)) (nI (tkM bt Z a)) (nI (tkS bt Z a)) (tvM bt Z a) wy)
  refine zq_b [zq_k 0] [zq_kchk 0] 28 rfl (by decide +kernel) ?_
  show zq_G _ _ _ _ _ 28 ([(0, .ref 41), (1, .int (nI R))], [.int 0], MH c tr tx (nI Z) td (upd dr (26 + R) (tvM bt Z a)) s im kp (nI (tkE bt Z a)) (nI (tkM bt Z a)) (nI (tkS bt Z a)) (tvM bt Z a) wy)
  exact zq_zret (by decide +kernel) rfl (Or.inl rfl) rfl rfl
set_option maxHeartbeats 4000000 in
set_option maxRecDepth 100000 in
theorem mr_n2  (hZ : Z ≤ 200) (hbt : ∀ j, j < Z → tx j = nI (bt j) ∧ bt j ≤ 255) (ha : a ≤ Z) (h2 : dr 2 = nI R) (hR : R < 6) (hkA : tkK bt Z a = 2) (hlA : 0 ≤ tkV bt Z a) (hhA : tkV bt Z a ≤ 7) (hkB : ¬ (tkK bt Z (tkE bt Z a) = 2 ∧ 0 ≤ tkV bt Z (tkE bt Z a) ∧ tkV bt Z (tkE bt Z a) ≤ 7)) : zq_P l mX12_readsRule 4 [.ref 41] (MH c tr tx (nI Z) td dr s im kp (nI a) so sr va wy) (some (.int 0)) (MH c tr tx (nI Z) td (upd (upd dr (26 + R) (nI (tkV bt Z a))) (26 + R) (tvM bt Z (tkE bt Z a))) s im kp (nI (tkE bt Z (tkE bt Z a))) (nI (tkM bt Z (tkE bt Z a))) (nI (tkS bt Z (tkE bt Z a))) (tvM bt Z (tkE bt Z a)) wy) := by
  refine zq_start (by decide +kernel) rfl (Nat.le_of_ble_eq_true rfl) ?_
  show zq_G _ _ _ _ _ 0 ([(0, .ref 41)], [], MH c tr tx (nI Z) td dr s im kp (nI a) so sr va wy)
  have hE1 := tkE_max (bt := bt) ha
  have hE2 := tkE_max (bt := bt) hE1
  have hE3 := tkE_max (bt := bt) hE2
  refine zq_b [zq_al 0, zq_get 12 4, zq_k 2, zq_iald 2 (nI R), zq_is1 1, zq_il 1, zq_k 6] [zq_alchk 0, zq_getchk 12 4, zq_kchk 2, zq_is .iaload 1, zq_is1chk 1, zq_ilchk 1, zq_kchk 6] 10 rfl (by decide +kernel) ?_
  refine ⟨rfl, (by omega), (by omega), h2, ?_⟩
  show zq_G _ _ _ _ _ 10 ([(0, .ref 41), (1, .int (nI R))], [.int 6, .int (nI R)], MH c tr tx (nI Z) td dr s im kp (nI a) so sr va wy)
  refine zq_if .eq 27 (R = 6) (by decide +kernel) (zq_ceq (a := R) (b := 6) (by omega) (by omega)) (fun c10 => absurd c10 (by omega)) (fun c10 => ?_)
  show zq_G _ _ _ _ _ 13 ([(0, .ref 41), (1, .int (nI R))], [], MH c tr tx (nI Z) td dr s im kp (nI a) so sr va wy)
  refine zq_b [zq_al 0, zq_k 26, zq_il 1, zq_iadd (nI (26 + R)), zq_k 0, zq_k 7] [zq_alchk 0, zq_kchk 26, zq_ilchk 1, zq_is .iadd 1, zq_kchk 0, zq_kchk 7] 21 rfl (by decide +kernel) ?_
  refine ⟨(nI_add 26 R), ?_⟩
  show zq_G _ _ _ _ _ 21 ([(0, .ref 41), (1, .int (nI R))], [.int 7, .int 0, .int (nI (26 + R)), .ref 41], MH c tr tx (nI Z) td dr s im kp (nI a) so sr va wy)
  refine zq_callV (av := [.int (nI (26 + R)), .int 0, .int 7]) (rest := []) (by decide +kernel) k12_73 (m_num_t (p := (26 + R)) (lo := 0) (hi := 7) hZ hbt (by omega) (by omega) hkA hlA hhA (by decide)) rfl rfl rfl rfl ?_
  show zq_G _ _ _ _ _ 24 ([(0, .ref 41), (1, .int (nI R))], [.int 1], MH c tr tx (nI Z) td (upd dr (26 + R) (nI (tkV bt Z a))) s im kp (nI (tkE bt Z a)) 2 (nI (tkS bt Z a)) (nI (tkV bt Z a)) wy)
  refine zq_ifz .ne 29 (¬ 1 = 0) (by decide +kernel) (zq_cne (a := 1) (b := 0) (by omega) (by omega)) (fun c24 => ?_) (fun c24 => absurd (by decide) c24)
  show zq_G _ _ _ _ _ 29 ([(0, .ref 41), (1, .int (nI R))], [], MH c tr tx (nI Z) td (upd dr (26 + R) (nI (tkV bt Z a))) s im kp (nI (tkE bt Z a)) 2 (nI (tkS bt Z a)) (nI (tkV bt Z a)) wy)
  refine zq_b [zq_al 0, zq_get 12 11, zq_is1 2, zq_al 0, zq_k 26, zq_il 1, zq_iadd (nI (26 + R)), zq_k 0, zq_k 7] [zq_alchk 0, zq_getchk 12 11, zq_is1chk 2, zq_alchk 0, zq_kchk 26, zq_ilchk 1, zq_is .iadd 1, zq_kchk 0, zq_kchk 7] 42 rfl (by decide +kernel) ?_
  refine ⟨(nI_add 26 R), ?_⟩
  show zq_G _ _ _ _ _ 42 ([(0, .ref 41), (1, .int (nI R)), (2, .int (nI (tkV bt Z a)))], [.int 7, .int 0, .int (nI (26 + R)), .ref 41], MH c tr tx (nI Z) td (upd dr (26 + R) (nI (tkV bt Z a))) s im kp (nI (tkE bt Z a)) 2 (nI (tkS bt Z a)) (nI (tkV bt Z a)) wy)
  refine zq_callV (av := [.int (nI (26 + R)), .int 0, .int 7]) (rest := []) (by decide +kernel) k12_73 (m_num_f (p := (26 + R)) (lo := 0) (hi := 7) hZ hbt (by omega) (by omega) hkB (by decide)) rfl rfl rfl rfl ?_
  show zq_G _ _ _ _ _ 45 ([(0, .ref 41), (1, .int (nI R)), (2, .int (nI (tkV bt Z a)))], [.int 0], MH c tr tx (nI Z) td (upd (upd dr (26 + R) (nI (tkV bt Z a))) (26 + R) (tvM bt Z (tkE bt Z a))) s im kp (nI (tkE bt Z (tkE bt Z a))) (nI (tkM bt Z (tkE bt Z a))) (nI (tkS bt Z (tkE bt Z a))) (tvM bt Z (tkE bt Z a)) wy)
  refine zq_ifz .eq 56 (0 = 0) (by decide +kernel) (zq_ceq (a := 0) (b := 0) (by omega) (by omega)) (fun c45 => ?_) (fun c45 => absurd rfl c45)
  show zq_G _ _ _ _ _ 56 ([(0, .ref 41), (1, .int (nI R)), (2, .int (nI (tkV bt Z a)))], [], MH c tr tx (nI Z) td (upd (upd dr (26 + R) (nI (tkV bt Z a))) (26 + R) (tvM bt Z (tkE bt Z a))) s im kp (nI (tkE bt Z (tkE bt Z a))) (nI (tkM bt Z (tkE bt Z a))) (nI (tkS bt Z (tkE bt Z a))) (tvM bt Z (tkE bt Z a)) wy)
  refine zq_b [zq_k 0] [zq_kchk 0] 57 rfl (by decide +kernel) ?_
  show zq_G _ _ _ _ _ 57 ([(0, .ref 41), (1, .int (nI R)), (2, .int (nI (tkV bt Z a)))], [.int 0], MH c tr tx (nI Z) td (upd (upd dr (26 + R) (nI (tkV bt Z a))) (26 + R) (tvM bt Z (tkE bt Z a))) s im kp (nI (tkE bt Z (tkE bt Z a))) (nI (tkM bt Z (tkE bt Z a))) (nI (tkS bt Z (tkE bt Z a))) (tvM bt Z (tkE bt Z a)) wy)
  exact zq_zret (by decide +kernel) rfl (Or.inl rfl) rfl rfl
set_option maxHeartbeats 4000000 in
set_option maxRecDepth 100000 in
theorem mr_eq  (hZ : Z ≤ 200) (hbt : ∀ j, j < Z → tx j = nI (bt j) ∧ bt j ≤ 255) (ha : a ≤ Z) (h2 : dr 2 = nI R) (hR : R < 6) (hkA : tkK bt Z a = 2) (hlA : 0 ≤ tkV bt Z a) (hhA : tkV bt Z a ≤ 7) (hkB : tkK bt Z (tkE bt Z a) = 2) (hlB : 0 ≤ tkV bt Z (tkE bt Z a)) (hhB : tkV bt Z (tkE bt Z a) ≤ 7) (he : tkV bt Z (tkE bt Z a) = tkV bt Z a) : zq_P l mX12_readsRule 4 [.ref 41] (MH c tr tx (nI Z) td dr s im kp (nI a) so sr va wy) (some (.int 0)) (MH c tr tx (nI Z) td (upd (upd dr (26 + R) (nI (tkV bt Z a))) (26 + R) (nI (tkV bt Z (tkE bt Z a)))) s im kp (nI (tkE bt Z (tkE bt Z a))) 2 (nI (tkS bt Z (tkE bt Z a))) (nI (tkV bt Z (tkE bt Z a))) wy) := by
  refine zq_start (by decide +kernel) rfl (Nat.le_of_ble_eq_true rfl) ?_
  show zq_G _ _ _ _ _ 0 ([(0, .ref 41)], [], MH c tr tx (nI Z) td dr s im kp (nI a) so sr va wy)
  have hE1 := tkE_max (bt := bt) ha
  have hE2 := tkE_max (bt := bt) hE1
  have hE3 := tkE_max (bt := bt) hE2
  refine zq_b [zq_al 0, zq_get 12 4, zq_k 2, zq_iald 2 (nI R), zq_is1 1, zq_il 1, zq_k 6] [zq_alchk 0, zq_getchk 12 4, zq_kchk 2, zq_is .iaload 1, zq_is1chk 1, zq_ilchk 1, zq_kchk 6] 10 rfl (by decide +kernel) ?_
  refine ⟨rfl, (by omega), (by omega), h2, ?_⟩
  show zq_G _ _ _ _ _ 10 ([(0, .ref 41), (1, .int (nI R))], [.int 6, .int (nI R)], MH c tr tx (nI Z) td dr s im kp (nI a) so sr va wy)
  refine zq_if .eq 27 (R = 6) (by decide +kernel) (zq_ceq (a := R) (b := 6) (by omega) (by omega)) (fun c10 => absurd c10 (by omega)) (fun c10 => ?_)
  show zq_G _ _ _ _ _ 13 ([(0, .ref 41), (1, .int (nI R))], [], MH c tr tx (nI Z) td dr s im kp (nI a) so sr va wy)
  refine zq_b [zq_al 0, zq_k 26, zq_il 1, zq_iadd (nI (26 + R)), zq_k 0, zq_k 7] [zq_alchk 0, zq_kchk 26, zq_ilchk 1, zq_is .iadd 1, zq_kchk 0, zq_kchk 7] 21 rfl (by decide +kernel) ?_
  refine ⟨(nI_add 26 R), ?_⟩
  show zq_G _ _ _ _ _ 21 ([(0, .ref 41), (1, .int (nI R))], [.int 7, .int 0, .int (nI (26 + R)), .ref 41], MH c tr tx (nI Z) td dr s im kp (nI a) so sr va wy)
  refine zq_callV (av := [.int (nI (26 + R)), .int 0, .int 7]) (rest := []) (by decide +kernel) k12_73 (m_num_t (p := (26 + R)) (lo := 0) (hi := 7) hZ hbt (by omega) (by omega) hkA hlA hhA (by decide)) rfl rfl rfl rfl ?_
  show zq_G _ _ _ _ _ 24 ([(0, .ref 41), (1, .int (nI R))], [.int 1], MH c tr tx (nI Z) td (upd dr (26 + R) (nI (tkV bt Z a))) s im kp (nI (tkE bt Z a)) 2 (nI (tkS bt Z a)) (nI (tkV bt Z a)) wy)
  refine zq_ifz .ne 29 (¬ 1 = 0) (by decide +kernel) (zq_cne (a := 1) (b := 0) (by omega) (by omega)) (fun c24 => ?_) (fun c24 => absurd (by decide) c24)
  show zq_G _ _ _ _ _ 29 ([(0, .ref 41), (1, .int (nI R))], [], MH c tr tx (nI Z) td (upd dr (26 + R) (nI (tkV bt Z a))) s im kp (nI (tkE bt Z a)) 2 (nI (tkS bt Z a)) (nI (tkV bt Z a)) wy)
  refine zq_b [zq_al 0, zq_get 12 11, zq_is1 2, zq_al 0, zq_k 26, zq_il 1, zq_iadd (nI (26 + R)), zq_k 0, zq_k 7] [zq_alchk 0, zq_getchk 12 11, zq_is1chk 2, zq_alchk 0, zq_kchk 26, zq_ilchk 1, zq_is .iadd 1, zq_kchk 0, zq_kchk 7] 42 rfl (by decide +kernel) ?_
  refine ⟨(nI_add 26 R), ?_⟩
  show zq_G _ _ _ _ _ 42 ([(0, .ref 41), (1, .int (nI R)), (2, .int (nI (tkV bt Z a)))], [.int 7, .int 0, .int (nI (26 + R)), .ref 41], MH c tr tx (nI Z) td (upd dr (26 + R) (nI (tkV bt Z a))) s im kp (nI (tkE bt Z a)) 2 (nI (tkS bt Z a)) (nI (tkV bt Z a)) wy)
  refine zq_callV (av := [.int (nI (26 + R)), .int 0, .int 7]) (rest := []) (by decide +kernel) k12_73 (m_num_t (p := (26 + R)) (lo := 0) (hi := 7) hZ hbt (by omega) (by omega) hkB hlB hhB (by decide)) rfl rfl rfl rfl ?_
  show zq_G _ _ _ _ _ 45 ([(0, .ref 41), (1, .int (nI R)), (2, .int (nI (tkV bt Z a)))], [.int 1], MH c tr tx (nI Z) td (upd (upd dr (26 + R) (nI (tkV bt Z a))) (26 + R) (nI (tkV bt Z (tkE bt Z a)))) s im kp (nI (tkE bt Z (tkE bt Z a))) 2 (nI (tkS bt Z (tkE bt Z a))) (nI (tkV bt Z (tkE bt Z a))) wy)
  refine zq_ifz .eq 56 (1 = 0) (by decide +kernel) (zq_ceq (a := 1) (b := 0) (by omega) (by omega)) (fun c45 => absurd c45 (by decide)) (fun c45 => ?_)
  show zq_G _ _ _ _ _ 48 ([(0, .ref 41), (1, .int (nI R)), (2, .int (nI (tkV bt Z a)))], [], MH c tr tx (nI Z) td (upd (upd dr (26 + R) (nI (tkV bt Z a))) (26 + R) (nI (tkV bt Z (tkE bt Z a)))) s im kp (nI (tkE bt Z (tkE bt Z a))) 2 (nI (tkS bt Z (tkE bt Z a))) (nI (tkV bt Z (tkE bt Z a))) wy)
  refine zq_b [zq_al 0, zq_get 12 11, zq_il 2] [zq_alchk 0, zq_getchk 12 11, zq_ilchk 2] 53 rfl (by decide +kernel) ?_
  show zq_G _ _ _ _ _ 53 ([(0, .ref 41), (1, .int (nI R)), (2, .int (nI (tkV bt Z a)))], [.int (nI (tkV bt Z a)), .int (nI (tkV bt Z (tkE bt Z a)))], MH c tr tx (nI Z) td (upd (upd dr (26 + R) (nI (tkV bt Z a))) (26 + R) (nI (tkV bt Z (tkE bt Z a)))) s im kp (nI (tkE bt Z (tkE bt Z a))) 2 (nI (tkS bt Z (tkE bt Z a))) (nI (tkV bt Z (tkE bt Z a))) wy)
  refine zq_if .ne 58 (¬ (tkV bt Z (tkE bt Z a)) = (tkV bt Z a)) (by decide +kernel) (zq_cne (a := tkV bt Z (tkE bt Z a)) (b := tkV bt Z a) (by omega) (by omega)) (fun c53 => absurd c53 (by omega)) (fun c53 => ?_)
  show zq_G _ _ _ _ _ 56 ([(0, .ref 41), (1, .int (nI R)), (2, .int (nI (tkV bt Z a)))], [], MH c tr tx (nI Z) td (upd (upd dr (26 + R) (nI (tkV bt Z a))) (26 + R) (nI (tkV bt Z (tkE bt Z a)))) s im kp (nI (tkE bt Z (tkE bt Z a))) 2 (nI (tkS bt Z (tkE bt Z a))) (nI (tkV bt Z (tkE bt Z a))) wy)
  refine zq_b [zq_k 0] [zq_kchk 0] 57 rfl (by decide +kernel) ?_
  show zq_G _ _ _ _ _ 57 ([(0, .ref 41), (1, .int (nI R)), (2, .int (nI (tkV bt Z a)))], [.int 0], MH c tr tx (nI Z) td (upd (upd dr (26 + R) (nI (tkV bt Z a))) (26 + R) (nI (tkV bt Z (tkE bt Z a)))) s im kp (nI (tkE bt Z (tkE bt Z a))) 2 (nI (tkS bt Z (tkE bt Z a))) (nI (tkV bt Z (tkE bt Z a))) wy)
  exact zq_zret (by decide +kernel) rfl (Or.inl rfl) rfl rfl
set_option maxHeartbeats 4000000 in
set_option maxRecDepth 100000 in
theorem mr_go  (hZ : Z ≤ 200) (hbt : ∀ j, j < Z → tx j = nI (bt j) ∧ bt j ≤ 255) (ha : a ≤ Z) (h2 : dr 2 = nI R) (hR : R < 6) (hkA : tkK bt Z a = 2) (hlA : 0 ≤ tkV bt Z a) (hhA : tkV bt Z a ≤ 7) (hkB : tkK bt Z (tkE bt Z a) = 2) (hlB : 0 ≤ tkV bt Z (tkE bt Z a)) (hhB : tkV bt Z (tkE bt Z a) ≤ 7) (he : ¬ tkV bt Z (tkE bt Z a) = tkV bt Z a) : zq_P l mX12_readsRule 4 [.ref 41] (MH c tr tx (nI Z) td dr s im kp (nI a) so sr va wy) (some (.int 1)) (MH c tr tx (nI Z) td (upd (upd (upd (upd dr (26 + R) (nI (tkV bt Z a))) (26 + R) (nI (tkV bt Z (tkE bt Z a)))) (26 + R) (nI (10 * tkV bt Z a + tkV bt Z (tkE bt Z a)))) 2 (nI (R + 1))) s im kp (nI (tkE bt Z (tkE bt Z a))) 2 (nI (tkS bt Z (tkE bt Z a))) (nI (tkV bt Z (tkE bt Z a))) wy) := by
  refine zq_start (by decide +kernel) rfl (Nat.le_of_ble_eq_true rfl) ?_
  show zq_G _ _ _ _ _ 0 ([(0, .ref 41)], [], MH c tr tx (nI Z) td dr s im kp (nI a) so sr va wy)
  have hE1 := tkE_max (bt := bt) ha
  have hE2 := tkE_max (bt := bt) hE1
  have hE3 := tkE_max (bt := bt) hE2
  refine zq_b [zq_al 0, zq_get 12 4, zq_k 2, zq_iald 2 (nI R), zq_is1 1, zq_il 1, zq_k 6] [zq_alchk 0, zq_getchk 12 4, zq_kchk 2, zq_is .iaload 1, zq_is1chk 1, zq_ilchk 1, zq_kchk 6] 10 rfl (by decide +kernel) ?_
  refine ⟨rfl, (by omega), (by omega), h2, ?_⟩
  show zq_G _ _ _ _ _ 10 ([(0, .ref 41), (1, .int (nI R))], [.int 6, .int (nI R)], MH c tr tx (nI Z) td dr s im kp (nI a) so sr va wy)
  refine zq_if .eq 27 (R = 6) (by decide +kernel) (zq_ceq (a := R) (b := 6) (by omega) (by omega)) (fun c10 => absurd c10 (by omega)) (fun c10 => ?_)
  show zq_G _ _ _ _ _ 13 ([(0, .ref 41), (1, .int (nI R))], [], MH c tr tx (nI Z) td dr s im kp (nI a) so sr va wy)
  refine zq_b [zq_al 0, zq_k 26, zq_il 1, zq_iadd (nI (26 + R)), zq_k 0, zq_k 7] [zq_alchk 0, zq_kchk 26, zq_ilchk 1, zq_is .iadd 1, zq_kchk 0, zq_kchk 7] 21 rfl (by decide +kernel) ?_
  refine ⟨(nI_add 26 R), ?_⟩
  show zq_G _ _ _ _ _ 21 ([(0, .ref 41), (1, .int (nI R))], [.int 7, .int 0, .int (nI (26 + R)), .ref 41], MH c tr tx (nI Z) td dr s im kp (nI a) so sr va wy)
  refine zq_callV (av := [.int (nI (26 + R)), .int 0, .int 7]) (rest := []) (by decide +kernel) k12_73 (m_num_t (p := (26 + R)) (lo := 0) (hi := 7) hZ hbt (by omega) (by omega) hkA hlA hhA (by decide)) rfl rfl rfl rfl ?_
  show zq_G _ _ _ _ _ 24 ([(0, .ref 41), (1, .int (nI R))], [.int 1], MH c tr tx (nI Z) td (upd dr (26 + R) (nI (tkV bt Z a))) s im kp (nI (tkE bt Z a)) 2 (nI (tkS bt Z a)) (nI (tkV bt Z a)) wy)
  refine zq_ifz .ne 29 (¬ 1 = 0) (by decide +kernel) (zq_cne (a := 1) (b := 0) (by omega) (by omega)) (fun c24 => ?_) (fun c24 => absurd (by decide) c24)
  show zq_G _ _ _ _ _ 29 ([(0, .ref 41), (1, .int (nI R))], [], MH c tr tx (nI Z) td (upd dr (26 + R) (nI (tkV bt Z a))) s im kp (nI (tkE bt Z a)) 2 (nI (tkS bt Z a)) (nI (tkV bt Z a)) wy)
  refine zq_b [zq_al 0, zq_get 12 11, zq_is1 2, zq_al 0, zq_k 26, zq_il 1, zq_iadd (nI (26 + R)), zq_k 0, zq_k 7] [zq_alchk 0, zq_getchk 12 11, zq_is1chk 2, zq_alchk 0, zq_kchk 26, zq_ilchk 1, zq_is .iadd 1, zq_kchk 0, zq_kchk 7] 42 rfl (by decide +kernel) ?_
  refine ⟨(nI_add 26 R), ?_⟩
  show zq_G _ _ _ _ _ 42 ([(0, .ref 41), (1, .int (nI R)), (2, .int (nI (tkV bt Z a)))], [.int 7, .int 0, .int (nI (26 + R)), .ref 41], MH c tr tx (nI Z) td (upd dr (26 + R) (nI (tkV bt Z a))) s im kp (nI (tkE bt Z a)) 2 (nI (tkS bt Z a)) (nI (tkV bt Z a)) wy)
  refine zq_callV (av := [.int (nI (26 + R)), .int 0, .int 7]) (rest := []) (by decide +kernel) k12_73 (m_num_t (p := (26 + R)) (lo := 0) (hi := 7) hZ hbt (by omega) (by omega) hkB hlB hhB (by decide)) rfl rfl rfl rfl ?_
  show zq_G _ _ _ _ _ 45 ([(0, .ref 41), (1, .int (nI R)), (2, .int (nI (tkV bt Z a)))], [.int 1], MH c tr tx (nI Z) td (upd (upd dr (26 + R) (nI (tkV bt Z a))) (26 + R) (nI (tkV bt Z (tkE bt Z a)))) s im kp (nI (tkE bt Z (tkE bt Z a))) 2 (nI (tkS bt Z (tkE bt Z a))) (nI (tkV bt Z (tkE bt Z a))) wy)
  refine zq_ifz .eq 56 (1 = 0) (by decide +kernel) (zq_ceq (a := 1) (b := 0) (by omega) (by omega)) (fun c45 => absurd c45 (by decide)) (fun c45 => ?_)
  show zq_G _ _ _ _ _ 48 ([(0, .ref 41), (1, .int (nI R)), (2, .int (nI (tkV bt Z a)))], [], MH c tr tx (nI Z) td (upd (upd dr (26 + R) (nI (tkV bt Z a))) (26 + R) (nI (tkV bt Z (tkE bt Z a)))) s im kp (nI (tkE bt Z (tkE bt Z a))) 2 (nI (tkS bt Z (tkE bt Z a))) (nI (tkV bt Z (tkE bt Z a))) wy)
  refine zq_b [zq_al 0, zq_get 12 11, zq_il 2] [zq_alchk 0, zq_getchk 12 11, zq_ilchk 2] 53 rfl (by decide +kernel) ?_
  show zq_G _ _ _ _ _ 53 ([(0, .ref 41), (1, .int (nI R)), (2, .int (nI (tkV bt Z a)))], [.int (nI (tkV bt Z a)), .int (nI (tkV bt Z (tkE bt Z a)))], MH c tr tx (nI Z) td (upd (upd dr (26 + R) (nI (tkV bt Z a))) (26 + R) (nI (tkV bt Z (tkE bt Z a)))) s im kp (nI (tkE bt Z (tkE bt Z a))) 2 (nI (tkS bt Z (tkE bt Z a))) (nI (tkV bt Z (tkE bt Z a))) wy)
  refine zq_if .ne 58 (¬ (tkV bt Z (tkE bt Z a)) = (tkV bt Z a)) (by decide +kernel) (zq_cne (a := tkV bt Z (tkE bt Z a)) (b := tkV bt Z a) (by omega) (by omega)) (fun c53 => ?_) (fun c53 => absurd (by omega) c53)
  show zq_G _ _ _ _ _ 58 ([(0, .ref 41), (1, .int (nI R)), (2, .int (nI (tkV bt Z a)))], [], MH c tr tx (nI Z) td (upd (upd dr (26 + R) (nI (tkV bt Z a))) (26 + R) (nI (tkV bt Z (tkE bt Z a)))) s im kp (nI (tkE bt Z (tkE bt Z a))) 2 (nI (tkS bt Z (tkE bt Z a))) (nI (tkV bt Z (tkE bt Z a))) wy)
  refine zq_b [zq_al 0, zq_get 12 4, zq_k 26, zq_il 1, zq_iadd (nI (26 + R)), zq_k 10, zq_il 2, zq_imul (nI (10 * tkV bt Z a)), zq_al 0, zq_get 12 11, zq_iadd (nI (10 * tkV bt Z a + (tkV bt Z (tkE bt Z a)))), zq_iast (26 + R), zq_al 0, zq_get 12 4, zq_k 2, zq_dup2, zq_iald 2 (nI R), zq_k 1, zq_iadd (nI (R + 1)), zq_iast 2, zq_k 1] [zq_alchk 0, zq_getchk 12 4, zq_kchk 26, zq_ilchk 1, zq_is .iadd 1, zq_kchk 10, zq_ilchk 2, zq_is .imul 1, zq_alchk 0, zq_getchk 12 11, zq_is .iadd 1, zq_is .iastore 1, zq_alchk 0, zq_getchk 12 4, zq_kchk 2, zq_is .dup2 1, zq_is .iaload 1, zq_kchk 1, zq_is .iadd 1, zq_is .iastore 1, zq_kchk 1] 87 rfl (by decide +kernel) ?_
  refine ⟨(nI_add 26 R), (pk_mul 10 (tkV bt Z a)), (nI_add (10 * tkV bt Z a) (tkV bt Z (tkE bt Z a))), rfl, (by omega), (by omega), rfl, (by omega), (by omega), (by rw [pk_un (by omega), pk_un (by omega), pk_un (by omega), h2]), (nI_add R 1), rfl, (by omega), (by omega), ?_⟩
  show zq_G _ _ _ _ _ 87 ([(0, .ref 41), (1, .int (nI R)), (2, .int (nI (tkV bt Z a)))], [.int 1], MH c tr tx (nI Z) td (upd (upd (upd (upd dr (26 + R) (nI (tkV bt Z a))) (26 + R) (nI (tkV bt Z (tkE bt Z a)))) (26 + R) (nI (10 * tkV bt Z a + (tkV bt Z (tkE bt Z a))))) 2 (nI (R + 1))) s im kp (nI (tkE bt Z (tkE bt Z a))) 2 (nI (tkS bt Z (tkE bt Z a))) (nI (tkV bt Z (tkE bt Z a))) wy)
  exact zq_zret (by decide +kernel) rfl (Or.inr rfl) rfl rfl
set_option maxHeartbeats 4000000 in
set_option maxRecDepth 100000 in
theorem mi_tok {tk : Nat} (htk : ¬ tk = 1) (htk4 : tk ≤ 4) : zq_P l mX12_readsItem 5 [.ref 41] (MH c tr tx (nI Z) td dr s im kp (nI a) (nI tk) sr va wy) (some (.int 0)) (MH c tr tx (nI Z) td dr s im kp (nI a) (nI tk) sr va wy) := by
  refine zq_start (by decide +kernel) rfl (Nat.le_of_ble_eq_true rfl) ?_
  show zq_G _ _ _ _ _ 0 ([(0, .ref 41)], [], MH c tr tx (nI Z) td dr s im kp (nI a) (nI tk) sr va wy)
  refine zq_b [zq_al 0, zq_get 12 9, zq_k 1] [zq_alchk 0, zq_getchk 12 9, zq_kchk 1] 5 rfl (by decide +kernel) ?_
  show zq_G _ _ _ _ _ 5 ([(0, .ref 41)], [.int 1, .int (nI tk)], MH c tr tx (nI Z) td dr s im kp (nI a) (nI tk) sr va wy)
  refine zq_if .ne 15 (¬ tk = 1) (by decide +kernel) (zq_cne (a := tk) (b := 1) (by omega) (by omega)) (fun c5 => ?_) (fun c5 => absurd (by omega) c5)
  show zq_G _ _ _ _ _ 15 ([(0, .ref 41)], [], MH c tr tx (nI Z) td dr s im kp (nI a) (nI tk) sr va wy)
  refine zq_b [zq_k 0, zq_is1 1, zq_il 1] [zq_kchk 0, zq_is1chk 1, zq_ilchk 1] 18 rfl (by decide +kernel) ?_
  show zq_G _ _ _ _ _ 18 ([(0, .ref 41), (1, .int 0)], [.int 0], MH c tr tx (nI Z) td dr s im kp (nI a) (nI tk) sr va wy)
  refine zq_swc [(99, 70), (108, 65), (112, 60), (114, 75)] 80 (by decide +kernel) ⟨fun c => absurd c (by decide), fun c => absurd c (by decide), fun c => absurd c (by decide), fun c => absurd c (by decide), trivial⟩ (fun _ => ?_)
  show zq_G _ _ _ _ _ 80 ([(0, .ref 41), (1, .int 0)], [], MH c tr tx (nI Z) td dr s im kp (nI a) (nI tk) sr va wy)
  refine zq_b [zq_k 0] [zq_kchk 0] 81 rfl (by decide +kernel) ?_
  show zq_G _ _ _ _ _ 81 ([(0, .ref 41), (1, .int 0)], [.int 0], MH c tr tx (nI Z) td dr s im kp (nI a) (nI tk) sr va wy)
  exact zq_zret (by decide +kernel) rfl (Or.inl rfl) rfl rfl
set_option maxHeartbeats 4000000 in
set_option maxRecDepth 100000 in
theorem mi_other {v : Nat} (hv : v ≤ 255) (h1 : ¬ v = 112) (h2 : ¬ v = 108) (h3 : ¬ v = 99) (h4 : ¬ v = 114) : zq_P l mX12_readsItem 5 [.ref 41] (MH c tr tx (nI Z) td dr s im kp (nI a) 1 sr (nI v) wy) (some (.int 0)) (MH c tr tx (nI Z) td dr s im kp (nI a) 1 sr (nI v) wy) := by
  refine zq_start (by decide +kernel) rfl (Nat.le_of_ble_eq_true rfl) ?_
  show zq_G _ _ _ _ _ 0 ([(0, .ref 41)], [], MH c tr tx (nI Z) td dr s im kp (nI a) 1 sr (nI v) wy)
  refine zq_b [zq_al 0, zq_get 12 9, zq_k 1] [zq_alchk 0, zq_getchk 12 9, zq_kchk 1] 5 rfl (by decide +kernel) ?_
  show zq_G _ _ _ _ _ 5 ([(0, .ref 41)], [.int 1, .int 1], MH c tr tx (nI Z) td dr s im kp (nI a) 1 sr (nI v) wy)
  refine zq_if .ne 15 (¬ 1 = 1) (by decide +kernel) (zq_cne (a := 1) (b := 1) (by omega) (by omega)) (fun c5 => absurd c5 (fun q => q rfl)) (fun c5 => ?_)
  show zq_G _ _ _ _ _ 8 ([(0, .ref 41)], [], MH c tr tx (nI Z) td dr s im kp (nI a) 1 sr (nI v) wy)
  refine zq_b [zq_al 0, zq_get 12 11, zq_go, zq_is1 1, zq_il 1] [zq_alchk 0, zq_getchk 12 11, zq_gochk, zq_is1chk 1, zq_ilchk 1] 18 rfl (by decide +kernel) ?_
  show zq_G _ _ _ _ _ 18 ([(0, .ref 41), (1, .int (nI v))], [.int (nI v)], MH c tr tx (nI Z) td dr s im kp (nI a) 1 sr (nI v) wy)
  refine zq_swc [(99, 70), (108, 65), (112, 60), (114, 75)] 80 (by decide +kernel) ⟨fun c => absurd c (by rw [nI_toInt (by omega)]; omega), fun c => absurd c (by rw [nI_toInt (by omega)]; omega), fun c => absurd c (by rw [nI_toInt (by omega)]; omega), fun c => absurd c (by rw [nI_toInt (by omega)]; omega), trivial⟩ (fun _ => ?_)
  show zq_G _ _ _ _ _ 80 ([(0, .ref 41), (1, .int (nI v))], [], MH c tr tx (nI Z) td dr s im kp (nI a) 1 sr (nI v) wy)
  refine zq_b [zq_k 0] [zq_kchk 0] 81 rfl (by decide +kernel) ?_
  show zq_G _ _ _ _ _ 81 ([(0, .ref 41), (1, .int (nI v))], [.int 0], MH c tr tx (nI Z) td dr s im kp (nI a) 1 sr (nI v) wy)
  exact zq_zret (by decide +kernel) rfl (Or.inl rfl) rfl rfl
set_option maxHeartbeats 4000000 in
set_option maxRecDepth 100000 in
theorem mi_p  (hq : q = 0 ∨ q = 1) (hM : zq_P l mX12_readsPerson 4 [.ref 41] (MH c tr tx (nI Z) td dr s im kp (nI a) 1 sr 112 wy) (some (.int q)) h2) : zq_P l mX12_readsItem 5 [.ref 41] (MH c tr tx (nI Z) td dr s im kp (nI a) 1 sr 112 wy) (some (.int q)) (h2) := by
  refine zq_start (by decide +kernel) rfl (Nat.le_of_ble_eq_true rfl) ?_
  show zq_G _ _ _ _ _ 0 ([(0, .ref 41)], [], MH c tr tx (nI Z) td dr s im kp (nI a) 1 sr 112 wy)
  refine zq_b [zq_al 0, zq_get 12 9, zq_k 1] [zq_alchk 0, zq_getchk 12 9, zq_kchk 1] 5 rfl (by decide +kernel) ?_
  show zq_G _ _ _ _ _ 5 ([(0, .ref 41)], [.int 1, .int 1], MH c tr tx (nI Z) td dr s im kp (nI a) 1 sr 112 wy)
  refine zq_if .ne 15 (¬ 1 = 1) (by decide +kernel) (zq_cne (a := 1) (b := 1) (by omega) (by omega)) (fun c5 => absurd c5 (fun q => q rfl)) (fun c5 => ?_)
  show zq_G _ _ _ _ _ 8 ([(0, .ref 41)], [], MH c tr tx (nI Z) td dr s im kp (nI a) 1 sr 112 wy)
  refine zq_b [zq_al 0, zq_get 12 11, zq_go, zq_is1 1, zq_il 1] [zq_alchk 0, zq_getchk 12 11, zq_gochk, zq_is1chk 1, zq_ilchk 1] 18 rfl (by decide +kernel) ?_
  show zq_G _ _ _ _ _ 18 ([(0, .ref 41), (1, .int 112)], [.int 112], MH c tr tx (nI Z) td dr s im kp (nI a) 1 sr 112 wy)
  refine zq_swc [(99, 70), (108, 65), (112, 60), (114, 75)] 80 (by decide +kernel) ⟨fun c => absurd c (by decide), fun c => absurd c (by decide), fun _ => ?_, fun c => absurd c (by decide), trivial⟩ (fun c => absurd (by decide) c.2.2.1)
  show zq_G _ _ _ _ _ 60 ([(0, .ref 41), (1, .int 112)], [], MH c tr tx (nI Z) td dr s im kp (nI a) 1 sr 112 wy)
  refine zq_b [zq_al 0] [zq_alchk 0] 61 rfl (by decide +kernel) ?_
  show zq_G _ _ _ _ _ 61 ([(0, .ref 41), (1, .int 112)], [.ref 41], MH c tr tx (nI Z) td dr s im kp (nI a) 1 sr 112 wy)
  refine zq_callV (av := []) (rest := []) (by decide +kernel) k12_76 (hM) rfl rfl rfl rfl ?_
  show zq_G _ _ _ _ _ 64 ([(0, .ref 41), (1, .int 112)], [.int q], h2)
  exact zq_zret (by decide +kernel) rfl hq rfl rfl
set_option maxHeartbeats 4000000 in
set_option maxRecDepth 100000 in
theorem mi_l  (hq : q = 0 ∨ q = 1) (hM : zq_P l mX12_readsLate 4 [.ref 41] (MH c tr tx (nI Z) td dr s im kp (nI a) 1 sr 108 wy) (some (.int q)) h2) : zq_P l mX12_readsItem 5 [.ref 41] (MH c tr tx (nI Z) td dr s im kp (nI a) 1 sr 108 wy) (some (.int q)) (h2) := by
  refine zq_start (by decide +kernel) rfl (Nat.le_of_ble_eq_true rfl) ?_
  show zq_G _ _ _ _ _ 0 ([(0, .ref 41)], [], MH c tr tx (nI Z) td dr s im kp (nI a) 1 sr 108 wy)
  refine zq_b [zq_al 0, zq_get 12 9, zq_k 1] [zq_alchk 0, zq_getchk 12 9, zq_kchk 1] 5 rfl (by decide +kernel) ?_
  show zq_G _ _ _ _ _ 5 ([(0, .ref 41)], [.int 1, .int 1], MH c tr tx (nI Z) td dr s im kp (nI a) 1 sr 108 wy)
  refine zq_if .ne 15 (¬ 1 = 1) (by decide +kernel) (zq_cne (a := 1) (b := 1) (by omega) (by omega)) (fun c5 => absurd c5 (fun q => q rfl)) (fun c5 => ?_)
  show zq_G _ _ _ _ _ 8 ([(0, .ref 41)], [], MH c tr tx (nI Z) td dr s im kp (nI a) 1 sr 108 wy)
  refine zq_b [zq_al 0, zq_get 12 11, zq_go, zq_is1 1, zq_il 1] [zq_alchk 0, zq_getchk 12 11, zq_gochk, zq_is1chk 1, zq_ilchk 1] 18 rfl (by decide +kernel) ?_
  show zq_G _ _ _ _ _ 18 ([(0, .ref 41), (1, .int 108)], [.int 108], MH c tr tx (nI Z) td dr s im kp (nI a) 1 sr 108 wy)
  refine zq_swc [(99, 70), (108, 65), (112, 60), (114, 75)] 80 (by decide +kernel) ⟨fun c => absurd c (by decide), fun _ => ?_, fun c => absurd c (by decide), fun c => absurd c (by decide), trivial⟩ (fun c => absurd (by decide) c.2.1)
  show zq_G _ _ _ _ _ 65 ([(0, .ref 41), (1, .int 108)], [], MH c tr tx (nI Z) td dr s im kp (nI a) 1 sr 108 wy)
  refine zq_b [zq_al 0] [zq_alchk 0] 66 rfl (by decide +kernel) ?_
  show zq_G _ _ _ _ _ 66 ([(0, .ref 41), (1, .int 108)], [.ref 41], MH c tr tx (nI Z) td dr s im kp (nI a) 1 sr 108 wy)
  refine zq_callV (av := []) (rest := []) (by decide +kernel) k12_79 (hM) rfl rfl rfl rfl ?_
  show zq_G _ _ _ _ _ 69 ([(0, .ref 41), (1, .int 108)], [.int q], h2)
  exact zq_zret (by decide +kernel) rfl hq rfl rfl
set_option maxHeartbeats 4000000 in
set_option maxRecDepth 100000 in
theorem mi_c  (hq : q = 0 ∨ q = 1) (hM : zq_P l mX12_readsCloud 4 [.ref 41] (MH c tr tx (nI Z) td dr s im kp (nI a) 1 sr 99 wy) (some (.int q)) h2) : zq_P l mX12_readsItem 5 [.ref 41] (MH c tr tx (nI Z) td dr s im kp (nI a) 1 sr 99 wy) (some (.int q)) (h2) := by
  refine zq_start (by decide +kernel) rfl (Nat.le_of_ble_eq_true rfl) ?_
  show zq_G _ _ _ _ _ 0 ([(0, .ref 41)], [], MH c tr tx (nI Z) td dr s im kp (nI a) 1 sr 99 wy)
  refine zq_b [zq_al 0, zq_get 12 9, zq_k 1] [zq_alchk 0, zq_getchk 12 9, zq_kchk 1] 5 rfl (by decide +kernel) ?_
  show zq_G _ _ _ _ _ 5 ([(0, .ref 41)], [.int 1, .int 1], MH c tr tx (nI Z) td dr s im kp (nI a) 1 sr 99 wy)
  refine zq_if .ne 15 (¬ 1 = 1) (by decide +kernel) (zq_cne (a := 1) (b := 1) (by omega) (by omega)) (fun c5 => absurd c5 (fun q => q rfl)) (fun c5 => ?_)
  show zq_G _ _ _ _ _ 8 ([(0, .ref 41)], [], MH c tr tx (nI Z) td dr s im kp (nI a) 1 sr 99 wy)
  refine zq_b [zq_al 0, zq_get 12 11, zq_go, zq_is1 1, zq_il 1] [zq_alchk 0, zq_getchk 12 11, zq_gochk, zq_is1chk 1, zq_ilchk 1] 18 rfl (by decide +kernel) ?_
  show zq_G _ _ _ _ _ 18 ([(0, .ref 41), (1, .int 99)], [.int 99], MH c tr tx (nI Z) td dr s im kp (nI a) 1 sr 99 wy)
  refine zq_swc [(99, 70), (108, 65), (112, 60), (114, 75)] 80 (by decide +kernel) ⟨fun _ => ?_, fun c => absurd c (by decide), fun c => absurd c (by decide), fun c => absurd c (by decide), trivial⟩ (fun c => absurd (by decide) c.1)
  show zq_G _ _ _ _ _ 70 ([(0, .ref 41), (1, .int 99)], [], MH c tr tx (nI Z) td dr s im kp (nI a) 1 sr 99 wy)
  refine zq_b [zq_al 0] [zq_alchk 0] 71 rfl (by decide +kernel) ?_
  show zq_G _ _ _ _ _ 71 ([(0, .ref 41), (1, .int 99)], [.ref 41], MH c tr tx (nI Z) td dr s im kp (nI a) 1 sr 99 wy)
  refine zq_callV (av := []) (rest := []) (by decide +kernel) k12_82 (hM) rfl rfl rfl rfl ?_
  show zq_G _ _ _ _ _ 74 ([(0, .ref 41), (1, .int 99)], [.int q], h2)
  exact zq_zret (by decide +kernel) rfl hq rfl rfl
set_option maxHeartbeats 4000000 in
set_option maxRecDepth 100000 in
theorem mi_r  (hq : q = 0 ∨ q = 1) (hM : zq_P l mX12_readsRule 4 [.ref 41] (MH c tr tx (nI Z) td dr s im kp (nI a) 1 sr 114 wy) (some (.int q)) h2) : zq_P l mX12_readsItem 5 [.ref 41] (MH c tr tx (nI Z) td dr s im kp (nI a) 1 sr 114 wy) (some (.int q)) (h2) := by
  refine zq_start (by decide +kernel) rfl (Nat.le_of_ble_eq_true rfl) ?_
  show zq_G _ _ _ _ _ 0 ([(0, .ref 41)], [], MH c tr tx (nI Z) td dr s im kp (nI a) 1 sr 114 wy)
  refine zq_b [zq_al 0, zq_get 12 9, zq_k 1] [zq_alchk 0, zq_getchk 12 9, zq_kchk 1] 5 rfl (by decide +kernel) ?_
  show zq_G _ _ _ _ _ 5 ([(0, .ref 41)], [.int 1, .int 1], MH c tr tx (nI Z) td dr s im kp (nI a) 1 sr 114 wy)
  refine zq_if .ne 15 (¬ 1 = 1) (by decide +kernel) (zq_cne (a := 1) (b := 1) (by omega) (by omega)) (fun c5 => absurd c5 (fun q => q rfl)) (fun c5 => ?_)
  show zq_G _ _ _ _ _ 8 ([(0, .ref 41)], [], MH c tr tx (nI Z) td dr s im kp (nI a) 1 sr 114 wy)
  refine zq_b [zq_al 0, zq_get 12 11, zq_go, zq_is1 1, zq_il 1] [zq_alchk 0, zq_getchk 12 11, zq_gochk, zq_is1chk 1, zq_ilchk 1] 18 rfl (by decide +kernel) ?_
  show zq_G _ _ _ _ _ 18 ([(0, .ref 41), (1, .int 114)], [.int 114], MH c tr tx (nI Z) td dr s im kp (nI a) 1 sr 114 wy)
  refine zq_swc [(99, 70), (108, 65), (112, 60), (114, 75)] 80 (by decide +kernel) ⟨fun c => absurd c (by decide), fun c => absurd c (by decide), fun c => absurd c (by decide), fun _ => ?_, trivial⟩ (fun c => absurd (by decide) c.2.2.2.1)
  show zq_G _ _ _ _ _ 75 ([(0, .ref 41), (1, .int 114)], [], MH c tr tx (nI Z) td dr s im kp (nI a) 1 sr 114 wy)
  refine zq_b [zq_al 0] [zq_alchk 0] 76 rfl (by decide +kernel) ?_
  show zq_G _ _ _ _ _ 76 ([(0, .ref 41), (1, .int 114)], [.ref 41], MH c tr tx (nI Z) td dr s im kp (nI a) 1 sr 114 wy)
  refine zq_callV (av := []) (rest := []) (by decide +kernel) k12_85 (hM) rfl rfl rfl rfl ?_
  show zq_G _ _ _ _ _ 79 ([(0, .ref 41), (1, .int 114)], [.int q], h2)
  exact zq_zret (by decide +kernel) rfl hq rfl rfl
end MV5
