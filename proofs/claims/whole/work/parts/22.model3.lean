section MV3
variable {l : Launch} {c : Nat → zq_C} {tr : Int64} {tx : Nat → Int32} {ty : Int32} {td dr s im kp : Nat → Int32} {at_ so sr va : Int32} {wy : Nat → Int32} {h : zq_H}
variable {P C R L D N K Z : Nat} {sm : Int32} {cn ga gv : Nat → Nat} {bt : Nat → Nat}
def lwS (a n : Nat) (ga gv : Nat → Nat) (f : Nat → Int32) (k : Nat) : Nat → Int32 := upd f (ga k) (if (if n = 1 then gv k = a else f (gv k) = nI (n - 1)) ∧ f (ga k) = 99 then nI n else f (ga k))
def lwK (a n : Nat) (ga gv : Nat → Nat) (f : Nat → Int32) : Nat → (Nat → Int32)
  | 0 => f
  | k + 1 => lwS a n ga gv (lwK a n ga gv f k) k
def lwN (a : Nat) (ga gv : Nat → Nat) (R : Nat) (f : Nat → Int32) : Nat → (Nat → Int32)
  | 0 => f
  | n + 1 => lwK a (n + 1) ga gv (lwN a ga gv R f n) R
theorem lwS_t {a n : Nat} {ga gv : Nat → Nat} {f : Nat → Int32} {k : Nat} (h : (if n = 1 then gv k = a else f (gv k) = nI (n - 1)) ∧ f (ga k) = 99) : lwS a n ga gv f k = upd f (ga k) (nI n) := by unfold lwS; rw [if_pos h]
theorem lwS_f {a n : Nat} {ga gv : Nat → Nat} {f : Nat → Int32} {k : Nat} (h : ¬ ((if n = 1 then gv k = a else f (gv k) = nI (n - 1)) ∧ f (ga k) = 99)) : lwS a n ga gv f k = upd f (ga k) (f (ga k)) := by unfold lwS; rw [if_neg h]
/-- the table of ways depends only on its eight places -/
theorem lwK_c {a n : Nat} {ga gv : Nat → Nat} {f g : Nat → Int32} {R : Nat} (hr : ∀ j, j < R → ga j ≤ 7 ∧ gv j ≤ 7) (h : ∀ j, j < 8 → f j = g j) : ∀ j, j < 8 → lwK a n ga gv f R j = lwK a n ga gv g R j := by
  induction R with
  | zero => exact h
  | succ R ih =>
    have ih := ih (fun j hj => hr j (by omega))
    have h1 := hr R (by omega)
    intro j hj
    show lwS a n ga gv _ R j = lwS a n ga gv _ R j
    unfold lwS
    rw [ih (gv R) (by omega), ih (ga R) (by omega)]
    unfold upd
    by_cases e : j = ga R
    · rw [if_pos e, if_pos e]
    · rw [if_neg e, if_neg e]; exact ih j hj
theorem lwN_c {a : Nat} {ga gv : Nat → Nat} {R : Nat} {f g : Nat → Int32} (hr : ∀ j, j < R → ga j ≤ 7 ∧ gv j ≤ 7) (h : ∀ j, j < 8 → f j = g j) : ∀ n, ∀ j, j < 8 → lwN a ga gv R f n j = lwN a ga gv R g n j := by
  intro n
  induction n with
  | zero => exact h
  | succ n ih => exact lwK_c hr ih
def lwA (a : Nat) (ga gv : Nat → Nat) (R : Nat) : Nat → Int32 := lwN a ga gv R (fun _ => 99) 8
theorem lwA_eq {a : Nat} {ga gv : Nat → Nat} {R : Nat} (wy : Nat → Int32) (hr : ∀ j, j < R → ga j ≤ 7 ∧ gv j ≤ 7) {j : Nat} (hj : j < 8) : lwN a ga gv R (va_cpy (fun _ => 99) wy 0 0 8) 8 j = lwA a ga gv R j :=
  lwN_c hr (fun j hj => pk_cpy_in (by omega) (by omega)) 8 j hj
def zfw (W own : Nat → Int32) : Nat → Int32 × Int32
  | 0 => (99, -9)
  | a + 1 => if ¬ own a = -9 ∧ W a < (zfw W own a).1 then (W a, own a) else zfw W own a
def zmh (W own : Nat → Int32) (a : Nat) : Int32 := if own a = -9 then (zfw W own 8).2 else own a
def wyH (a : Nat) (ga gv : Nat → Nat) (R : Nat) (o : Int32) (wy : Nat → Int32) : Nat → Int32 := if o = -9 then lwN a ga gv R (va_cpy (fun _ => 99) wy 0 0 8) 8 else wy
def wyN (ga gv : Nat → Nat) (R : Nat) (o1 o2 : Nat → Int32) (wy : Nat → Int32) : Nat → (Nat → Int32)
  | 0 => wy
  | i + 1 => wyH i ga gv R (o2 i) (wyH i ga gv R (o1 i) (wyN ga gv R o1 o2 wy i))
def wyR (ga gv : Nat → Nat) (R : Nat) (wy : Nat → Int32) : Nat → (Nat → Int32)
  | 0 => wy
  | i + 1 => lwN (7 - i) ga gv R (va_cpy (fun _ => 99) (wyR ga gv R wy i) 0 0 8) 8
/-- the last one found, going down from n -/
def zdr (f : Nat → Bool) (n : Nat) : Nat → Int32
  | 0 => -9
  | i + 1 => if f (n - i) = true then nI (n - i) else zdr f n i
theorem zdr_fs (f : Nat → Bool) (n : Nat) : zdr f n (n + 1) = zfs f nI (n + 1) := by
  have key : ∀ i, i ≤ n + 1 → (∀ k, n + 1 ≤ k + i → k ≤ n → (∀ j, n + 1 ≤ j + i → j < k → f j = false) → f k = true → zdr f n i = nI k) ∧ ((∀ k, n + 1 ≤ k + i → k ≤ n → f k = false) → zdr f n i = -9) := by
    intro i
    induction i with
    | zero => intro _; exact ⟨fun k h1 h2 => by omega, fun _ => rfl⟩
    | succ i ih =>
      intro hi
      obtain ⟨i1, i2⟩ := ih (by omega)
      refine ⟨fun k h1 h2 h3 h4 => ?_, fun h => ?_⟩
      · rw [zdr]
        by_cases e : k = n - i
        · subst e; rw [if_pos h4]
        · rw [h3 (n - i) (by omega) (by omega), if_neg Bool.false_ne_true]
          exact i1 k (by omega) h2 (fun j h5 h6 => h3 j (by omega) h6) h4
      · rw [zdr, h (n - i) (by omega) (by omega), if_neg Bool.false_ne_true]
        exact i2 (fun k h1 h2 => h k (by omega) h2)
  obtain ⟨k1, k2⟩ := key (n + 1) (Nat.le_refl _)
  by_cases h : ∃ k, k < n + 1 ∧ f k = true
  · obtain ⟨k, hk, hk2⟩ := pk_least _ h
    have hn : ∀ j, j < k → f j = false := fun j hj => by
      cases hz : f j with
      | false => rfl
      | true => exact absurd ⟨by omega, hz⟩ (hk2 j hj)
    rw [k1 k (by omega) (by omega) (fun j _ hj => hn j hj) hk.2, zfs_at hk.1 hk.2 hn]
  · have hn : ∀ j, j < n + 1 → f j = false := fun j hj => by
      cases hz : f j with
      | false => rfl
      | true => exact absurd ⟨j, hj, hz⟩ h
    rw [k2 (fun k _ hk => hn k (by omega)), zfs_no hn]
theorem zfs_ge {f : Nat → Bool} {n : Nat} (hn : n ≤ 100) : zfs f nI n = -9 ↔ zany f n = false := by
  constructor
  · intro h
    cases hz : zany f n with
    | false => rfl
    | true =>
      obtain ⟨k, hk, hk2⟩ := pk_least _ (zany_t.mp hz)
      rw [zfs_at hk.1 hk.2 (fun j hj => by
        cases hz : f j with
        | false => rfl
        | true => exact absurd ⟨by omega, hz⟩ (hk2 j hj))] at h
      exact absurd h (nI_m9 (by omega))
  · intro h
    exact zfs_no (fun j hj => zany_n h hj)
theorem zfs_s1 {f : Nat → Bool} {n : Nat} (hn : n ≤ 100) (h : zfs f nI n = -9) (hf : f n = true) : zfs f nI (n + 1) = nI n := by
  rw [zfs, (zfs_ge hn).mp h, if_neg Bool.false_ne_true, if_pos hf]
theorem zfs_s2 {f : Nat → Bool} {n : Nat} (hn : n ≤ 100) (h : ¬ zfs f nI n = -9) : zfs f nI (n + 1) = zfs f nI n := by
  rw [zfs, if_pos]
  cases hz : zany f n with
  | true => rfl
  | false => exact absurd ((zfs_ge hn).mpr hz) h
theorem zfs_s0 {f : Nat → Bool} {n : Nat} (hn : n ≤ 100) (hf : f n = false) : zfs f nI (n + 1) = zfs f nI n := by
  rw [zfs]
  cases hz : zany f n with
  | true => rw [if_pos rfl]
  | false => rw [if_neg Bool.false_ne_true, hf, if_neg Bool.false_ne_true, (zfs_ge hn).mpr hz]
def orK (f : Nat → Bool) (x : Int32) : Nat → Int32
  | 0 => 0
  | n + 1 => if f n = true then orK f x n ||| (x &&& ((1 : Int32) <<< (nI n &&& 31))) else orK f x n
theorem orK_t {f : Nat → Bool} {x : Int32} {n : Nat} (h : f n = true) : orK f x (n + 1) = orK f x n ||| (x &&& ((1 : Int32) <<< (nI n &&& 31))) := by rw [orK, if_pos h]
theorem orK_f {f : Nat → Bool} {x : Int32} {n : Nat} (h : f n = false) : orK f x (n + 1) = orK f x n := by rw [orK, if_neg (by rw [h]; exact Bool.false_ne_true)]
def colM (P : Nat) (hs : Nat → Int32) (sm : Int32) (cn : Nat → Nat) (x : Int32) (c : Nat) : Nat → Bool := fun p => decide (cn p % 5 = c) && bareB P hs sm cn p && decide (zbit x (nI p) = 1)
theorem colM_f1 {P : Nat} {hs : Nat → Int32} {sm : Int32} {cn : Nat → Nat} {x : Int32} {c p : Nat} (h : ¬ cn p % 5 = c) : colM P hs sm cn x c p = false := by unfold colM; rw [decide_eq_false h]; rfl
theorem colM_f2 {P : Nat} {hs : Nat → Int32} {sm : Int32} {cn : Nat → Nat} {x : Int32} {c p : Nat} (h : ¬ bareB P hs sm cn p = true) : colM P hs sm cn x c p = false := by unfold colM; rw [eq_false_of_ne_true h]; simp
theorem colM_f3 {P : Nat} {hs : Nat → Int32} {sm : Int32} {cn : Nat → Nat} {x : Int32} {c p : Nat} (h : ¬ zbit x (nI p) = 1) : colM P hs sm cn x c p = false := by unfold colM; rw [decide_eq_false h]; simp
theorem colM_t {P : Nat} {hs : Nat → Int32} {sm : Int32} {cn : Nat → Nat} {x : Int32} {c p : Nat} (h1 : cn p % 5 = c) (h2 : bareB P hs sm cn p = true) (h3 : zbit x (nI p) = 1) : colM P hs sm cn x c p = true := by unfold colM; rw [decide_eq_true h1, h2, decide_eq_true h3]; rfl
set_option maxHeartbeats 4000000 in
set_option maxRecDepth 100000 in
theorem m_deed_bad {x : Int32} {y : Int32} (ht0 : td 0 = nI P) (hP : P ≤ 6) (hb : ¬ (0 ≤ x.toInt ∧ x.toInt < (P : Int) ∧ 0 ≤ y.toInt ∧ y.toInt ≤ 7)) : zq_P l mX12_deed 2 [.ref 41, .int x, .int y] (MH c tr tx (nI Z) td dr s im kp at_ so sr va wy) (some (.int (-1))) (MH c tr tx (nI Z) td dr s im kp at_ so sr va wy) := by
  refine zq_start (by decide +kernel) rfl (Nat.le_of_ble_eq_true rfl) ?_
  show zq_G _ _ _ _ _ 0 ([(0, .ref 41), (1, .int x), (2, .int y)], [], MH c tr tx (nI Z) td dr s im kp at_ so sr va wy)
  refine zq_b [zq_al 0, zq_il 1] [zq_alchk 0, zq_ilchk 1] 2 rfl (by decide +kernel) ?_
  show zq_G _ _ _ _ _ 2 ([(0, .ref 41), (1, .int x), (2, .int y)], [.int x, .ref 41], MH c tr tx (nI Z) td dr s im kp at_ so sr va wy)
  refine zq_callV (av := [.int x]) (rest := []) (by decide +kernel) k12_100 (m_isPerson (p := x) ht0 hP) rfl rfl rfl rfl ?_
  show zq_G _ _ _ _ _ 5 ([(0, .ref 41), (1, .int x), (2, .int y)], [.int (zb (0 ≤ x.toInt ∧ x.toInt < (P : Int)))], MH c tr tx (nI Z) td dr s im kp at_ so sr va wy)
  refine zq_ifz .eq 18 (¬ (0 ≤ x.toInt ∧ x.toInt < (P : Int))) (by decide +kernel) (zb_eq _) (fun c5 => ?_) (fun c5 => ?_)
  · show zq_G _ _ _ _ _ 18 ([(0, .ref 41), (1, .int x), (2, .int y)], [], MH c tr tx (nI Z) td dr s im kp at_ so sr va wy)
    refine zq_b [zq_k (-1)] [zq_kchk (-1)] 19 rfl (by decide +kernel) ?_
    show zq_G _ _ _ _ _ 19 ([(0, .ref 41), (1, .int x), (2, .int y)], [.int (-1)], MH c tr tx (nI Z) td dr s im kp at_ so sr va wy)
    exact zq_iret (by decide +kernel) rfl rfl rfl
  · show zq_G _ _ _ _ _ 8 ([(0, .ref 41), (1, .int x), (2, .int y)], [], MH c tr tx (nI Z) td dr s im kp at_ so sr va wy)
    refine zq_b [zq_il 2, zq_k 0, zq_k 7] [zq_ilchk 2, zq_kchk 0, zq_kchk 7] 12 rfl (by decide +kernel) ?_
    show zq_G _ _ _ _ _ 12 ([(0, .ref 41), (1, .int x), (2, .int y)], [.int 7, .int 0, .int y], MH c tr tx (nI Z) td dr s im kp at_ so sr va wy)
    refine zq_callS (av := [.int y, .int 0, .int 7]) (rest := []) (by decide +kernel) k12_39 (m_in (x := y) (lo := 0) (hi := 7) (by omega) (by omega)) rfl rfl ?_
    show zq_G _ _ _ _ _ 15 ([(0, .ref 41), (1, .int x), (2, .int y)], [.int (zb ((0 : Int) ≤ y.toInt ∧ y.toInt ≤ (7 : Int)))], MH c tr tx (nI Z) td dr s im kp at_ so sr va wy)
    refine zq_ifz .ne 20 ((0 : Int) ≤ y.toInt ∧ y.toInt ≤ (7 : Int)) (by decide +kernel) (zb_ne _) (fun c15 => ?_) (fun c15 => ?_)
    · show zq_G _ _ _ _ _ 20 ([(0, .ref 41), (1, .int x), (2, .int y)], [], MH c tr tx (nI Z) td dr s im kp at_ so sr va wy)
      exact absurd hb (by omega)
    · show zq_G _ _ _ _ _ 18 ([(0, .ref 41), (1, .int x), (2, .int y)], [], MH c tr tx (nI Z) td dr s im kp at_ so sr va wy)
      refine zq_b [zq_k (-1)] [zq_kchk (-1)] 19 rfl (by decide +kernel) ?_
      show zq_G _ _ _ _ _ 19 ([(0, .ref 41), (1, .int x), (2, .int y)], [.int (-1)], MH c tr tx (nI Z) td dr s im kp at_ so sr va wy)
      exact zq_iret (by decide +kernel) rfl rfl rfl
set_option maxHeartbeats 4000000 in
set_option maxRecDepth 100000 in
theorem m_deed_st {a : Nat} {q : Nat} (ht0 : td 0 = nI P) (hP : P ≤ 6) (hce : ∀ j, j < P → s (3 + j) = nI (cn j) ∧ cn j ≤ 26) (ha : a < P) (hcc : q ≤ 7) (hb : 25 ≤ cn a) : zq_P l mX12_deed 2 [.ref 41, .int (nI a), .int (nI q)] (MH c tr tx (nI Z) td dr s im kp at_ so sr va wy) (some (.int (-2))) (MH c tr tx (nI Z) td dr s im kp at_ so sr va wy) := by
  refine zq_start (by decide +kernel) rfl (Nat.le_of_ble_eq_true rfl) ?_
  show zq_G _ _ _ _ _ 0 ([(0, .ref 41), (1, .int (nI a)), (2, .int (nI q))], [], MH c tr tx (nI Z) td dr s im kp at_ so sr va wy)
  have hca := (hce a ha).2
  refine zq_b [zq_al 0, zq_il 1] [zq_alchk 0, zq_ilchk 1] 2 rfl (by decide +kernel) ?_
  show zq_G _ _ _ _ _ 2 ([(0, .ref 41), (1, .int (nI a)), (2, .int (nI q))], [.int (nI a), .ref 41], MH c tr tx (nI Z) td dr s im kp at_ so sr va wy)
  refine zq_callV (av := [.int (nI a)]) (rest := []) (by decide +kernel) k12_100 (m_isPersonN (p := a) ht0 hP (by omega)) rfl rfl rfl rfl ?_
  show zq_G _ _ _ _ _ 5 ([(0, .ref 41), (1, .int (nI a)), (2, .int (nI q))], [.int (zb (a < P))], MH c tr tx (nI Z) td dr s im kp at_ so sr va wy)
  refine zq_ifz .eq 18 (¬ (a < P)) (by decide +kernel) (zb_eq _) (fun c5 => absurd c5 (by omega)) (fun c5 => ?_)
  show zq_G _ _ _ _ _ 8 ([(0, .ref 41), (1, .int (nI a)), (2, .int (nI q))], [], MH c tr tx (nI Z) td dr s im kp at_ so sr va wy)
  refine zq_b [zq_il 2, zq_k 0, zq_k 7] [zq_ilchk 2, zq_kchk 0, zq_kchk 7] 12 rfl (by decide +kernel) ?_
  show zq_G _ _ _ _ _ 12 ([(0, .ref 41), (1, .int (nI a)), (2, .int (nI q))], [.int 7, .int 0, .int (nI q)], MH c tr tx (nI Z) td dr s im kp at_ so sr va wy)
  refine zq_callS (av := [.int (nI q), .int 0, .int 7]) (rest := []) (by decide +kernel) k12_39 (m_inN (x := q) (lo := 0) (hi := 7) (by omega) (by omega) (by omega)) rfl rfl ?_
  show zq_G _ _ _ _ _ 15 ([(0, .ref 41), (1, .int (nI a)), (2, .int (nI q))], [.int (zb (0 ≤ q ∧ q ≤ 7))], MH c tr tx (nI Z) td dr s im kp at_ so sr va wy)
  refine zq_ifz .ne 20 (0 ≤ q ∧ q ≤ 7) (by decide +kernel) (zb_ne _) (fun c15 => ?_) (fun c15 => absurd (by omega) c15)
  show zq_G _ _ _ _ _ 20 ([(0, .ref 41), (1, .int (nI a)), (2, .int (nI q))], [], MH c tr tx (nI Z) td dr s im kp at_ so sr va wy)
  refine zq_b [zq_al 0, zq_get 12 5, zq_k 3, zq_il 1, zq_iadd (nI (3 + a)), zq_iald (3 + a) (nI (cn a)), zq_k 25] [zq_alchk 0, zq_getchk 12 5, zq_kchk 3, zq_ilchk 1, zq_is .iadd 1, zq_is .iaload 1, zq_kchk 25] 30 rfl (by decide +kernel) ?_
  refine ⟨(nI_add 3 a), rfl, (by omega), (by omega), (hce _ (by omega)).1, ?_⟩
  show zq_G _ _ _ _ _ 30 ([(0, .ref 41), (1, .int (nI a)), (2, .int (nI q))], [.int 25, .int (nI (cn a))], MH c tr tx (nI Z) td dr s im kp at_ so sr va wy)
  refine zq_if .lt 36 ((cn a) < 25) (by decide +kernel) (zq_clt (a := cn a) (b := 25) (by omega) (by omega)) (fun c30 => absurd c30 (by omega)) (fun c30 => ?_)
  show zq_G _ _ _ _ _ 33 ([(0, .ref 41), (1, .int (nI a)), (2, .int (nI q))], [], MH c tr tx (nI Z) td dr s im kp at_ so sr va wy)
  refine zq_b [zq_k (-2)] [zq_kchk (-2)] 35 rfl (by decide +kernel) ?_
  show zq_G _ _ _ _ _ 35 ([(0, .ref 41), (1, .int (nI a)), (2, .int (nI q))], [.int (-2)], MH c tr tx (nI Z) td dr s im kp at_ so sr va wy)
  exact zq_iret (by decide +kernel) rfl rfl rfl
set_option maxHeartbeats 4000000 in
set_option maxRecDepth 100000 in
theorem m_deed_full {a : Nat} {q : Nat} (ht0 : td 0 = nI P) (hP : P ≤ 6) (hce : ∀ j, j < P → s (3 + j) = nI (cn j) ∧ cn j ≤ 26) (hs2 : s 2 = nI N) (ha : a < P) (hcc : q ≤ 7) (hb : cn a < 25) (hN2 : N = 12) : zq_P l mX12_deed 2 [.ref 41, .int (nI a), .int (nI q)] (MH c tr tx (nI Z) td dr s im kp at_ so sr va wy) (some (.int (-3))) (MH c tr tx (nI Z) td dr s im kp at_ so sr va wy) := by
  refine zq_start (by decide +kernel) rfl (Nat.le_of_ble_eq_true rfl) ?_
  show zq_G _ _ _ _ _ 0 ([(0, .ref 41), (1, .int (nI a)), (2, .int (nI q))], [], MH c tr tx (nI Z) td dr s im kp at_ so sr va wy)
  have hca := (hce a ha).2
  refine zq_b [zq_al 0, zq_il 1] [zq_alchk 0, zq_ilchk 1] 2 rfl (by decide +kernel) ?_
  show zq_G _ _ _ _ _ 2 ([(0, .ref 41), (1, .int (nI a)), (2, .int (nI q))], [.int (nI a), .ref 41], MH c tr tx (nI Z) td dr s im kp at_ so sr va wy)
  refine zq_callV (av := [.int (nI a)]) (rest := []) (by decide +kernel) k12_100 (m_isPersonN (p := a) ht0 hP (by omega)) rfl rfl rfl rfl ?_
  show zq_G _ _ _ _ _ 5 ([(0, .ref 41), (1, .int (nI a)), (2, .int (nI q))], [.int (zb (a < P))], MH c tr tx (nI Z) td dr s im kp at_ so sr va wy)
  refine zq_ifz .eq 18 (¬ (a < P)) (by decide +kernel) (zb_eq _) (fun c5 => absurd c5 (by omega)) (fun c5 => ?_)
  show zq_G _ _ _ _ _ 8 ([(0, .ref 41), (1, .int (nI a)), (2, .int (nI q))], [], MH c tr tx (nI Z) td dr s im kp at_ so sr va wy)
  refine zq_b [zq_il 2, zq_k 0, zq_k 7] [zq_ilchk 2, zq_kchk 0, zq_kchk 7] 12 rfl (by decide +kernel) ?_
  show zq_G _ _ _ _ _ 12 ([(0, .ref 41), (1, .int (nI a)), (2, .int (nI q))], [.int 7, .int 0, .int (nI q)], MH c tr tx (nI Z) td dr s im kp at_ so sr va wy)
  refine zq_callS (av := [.int (nI q), .int 0, .int 7]) (rest := []) (by decide +kernel) k12_39 (m_inN (x := q) (lo := 0) (hi := 7) (by omega) (by omega) (by omega)) rfl rfl ?_
  show zq_G _ _ _ _ _ 15 ([(0, .ref 41), (1, .int (nI a)), (2, .int (nI q))], [.int (zb (0 ≤ q ∧ q ≤ 7))], MH c tr tx (nI Z) td dr s im kp at_ so sr va wy)
  refine zq_ifz .ne 20 (0 ≤ q ∧ q ≤ 7) (by decide +kernel) (zb_ne _) (fun c15 => ?_) (fun c15 => absurd (by omega) c15)
  show zq_G _ _ _ _ _ 20 ([(0, .ref 41), (1, .int (nI a)), (2, .int (nI q))], [], MH c tr tx (nI Z) td dr s im kp at_ so sr va wy)
  refine zq_b [zq_al 0, zq_get 12 5, zq_k 3, zq_il 1, zq_iadd (nI (3 + a)), zq_iald (3 + a) (nI (cn a)), zq_k 25] [zq_alchk 0, zq_getchk 12 5, zq_kchk 3, zq_ilchk 1, zq_is .iadd 1, zq_is .iaload 1, zq_kchk 25] 30 rfl (by decide +kernel) ?_
  refine ⟨(nI_add 3 a), rfl, (by omega), (by omega), (hce _ (by omega)).1, ?_⟩
  show zq_G _ _ _ _ _ 30 ([(0, .ref 41), (1, .int (nI a)), (2, .int (nI q))], [.int 25, .int (nI (cn a))], MH c tr tx (nI Z) td dr s im kp at_ so sr va wy)
  refine zq_if .lt 36 ((cn a) < 25) (by decide +kernel) (zq_clt (a := cn a) (b := 25) (by omega) (by omega)) (fun c30 => ?_) (fun c30 => absurd (by omega) c30)
  show zq_G _ _ _ _ _ 36 ([(0, .ref 41), (1, .int (nI a)), (2, .int (nI q))], [], MH c tr tx (nI Z) td dr s im kp at_ so sr va wy)
  refine zq_b [zq_al 0, zq_get 12 5, zq_k 2, zq_iald 2 (nI N), zq_k 12] [zq_alchk 0, zq_getchk 12 5, zq_kchk 2, zq_is .iaload 1, zq_kchk 12] 44 rfl (by decide +kernel) ?_
  refine ⟨rfl, (by omega), (by omega), hs2, ?_⟩
  show zq_G _ _ _ _ _ 44 ([(0, .ref 41), (1, .int (nI a)), (2, .int (nI q))], [.int 12, .int (nI N)], MH c tr tx (nI Z) td dr s im kp at_ so sr va wy)
  refine zq_if .ne 50 (¬ N = 12) (by decide +kernel) (zq_cne (a := N) (b := 12) (by omega) (by omega)) (fun c44 => absurd c44 (by omega)) (fun c44 => ?_)
  show zq_G _ _ _ _ _ 47 ([(0, .ref 41), (1, .int (nI a)), (2, .int (nI q))], [], MH c tr tx (nI Z) td dr s im kp at_ so sr va wy)
  refine zq_b [zq_k (-3)] [zq_kchk (-3)] 49 rfl (by decide +kernel) ?_
  show zq_G _ _ _ _ _ 49 ([(0, .ref 41), (1, .int (nI a)), (2, .int (nI q))], [.int (-3)], MH c tr tx (nI Z) td dr s im kp at_ so sr va wy)
  exact zq_iret (by decide +kernel) rfl rfl rfl
set_option maxHeartbeats 4000000 in
set_option maxRecDepth 100000 in
theorem m_deed {a : Nat} {q : Nat} (ht0 : td 0 = nI P) (ht1 : td 1 = nI C) (hs0 : s 0 = nI D) (hs1 : s 1 = sm) (hP : P ≤ 6) (hC : C ≤ 8) (hce : ∀ j, j < P → s (3 + j) = nI (cn j) ∧ cn j ≤ 26) (hs2 : s 2 = nI N) (hs168 : s 168 = nI K) (hK : K ≤ 10) (ha : a < P) (hcc : q ≤ 7) (hb : cn a < 25) (hN2 : N < 12) : zq_P l mX12_deed 3 [.ref 41, .int (nI a), .int (nI q)] (MH c tr tx (nI Z) td dr s im kp at_ so sr va wy) (some (.int (zb (bareB P (fun j => td (6 + j)) sm cn a = true ∧ ¬ zany (fun i => decide (td (18 + i) = nI D)) C = true)))) (MH c tr tx (nI Z) td dr (upd (upd (upd (upd (upd (upd (zkp K s) (9 + (5 * N)) (nI a)) (9 + (5 * N) + 1) (nI q)) (9 + (5 * N) + 2) (nI D)) (9 + (5 * N) + 3) (nI (cn a))) (9 + (5 * N) + 4) (zb (bareB P (fun j => td (6 + j)) sm cn a = true ∧ ¬ zany (fun i => decide (td (18 + i) = nI D)) C = true))) 2 (nI (N + 1))) im kp at_ so sr va wy) := by
  refine zq_start (by decide +kernel) rfl (Nat.le_of_ble_eq_true rfl) ?_
  show zq_G _ _ _ _ _ 0 ([(0, .ref 41), (1, .int (nI a)), (2, .int (nI q))], [], MH c tr tx (nI Z) td dr s im kp at_ so sr va wy)
  have hca := (hce a ha).2
  have hs0k : zkp K s 0 = nI D := (zkp_lo (by omega)).trans hs0
  have hs1k : zkp K s 1 = sm := (zkp_lo (by omega)).trans hs1
  have hcek : ∀ j, j < P → zkp K s (3 + j) = nI (cn j) ∧ cn j ≤ 26 := fun j hj => ⟨(zkp_lo (by omega)).trans (hce j hj).1, (hce j hj).2⟩
  refine zq_b [zq_al 0, zq_il 1] [zq_alchk 0, zq_ilchk 1] 2 rfl (by decide +kernel) ?_
  show zq_G _ _ _ _ _ 2 ([(0, .ref 41), (1, .int (nI a)), (2, .int (nI q))], [.int (nI a), .ref 41], MH c tr tx (nI Z) td dr s im kp at_ so sr va wy)
  refine zq_callV (av := [.int (nI a)]) (rest := []) (by decide +kernel) k12_100 (m_isPersonN (p := a) ht0 hP (by omega)) rfl rfl rfl rfl ?_
  show zq_G _ _ _ _ _ 5 ([(0, .ref 41), (1, .int (nI a)), (2, .int (nI q))], [.int (zb (a < P))], MH c tr tx (nI Z) td dr s im kp at_ so sr va wy)
  refine zq_ifz .eq 18 (¬ (a < P)) (by decide +kernel) (zb_eq _) (fun c5 => absurd c5 (by omega)) (fun c5 => ?_)
  show zq_G _ _ _ _ _ 8 ([(0, .ref 41), (1, .int (nI a)), (2, .int (nI q))], [], MH c tr tx (nI Z) td dr s im kp at_ so sr va wy)
  refine zq_b [zq_il 2, zq_k 0, zq_k 7] [zq_ilchk 2, zq_kchk 0, zq_kchk 7] 12 rfl (by decide +kernel) ?_
  show zq_G _ _ _ _ _ 12 ([(0, .ref 41), (1, .int (nI a)), (2, .int (nI q))], [.int 7, .int 0, .int (nI q)], MH c tr tx (nI Z) td dr s im kp at_ so sr va wy)
  refine zq_callS (av := [.int (nI q), .int 0, .int 7]) (rest := []) (by decide +kernel) k12_39 (m_inN (x := q) (lo := 0) (hi := 7) (by omega) (by omega) (by omega)) rfl rfl ?_
  show zq_G _ _ _ _ _ 15 ([(0, .ref 41), (1, .int (nI a)), (2, .int (nI q))], [.int (zb (0 ≤ q ∧ q ≤ 7))], MH c tr tx (nI Z) td dr s im kp at_ so sr va wy)
  refine zq_ifz .ne 20 (0 ≤ q ∧ q ≤ 7) (by decide +kernel) (zb_ne _) (fun c15 => ?_) (fun c15 => absurd (by omega) c15)
  show zq_G _ _ _ _ _ 20 ([(0, .ref 41), (1, .int (nI a)), (2, .int (nI q))], [], MH c tr tx (nI Z) td dr s im kp at_ so sr va wy)
  refine zq_b [zq_al 0, zq_get 12 5, zq_k 3, zq_il 1, zq_iadd (nI (3 + a)), zq_iald (3 + a) (nI (cn a)), zq_k 25] [zq_alchk 0, zq_getchk 12 5, zq_kchk 3, zq_ilchk 1, zq_is .iadd 1, zq_is .iaload 1, zq_kchk 25] 30 rfl (by decide +kernel) ?_
  refine ⟨(nI_add 3 a), rfl, (by omega), (by omega), (hce _ (by omega)).1, ?_⟩
  show zq_G _ _ _ _ _ 30 ([(0, .ref 41), (1, .int (nI a)), (2, .int (nI q))], [.int 25, .int (nI (cn a))], MH c tr tx (nI Z) td dr s im kp at_ so sr va wy)
  refine zq_if .lt 36 ((cn a) < 25) (by decide +kernel) (zq_clt (a := cn a) (b := 25) (by omega) (by omega)) (fun c30 => ?_) (fun c30 => absurd (by omega) c30)
  show zq_G _ _ _ _ _ 36 ([(0, .ref 41), (1, .int (nI a)), (2, .int (nI q))], [], MH c tr tx (nI Z) td dr s im kp at_ so sr va wy)
  refine zq_b [zq_al 0, zq_get 12 5, zq_k 2, zq_iald 2 (nI N), zq_k 12] [zq_alchk 0, zq_getchk 12 5, zq_kchk 2, zq_is .iaload 1, zq_kchk 12] 44 rfl (by decide +kernel) ?_
  refine ⟨rfl, (by omega), (by omega), hs2, ?_⟩
  show zq_G _ _ _ _ _ 44 ([(0, .ref 41), (1, .int (nI a)), (2, .int (nI q))], [.int 12, .int (nI N)], MH c tr tx (nI Z) td dr s im kp at_ so sr va wy)
  refine zq_if .ne 50 (¬ N = 12) (by decide +kernel) (zq_cne (a := N) (b := 12) (by omega) (by omega)) (fun c44 => ?_) (fun c44 => absurd (by omega) c44)
  show zq_G _ _ _ _ _ 50 ([(0, .ref 41), (1, .int (nI a)), (2, .int (nI q))], [], MH c tr tx (nI Z) td dr s im kp at_ so sr va wy)
  refine zq_b [zq_al 0] [zq_alchk 0] 51 rfl (by decide +kernel) ?_
  show zq_G _ _ _ _ _ 51 ([(0, .ref 41), (1, .int (nI a)), (2, .int (nI q))], [.ref 41], MH c tr tx (nI Z) td dr s im kp at_ so sr va wy)
  refine zq_callV (av := []) (rest := []) (by decide +kernel) k12_107 (m_keeps hs168 hK) rfl rfl rfl rfl ?_
  show zq_G _ _ _ _ _ 54 ([(0, .ref 41), (1, .int (nI a)), (2, .int (nI q))], [], MH c tr tx (nI Z) td dr (zkp K s) im kp at_ so sr va wy)
  refine zq_b [zq_k 9, zq_k 5, zq_al 0, zq_get 12 5, zq_k 2, zq_iald 2 (nI N), zq_imul (nI (5 * N)), zq_iadd (nI (9 + (5 * N))), zq_is1 3, zq_al 0, zq_il 1] [zq_kchk 9, zq_kchk 5, zq_alchk 0, zq_getchk 12 5, zq_kchk 2, zq_is .iaload 1, zq_is .imul 1, zq_is .iadd 1, zq_is1chk 3, zq_alchk 0, zq_ilchk 1] 68 rfl (by decide +kernel) ?_
  refine ⟨rfl, (by omega), (by omega), ((zkp_lo (by omega)).trans hs2), (pk_mul 5 N), (nI_add 9 (5 * N)), ?_⟩
  show zq_G _ _ _ _ _ 68 ([(0, .ref 41), (1, .int (nI a)), (2, .int (nI q)), (3, .int (nI (9 + (5 * N))))], [.int (nI a), .ref 41], MH c tr tx (nI Z) td dr (zkp K s) im kp at_ so sr va wy)
  refine zq_callV (av := [.int (nI a)]) (rest := []) (by decide +kernel) k12_97 (m_isSeen (p := a) ht0 ht1 hs0k hs1k hP hC hcek (by omega)) rfl rfl rfl rfl ?_
  show zq_G _ _ _ _ _ 71 ([(0, .ref 41), (1, .int (nI a)), (2, .int (nI q)), (3, .int (nI (9 + (5 * N))))], [.int (zb (bareB P (fun j => td (6 + j)) sm cn a = true ∧ ¬ zany (fun i => decide (td (18 + i) = nI D)) C = true))], MH c tr tx (nI Z) td dr (zkp K s) im kp at_ so sr va wy)
  refine zq_ifz .eq 78 (¬ (bareB P (fun j => td (6 + j)) sm cn a = true ∧ ¬ zany (fun i => decide (td (18 + i) = nI D)) C = true)) (by decide +kernel) (zb_eq _) (fun c71 => ?_) (fun c71 => ?_)
  · show zq_G _ _ _ _ _ 78 ([(0, .ref 41), (1, .int (nI a)), (2, .int (nI q)), (3, .int (nI (9 + (5 * N))))], [], MH c tr tx (nI Z) td dr (zkp K s) im kp at_ so sr va wy)
    refine zq_b [zq_k 0] [zq_kchk 0] 79 rfl (by decide +kernel) ?_
    show zq_G _ _ _ _ _ 79 ([(0, .ref 41), (1, .int (nI a)), (2, .int (nI q)), (3, .int (nI (9 + (5 * N))))], [.int 0], MH c tr tx (nI Z) td dr (zkp K s) im kp at_ so sr va wy)
    refine zq_eq (σ2 := ([(0, .ref 41), (1, .int (nI a)), (2, .int (nI q)), (3, .int (nI (9 + (5 * N))))], [.int (zb (bareB P (fun j => td (6 + j)) sm cn a = true ∧ ¬ zany (fun i => decide (td (18 + i) = nI D)) C = true))], MH c tr tx (nI Z) td dr (zkp K s) im kp at_ so sr va wy)) (by rw [← zb_f c71]) ?_
    refine zq_b [zq_is1 4, zq_al 0, zq_get 12 5, zq_il 3, zq_il 1, zq_iast (9 + (5 * N)), zq_al 0, zq_get 12 5, zq_il 3, zq_k 1, zq_iadd (nI ((9 + (5 * N)) + 1)), zq_il 2, zq_iast ((9 + (5 * N)) + 1), zq_al 0, zq_get 12 5, zq_il 3, zq_k 2, zq_iadd (nI ((9 + (5 * N)) + 2)), zq_al 0, zq_get 12 5, zq_k 0, zq_iald 0 (nI D), zq_iast ((9 + (5 * N)) + 2), zq_al 0, zq_get 12 5, zq_il 3, zq_k 3, zq_iadd (nI ((9 + (5 * N)) + 3)), zq_al 0, zq_get 12 5, zq_k 3, zq_il 1, zq_iadd (nI (3 + a)), zq_iald (3 + a) (nI (cn a)), zq_iast ((9 + (5 * N)) + 3), zq_al 0, zq_get 12 5, zq_il 3, zq_k 4, zq_iadd (nI ((9 + (5 * N)) + 4)), zq_il 4, zq_iast ((9 + (5 * N)) + 4), zq_al 0, zq_get 12 5, zq_k 2, zq_dup2, zq_iald 2 (nI N), zq_k 1, zq_iadd (nI (N + 1)), zq_iast 2, zq_il 4] [zq_is1chk 4, zq_alchk 0, zq_getchk 12 5, zq_ilchk 3, zq_ilchk 1, zq_is .iastore 1, zq_alchk 0, zq_getchk 12 5, zq_ilchk 3, zq_kchk 1, zq_is .iadd 1, zq_ilchk 2, zq_is .iastore 1, zq_alchk 0, zq_getchk 12 5, zq_ilchk 3, zq_kchk 2, zq_is .iadd 1, zq_alchk 0, zq_getchk 12 5, zq_kchk 0, zq_is .iaload 1, zq_is .iastore 1, zq_alchk 0, zq_getchk 12 5, zq_ilchk 3, zq_kchk 3, zq_is .iadd 1, zq_alchk 0, zq_getchk 12 5, zq_kchk 3, zq_ilchk 1, zq_is .iadd 1, zq_is .iaload 1, zq_is .iastore 1, zq_alchk 0, zq_getchk 12 5, zq_ilchk 3, zq_kchk 4, zq_is .iadd 1, zq_ilchk 4, zq_is .iastore 1, zq_alchk 0, zq_getchk 12 5, zq_kchk 2, zq_is .dup2 1, zq_is .iaload 1, zq_kchk 1, zq_is .iadd 1, zq_is .iastore 1, zq_ilchk 4] 149 rfl (by decide +kernel) ?_
    refine ⟨rfl, (by omega), (by omega), (nI_add (9 + (5 * N)) 1), rfl, (by omega), (by omega), (nI_add (9 + (5 * N)) 2), rfl, (by omega), (by omega), (by rw [pk_un (by omega), pk_un (by omega), hs0k]), rfl, (by omega), (by omega), (nI_add (9 + (5 * N)) 3), (nI_add 3 a), rfl, (by omega), (by omega), (by rw [pk_un (by omega), pk_un (by omega), pk_un (by omega), (hcek a ha).1]), rfl, (by omega), (by omega), (nI_add (9 + (5 * N)) 4), rfl, (by omega), (by omega), rfl, (by omega), (by omega), (by rw [pk_un (by omega), pk_un (by omega), pk_un (by omega), pk_un (by omega), pk_un (by omega), zkp_lo (by omega), hs2]), (nI_add N 1), rfl, (by omega), (by omega), ?_⟩
    show zq_G _ _ _ _ _ 149 ([(0, .ref 41), (1, .int (nI a)), (2, .int (nI q)), (3, .int (nI (9 + (5 * N)))), (4, .int (zb (bareB P (fun j => td (6 + j)) sm cn a = true ∧ ¬ zany (fun i => decide (td (18 + i) = nI D)) C = true)))], [.int (zb (bareB P (fun j => td (6 + j)) sm cn a = true ∧ ¬ zany (fun i => decide (td (18 + i) = nI D)) C = true))], MH c tr tx (nI Z) td dr (upd (upd (upd (upd (upd (upd (zkp K s) (9 + (5 * N)) (nI a)) ((9 + (5 * N)) + 1) (nI q)) ((9 + (5 * N)) + 2) (nI D)) ((9 + (5 * N)) + 3) (nI (cn a))) ((9 + (5 * N)) + 4) (zb (bareB P (fun j => td (6 + j)) sm cn a = true ∧ ¬ zany (fun i => decide (td (18 + i) = nI D)) C = true))) 2 (nI (N + 1))) im kp at_ so sr va wy)
    exact zq_iret (by decide +kernel) rfl rfl rfl
  · show zq_G _ _ _ _ _ 74 ([(0, .ref 41), (1, .int (nI a)), (2, .int (nI q)), (3, .int (nI (9 + (5 * N))))], [], MH c tr tx (nI Z) td dr (zkp K s) im kp at_ so sr va wy)
    refine zq_b [zq_k 1, zq_go] [zq_kchk 1, zq_gochk] 79 rfl (by decide +kernel) ?_
    show zq_G _ _ _ _ _ 79 ([(0, .ref 41), (1, .int (nI a)), (2, .int (nI q)), (3, .int (nI (9 + (5 * N))))], [.int 1], MH c tr tx (nI Z) td dr (zkp K s) im kp at_ so sr va wy)
    refine zq_eq (σ2 := ([(0, .ref 41), (1, .int (nI a)), (2, .int (nI q)), (3, .int (nI (9 + (5 * N))))], [.int (zb (bareB P (fun j => td (6 + j)) sm cn a = true ∧ ¬ zany (fun i => decide (td (18 + i) = nI D)) C = true))], MH c tr tx (nI Z) td dr (zkp K s) im kp at_ so sr va wy)) (by rw [← zb_t (Decidable.not_not.mp c71)]) ?_
    refine zq_b [zq_is1 4, zq_al 0, zq_get 12 5, zq_il 3, zq_il 1, zq_iast (9 + (5 * N)), zq_al 0, zq_get 12 5, zq_il 3, zq_k 1, zq_iadd (nI ((9 + (5 * N)) + 1)), zq_il 2, zq_iast ((9 + (5 * N)) + 1), zq_al 0, zq_get 12 5, zq_il 3, zq_k 2, zq_iadd (nI ((9 + (5 * N)) + 2)), zq_al 0, zq_get 12 5, zq_k 0, zq_iald 0 (nI D), zq_iast ((9 + (5 * N)) + 2), zq_al 0, zq_get 12 5, zq_il 3, zq_k 3, zq_iadd (nI ((9 + (5 * N)) + 3)), zq_al 0, zq_get 12 5, zq_k 3, zq_il 1, zq_iadd (nI (3 + a)), zq_iald (3 + a) (nI (cn a)), zq_iast ((9 + (5 * N)) + 3), zq_al 0, zq_get 12 5, zq_il 3, zq_k 4, zq_iadd (nI ((9 + (5 * N)) + 4)), zq_il 4, zq_iast ((9 + (5 * N)) + 4), zq_al 0, zq_get 12 5, zq_k 2, zq_dup2, zq_iald 2 (nI N), zq_k 1, zq_iadd (nI (N + 1)), zq_iast 2, zq_il 4] [zq_is1chk 4, zq_alchk 0, zq_getchk 12 5, zq_ilchk 3, zq_ilchk 1, zq_is .iastore 1, zq_alchk 0, zq_getchk 12 5, zq_ilchk 3, zq_kchk 1, zq_is .iadd 1, zq_ilchk 2, zq_is .iastore 1, zq_alchk 0, zq_getchk 12 5, zq_ilchk 3, zq_kchk 2, zq_is .iadd 1, zq_alchk 0, zq_getchk 12 5, zq_kchk 0, zq_is .iaload 1, zq_is .iastore 1, zq_alchk 0, zq_getchk 12 5, zq_ilchk 3, zq_kchk 3, zq_is .iadd 1, zq_alchk 0, zq_getchk 12 5, zq_kchk 3, zq_ilchk 1, zq_is .iadd 1, zq_is .iaload 1, zq_is .iastore 1, zq_alchk 0, zq_getchk 12 5, zq_ilchk 3, zq_kchk 4, zq_is .iadd 1, zq_ilchk 4, zq_is .iastore 1, zq_alchk 0, zq_getchk 12 5, zq_kchk 2, zq_is .dup2 1, zq_is .iaload 1, zq_kchk 1, zq_is .iadd 1, zq_is .iastore 1, zq_ilchk 4] 149 rfl (by decide +kernel) ?_
    refine ⟨rfl, (by omega), (by omega), (nI_add (9 + (5 * N)) 1), rfl, (by omega), (by omega), (nI_add (9 + (5 * N)) 2), rfl, (by omega), (by omega), (by rw [pk_un (by omega), pk_un (by omega), hs0k]), rfl, (by omega), (by omega), (nI_add (9 + (5 * N)) 3), (nI_add 3 a), rfl, (by omega), (by omega), (by rw [pk_un (by omega), pk_un (by omega), pk_un (by omega), (hcek a ha).1]), rfl, (by omega), (by omega), (nI_add (9 + (5 * N)) 4), rfl, (by omega), (by omega), rfl, (by omega), (by omega), (by rw [pk_un (by omega), pk_un (by omega), pk_un (by omega), pk_un (by omega), pk_un (by omega), zkp_lo (by omega), hs2]), (nI_add N 1), rfl, (by omega), (by omega), ?_⟩
    show zq_G _ _ _ _ _ 149 ([(0, .ref 41), (1, .int (nI a)), (2, .int (nI q)), (3, .int (nI (9 + (5 * N)))), (4, .int (zb (bareB P (fun j => td (6 + j)) sm cn a = true ∧ ¬ zany (fun i => decide (td (18 + i) = nI D)) C = true)))], [.int (zb (bareB P (fun j => td (6 + j)) sm cn a = true ∧ ¬ zany (fun i => decide (td (18 + i) = nI D)) C = true))], MH c tr tx (nI Z) td dr (upd (upd (upd (upd (upd (upd (zkp K s) (9 + (5 * N)) (nI a)) ((9 + (5 * N)) + 1) (nI q)) ((9 + (5 * N)) + 2) (nI D)) ((9 + (5 * N)) + 3) (nI (cn a))) ((9 + (5 * N)) + 4) (zb (bareB P (fun j => td (6 + j)) sm cn a = true ∧ ¬ zany (fun i => decide (td (18 + i) = nI D)) C = true))) 2 (nI (N + 1))) im kp at_ so sr va wy)
    exact zq_iret (by decide +kernel) rfl rfl rfl
set_option maxHeartbeats 4000000 in
set_option maxRecDepth 100000 in
theorem m_day_st  (hs0 : s 0 = nI D) (hD2 : D = 99) : zq_P l mX12_day 0 [.ref 41] (MH c tr tx (nI Z) td dr s im kp at_ so sr va wy) (some (.int (-2))) (MH c tr tx (nI Z) td dr s im kp at_ so sr va wy) := by
  refine zq_start (by decide +kernel) rfl (Nat.le_of_ble_eq_true rfl) ?_
  show zq_G _ _ _ _ _ 0 ([(0, .ref 41)], [], MH c tr tx (nI Z) td dr s im kp at_ so sr va wy)
  refine zq_b [zq_al 0, zq_get 12 5, zq_k 0, zq_iald 0 (nI D), zq_k 99] [zq_alchk 0, zq_getchk 12 5, zq_kchk 0, zq_is .iaload 1, zq_kchk 99] 8 rfl (by decide +kernel) ?_
  refine ⟨rfl, (by omega), (by omega), hs0, ?_⟩
  show zq_G _ _ _ _ _ 8 ([(0, .ref 41)], [.int 99, .int (nI D)], MH c tr tx (nI Z) td dr s im kp at_ so sr va wy)
  refine zq_if .ne 14 (¬ D = 99) (by decide +kernel) (zq_cne (a := D) (b := 99) (by omega) (by omega)) (fun c8 => absurd c8 (by omega)) (fun c8 => ?_)
  show zq_G _ _ _ _ _ 11 ([(0, .ref 41)], [], MH c tr tx (nI Z) td dr s im kp at_ so sr va wy)
  refine zq_b [zq_k (-2)] [zq_kchk (-2)] 13 rfl (by decide +kernel) ?_
  show zq_G _ _ _ _ _ 13 ([(0, .ref 41)], [.int (-2)], MH c tr tx (nI Z) td dr s im kp at_ so sr va wy)
  exact zq_iret (by decide +kernel) rfl rfl rfl
set_option maxHeartbeats 4000000 in
set_option maxRecDepth 100000 in
theorem m_day  (ht0 : td 0 = nI P) (ht1 : td 1 = nI C) (hs0 : s 0 = nI D) (hs1 : s 1 = sm) (hP : P ≤ 6) (hC : C ≤ 8) (hce : ∀ j, j < P → s (3 + j) = nI (cn j) ∧ cn j ≤ 26) (hs168 : s 168 = nI K) (hK : K ≤ 10) (hD2 : D < 99) : zq_P l mX12_day 3 [.ref 41] (MH c tr tx (nI Z) td dr s im kp at_ so sr va wy) (some (.int (nI (D + 1)))) (MH c tr tx (nI Z) td dr (upd (upd (upd (zkp K s) (69 + D) (zseen C (fun j => td (18 + j)) D P (fun j => td (6 + j)) sm cn)) 1 0) 0 (nI (D + 1))) im kp at_ so sr va wy) := by
  refine zq_start (by decide +kernel) rfl (Nat.le_of_ble_eq_true rfl) ?_
  show zq_G _ _ _ _ _ 0 ([(0, .ref 41)], [], MH c tr tx (nI Z) td dr s im kp at_ so sr va wy)
  have hs0k : zkp K s 0 = nI D := (zkp_lo (by omega)).trans hs0
  have hs1k : zkp K s 1 = sm := (zkp_lo (by omega)).trans hs1
  have hcek : ∀ j, j < P → zkp K s (3 + j) = nI (cn j) ∧ cn j ≤ 26 := fun j hj => ⟨(zkp_lo (by omega)).trans (hce j hj).1, (hce j hj).2⟩
  refine zq_b [zq_al 0, zq_get 12 5, zq_k 0, zq_iald 0 (nI D), zq_k 99] [zq_alchk 0, zq_getchk 12 5, zq_kchk 0, zq_is .iaload 1, zq_kchk 99] 8 rfl (by decide +kernel) ?_
  refine ⟨rfl, (by omega), (by omega), hs0, ?_⟩
  show zq_G _ _ _ _ _ 8 ([(0, .ref 41)], [.int 99, .int (nI D)], MH c tr tx (nI Z) td dr s im kp at_ so sr va wy)
  refine zq_if .ne 14 (¬ D = 99) (by decide +kernel) (zq_cne (a := D) (b := 99) (by omega) (by omega)) (fun c8 => ?_) (fun c8 => absurd (by omega) c8)
  show zq_G _ _ _ _ _ 14 ([(0, .ref 41)], [], MH c tr tx (nI Z) td dr s im kp at_ so sr va wy)
  refine zq_b [zq_al 0] [zq_alchk 0] 15 rfl (by decide +kernel) ?_
  show zq_G _ _ _ _ _ 15 ([(0, .ref 41)], [.ref 41], MH c tr tx (nI Z) td dr s im kp at_ so sr va wy)
  refine zq_callV (av := []) (rest := []) (by decide +kernel) k12_107 (m_keeps hs168 hK) rfl rfl rfl rfl ?_
  show zq_G _ _ _ _ _ 18 ([(0, .ref 41)], [], MH c tr tx (nI Z) td dr (zkp K s) im kp at_ so sr va wy)
  refine zq_b [zq_al 0, zq_get 12 5, zq_k 69, zq_al 0, zq_get 12 5, zq_k 0, zq_iald 0 (nI D), zq_iadd (nI (69 + D)), zq_al 0] [zq_alchk 0, zq_getchk 12 5, zq_kchk 69, zq_alchk 0, zq_getchk 12 5, zq_kchk 0, zq_is .iaload 1, zq_is .iadd 1, zq_alchk 0] 32 rfl (by decide +kernel) ?_
  refine ⟨rfl, (by omega), (by omega), hs0k, (nI_add 69 D), ?_⟩
  show zq_G _ _ _ _ _ 32 ([(0, .ref 41)], [.ref 41, .int (nI (69 + D)), .ref 45], MH c tr tx (nI Z) td dr (zkp K s) im kp at_ so sr va wy)
  refine zq_callV (av := []) (rest := [.int (nI (69 + D)), .ref 45]) (by decide +kernel) k12_103 (m_seenNow ht0 ht1 hs0k hs1k hP hC hcek) rfl rfl rfl rfl ?_
  show zq_G _ _ _ _ _ 35 ([(0, .ref 41)], [.int (zseen C (fun j => td (18 + j)) D P (fun j => td (6 + j)) sm cn), .int (nI (69 + D)), .ref 45], MH c tr tx (nI Z) td dr (zkp K s) im kp at_ so sr va wy)
  refine zq_b [zq_iast (69 + D), zq_al 0, zq_get 12 5, zq_k 1, zq_k 0, zq_iast 1, zq_al 0, zq_get 12 5, zq_k 0, zq_dup2, zq_iald 0 (nI D), zq_k 1, zq_iadd (nI (D + 1)), zq_iast 0, zq_al 0, zq_get 12 5, zq_k 0, zq_iald 0 (nI (D + 1))] [zq_is .iastore 1, zq_alchk 0, zq_getchk 12 5, zq_kchk 1, zq_kchk 0, zq_is .iastore 1, zq_alchk 0, zq_getchk 12 5, zq_kchk 0, zq_is .dup2 1, zq_is .iaload 1, zq_kchk 1, zq_is .iadd 1, zq_is .iastore 1, zq_alchk 0, zq_getchk 12 5, zq_kchk 0, zq_is .iaload 1] 59 rfl (by decide +kernel) ?_
  refine ⟨rfl, (by omega), (by omega), rfl, (by omega), (by omega), rfl, (by omega), (by omega), (by rw [pk_un (by omega), pk_un (by omega), hs0k]), (nI_add D 1), rfl, (by omega), (by omega), rfl, (by omega), (by omega), pk_us, ?_⟩
  show zq_G _ _ _ _ _ 59 ([(0, .ref 41)], [.int (nI (D + 1))], MH c tr tx (nI Z) td dr (upd (upd (upd (zkp K s) (69 + D) (zseen C (fun j => td (18 + j)) D P (fun j => td (6 + j)) sm cn)) 1 0) 0 (nI (D + 1))) im kp at_ so sr va wy)
  exact zq_iret (by decide +kernel) rfl rfl rfl
set_option maxHeartbeats 4000000 in
set_option maxRecDepth 100000 in
theorem m_undo_st  (hs168 : s 168 = nI K) (hK0 : K = 0) : zq_P l mX12_undo 0 [.ref 41] (MH c tr tx (nI Z) td dr s im kp at_ so sr va wy) (some (.int (-2))) (MH c tr tx (nI Z) td dr s im kp at_ so sr va wy) := by
  refine zq_start (by decide +kernel) rfl (Nat.le_of_ble_eq_true rfl) ?_
  show zq_G _ _ _ _ _ 0 ([(0, .ref 41)], [], MH c tr tx (nI Z) td dr s im kp at_ so sr va wy)
  refine zq_b [zq_al 0, zq_get 12 5, zq_k 168, zq_iald 168 (nI K)] [zq_alchk 0, zq_getchk 12 5, zq_kchk 168, zq_is .iaload 1] 8 rfl (by decide +kernel) ?_
  refine ⟨rfl, (by omega), (by omega), hs168, ?_⟩
  show zq_G _ _ _ _ _ 8 ([(0, .ref 41)], [.int (nI K)], MH c tr tx (nI Z) td dr s im kp at_ so sr va wy)
  refine zq_ifz .ne 14 (¬ K = 0) (by decide +kernel) (zq_cne (a := K) (b := 0) (by omega) (by omega)) (fun c8 => absurd c8 (by omega)) (fun c8 => ?_)
  show zq_G _ _ _ _ _ 11 ([(0, .ref 41)], [], MH c tr tx (nI Z) td dr s im kp at_ so sr va wy)
  refine zq_b [zq_k (-2)] [zq_kchk (-2)] 13 rfl (by decide +kernel) ?_
  show zq_G _ _ _ _ _ 13 ([(0, .ref 41)], [.int (-2)], MH c tr tx (nI Z) td dr s im kp at_ so sr va wy)
  exact zq_iret (by decide +kernel) rfl rfl rfl
set_option maxHeartbeats 4000000 in
set_option maxRecDepth 100000 in
theorem m_undo  (hs168 : s 168 = nI K) (hK : K ≤ 10) (hK1 : 1 ≤ K) : zq_P l mX12_undo 0 [.ref 41] (MH c tr tx (nI Z) td dr s im kp at_ so sr va wy) (some (.int (nI (K - 1)))) (MH c tr tx (nI Z) td dr (va_cpy (upd s 168 (nI (K - 1))) (upd s 168 (nI (K - 1))) (169 + 168 * (K - 1)) 0 168) im kp at_ so sr va wy) := by
  refine zq_start (by decide +kernel) rfl (Nat.le_of_ble_eq_true rfl) ?_
  show zq_G _ _ _ _ _ 0 ([(0, .ref 41)], [], MH c tr tx (nI Z) td dr s im kp at_ so sr va wy)
  refine zq_b [zq_al 0, zq_get 12 5, zq_k 168, zq_iald 168 (nI K)] [zq_alchk 0, zq_getchk 12 5, zq_kchk 168, zq_is .iaload 1] 8 rfl (by decide +kernel) ?_
  refine ⟨rfl, (by omega), (by omega), hs168, ?_⟩
  show zq_G _ _ _ _ _ 8 ([(0, .ref 41)], [.int (nI K)], MH c tr tx (nI Z) td dr s im kp at_ so sr va wy)
  refine zq_ifz .ne 14 (¬ K = 0) (by decide +kernel) (zq_cne (a := K) (b := 0) (by omega) (by omega)) (fun c8 => ?_) (fun c8 => absurd (by omega) c8)
  show zq_G _ _ _ _ _ 14 ([(0, .ref 41)], [], MH c tr tx (nI Z) td dr s im kp at_ so sr va wy)
  refine zq_b [zq_al 0, zq_get 12 5, zq_k 168, zq_dup2, zq_iald 168 (nI K), zq_k 1, zq_isub (nI (K - 1)), zq_iast 168, zq_k 169, zq_k 168, zq_al 0, zq_get 12 5, zq_k 168, zq_iald 168 (nI (K - 1)), zq_imul (nI (168 * (K - 1))), zq_iadd (nI (169 + (168 * (K - 1)))), zq_is1 1, zq_k 0, zq_is1 2] [zq_alchk 0, zq_getchk 12 5, zq_kchk 168, zq_is .dup2 1, zq_is .iaload 1, zq_kchk 1, zq_is .isub 1, zq_is .iastore 1, zq_kchk 169, zq_kchk 168, zq_alchk 0, zq_getchk 12 5, zq_kchk 168, zq_is .iaload 1, zq_is .imul 1, zq_is .iadd 1, zq_is1chk 1, zq_kchk 0, zq_is1chk 2] 45 rfl (by decide +kernel) ?_
  refine ⟨rfl, (by omega), (by omega), hs168, (pk_sub (a := K) (b := 1) (by omega)), rfl, (by omega), (by omega), rfl, (by omega), (by omega), pk_us, (pk_mul 168 (K - 1)), (nI_add 169 (168 * (K - 1))), ?_⟩
  show zq_G _ _ _ _ _ 45 ([(0, .ref 41), (1, .int (nI (169 + (168 * (K - 1))))), (2, .int 0)], [], MH c tr tx (nI Z) td dr (upd s 168 (nI (K - 1))) im kp at_ so sr va wy)
  refine zq_eq (σ2 := ([(0, .ref 41), (1, .int (nI (169 + (168 * (K - 1))))), (2, .int (nI (0 : Nat)))], [], MH c tr tx (nI Z) td dr (va_cpy (upd s 168 (nI (K - 1))) (upd s 168 (nI (K - 1))) (169 + 168 * (K - 1)) 0 (0 : Nat)) im kp at_ so sr va wy)) (by rw [cpy_0]; rfl) ?_
  refine zq_loop (fun i => ([(0, .ref 41), (1, .int (nI (169 + (168 * (K - 1))))), (2, .int (nI i))], [], MH c tr tx (nI Z) td dr (va_cpy (upd s 168 (nI (K - 1))) (upd s 168 (nI (K - 1))) (169 + 168 * (K - 1)) 0 i) im kp at_ so sr va wy)) (fun i => True) (168) (0) (by omega) (trivial) (fun i hl45 hi45 hI45 ih45 => ?_) (fun hI45 => ?_)
  · show zq_G _ _ _ _ _ 45 ([(0, .ref 41), (1, .int (nI (169 + (168 * (K - 1))))), (2, .int (nI i))], [], MH c tr tx (nI Z) td dr (va_cpy (upd s 168 (nI (K - 1))) (upd s 168 (nI (K - 1))) (169 + 168 * (K - 1)) 0 i) im kp at_ so sr va wy)
    refine zq_b [zq_il 2, zq_k 168] [zq_ilchk 2, zq_kchk 168] 49 rfl (by decide +kernel) ?_
    show zq_G _ _ _ _ _ 49 ([(0, .ref 41), (1, .int (nI (169 + (168 * (K - 1))))), (2, .int (nI i))], [.int 168, .int (nI i)], MH c tr tx (nI Z) td dr (va_cpy (upd s 168 (nI (K - 1))) (upd s 168 (nI (K - 1))) (169 + 168 * (K - 1)) 0 i) im kp at_ so sr va wy)
    refine zq_if .ge 72 (168 ≤ i) (by decide +kernel) (zq_cge (a := i) (b := 168) (by omega) (by omega)) (fun c49 => absurd c49 (by omega)) (fun c49 => ?_)
    show zq_G _ _ _ _ _ 52 ([(0, .ref 41), (1, .int (nI (169 + (168 * (K - 1))))), (2, .int (nI i))], [], MH c tr tx (nI Z) td dr (va_cpy (upd s 168 (nI (K - 1))) (upd s 168 (nI (K - 1))) (169 + 168 * (K - 1)) 0 i) im kp at_ so sr va wy)
    refine zq_b [zq_al 0, zq_get 12 5, zq_il 2, zq_al 0, zq_get 12 5, zq_il 1, zq_il 2, zq_iadd (nI ((169 + (168 * (K - 1))) + i)), zq_iald ((169 + (168 * (K - 1))) + i) ((upd s 168 (nI (K - 1))) (169 + 168 * (K - 1) + i)), zq_iast i, zq_inc 2 1 (nI (i + 1)), zq_go] [zq_alchk 0, zq_getchk 12 5, zq_ilchk 2, zq_alchk 0, zq_getchk 12 5, zq_ilchk 1, zq_ilchk 2, zq_is .iadd 1, zq_is .iaload 1, zq_is .iastore 1, zq_incchk 2 1, zq_gochk] 45 rfl (by decide +kernel) ?_
    refine ⟨(nI_add (169 + (168 * (K - 1))) i), rfl, (by omega), (by omega), (pk_cpy_out (by omega)), rfl, (by omega), (by omega), nI_add i 1, ?_⟩
    show zq_G _ _ _ _ _ 45 ([(0, .ref 41), (1, .int (nI (169 + (168 * (K - 1))))), (2, .int (nI (i + 1)))], [], MH c tr tx (nI Z) td dr (upd (va_cpy (upd s 168 (nI (K - 1))) (upd s 168 (nI (K - 1))) (169 + 168 * (K - 1)) 0 i) i ((upd s 168 (nI (K - 1))) (169 + 168 * (K - 1) + i))) im kp at_ so sr va wy)
    exact zq_eq (by rw [← cpy_succ, Nat.zero_add]) (ih45 trivial)
  · show zq_G _ _ _ _ _ 45 ([(0, .ref 41), (1, .int (nI (169 + (168 * (K - 1))))), (2, .int 168)], [], MH c tr tx (nI Z) td dr (va_cpy (upd s 168 (nI (K - 1))) (upd s 168 (nI (K - 1))) (169 + 168 * (K - 1)) 0 168) im kp at_ so sr va wy)
    refine zq_b [zq_il 2, zq_k 168] [zq_ilchk 2, zq_kchk 168] 49 rfl (by decide +kernel) ?_
    show zq_G _ _ _ _ _ 49 ([(0, .ref 41), (1, .int (nI (169 + (168 * (K - 1))))), (2, .int 168)], [.int 168, .int 168], MH c tr tx (nI Z) td dr (va_cpy (upd s 168 (nI (K - 1))) (upd s 168 (nI (K - 1))) (169 + 168 * (K - 1)) 0 168) im kp at_ so sr va wy)
    refine zq_if .ge 72 (168 ≤ 168) (by decide +kernel) (zq_cge (a := 168) (b := 168) (by omega) (by omega)) (fun c49 => ?_) (fun c49 => absurd (by omega) c49)
    show zq_G _ _ _ _ _ 72 ([(0, .ref 41), (1, .int (nI (169 + (168 * (K - 1))))), (2, .int 168)], [], MH c tr tx (nI Z) td dr (va_cpy (upd s 168 (nI (K - 1))) (upd s 168 (nI (K - 1))) (169 + 168 * (K - 1)) 0 168) im kp at_ so sr va wy)
    refine zq_b [zq_al 0, zq_get 12 5, zq_k 168, zq_iald 168 (nI (K - 1))] [zq_alchk 0, zq_getchk 12 5, zq_kchk 168, zq_is .iaload 1] 80 rfl (by decide +kernel) ?_
    refine ⟨rfl, (by omega), (by omega), ((pk_cpy_out (by omega)).trans pk_us), ?_⟩
    show zq_G _ _ _ _ _ 80 ([(0, .ref 41), (1, .int (nI (169 + (168 * (K - 1))))), (2, .int 168)], [.int (nI (K - 1))], MH c tr tx (nI Z) td dr (va_cpy (upd s 168 (nI (K - 1))) (upd s 168 (nI (K - 1))) (169 + 168 * (K - 1)) 0 168) im kp at_ so sr va wy)
    exact zq_iret (by decide +kernel) rfl rfl rfl
set_option maxHeartbeats 4000000 in
set_option maxRecDepth 100000 in
theorem m_done_bad {x : Int32} {y : Int32} (hs2 : s 2 = nI N) (hN : N ≤ 12) (hb : ¬ (0 ≤ x.toInt ∧ x.toInt < (N : Int) ∧ 0 ≤ y.toInt ∧ y.toInt ≤ 4)) : zq_P l mX12_done 2 [.ref 41, .int x, .int y] (MH c tr tx (nI Z) td dr s im kp at_ so sr va wy) (some (.int (-1))) (MH c tr tx (nI Z) td dr s im kp at_ so sr va wy) := by
  refine zq_start (by decide +kernel) rfl (Nat.le_of_ble_eq_true rfl) ?_
  show zq_G _ _ _ _ _ 0 ([(0, .ref 41), (1, .int x), (2, .int y)], [], MH c tr tx (nI Z) td dr s im kp at_ so sr va wy)
  refine zq_b [zq_al 0, zq_il 1] [zq_alchk 0, zq_ilchk 1] 2 rfl (by decide +kernel) ?_
  show zq_G _ _ _ _ _ 2 ([(0, .ref 41), (1, .int x), (2, .int y)], [.int x, .ref 41], MH c tr tx (nI Z) td dr s im kp at_ so sr va wy)
  refine zq_callV (av := [.int x]) (rest := []) (by decide +kernel) k12_113 (m_isDeed (p := x) hs2 hN) rfl rfl rfl rfl ?_
  show zq_G _ _ _ _ _ 5 ([(0, .ref 41), (1, .int x), (2, .int y)], [.int (zb (0 ≤ x.toInt ∧ x.toInt < (N : Int)))], MH c tr tx (nI Z) td dr s im kp at_ so sr va wy)
  refine zq_ifz .eq 33 (¬ (0 ≤ x.toInt ∧ x.toInt < (N : Int))) (by decide +kernel) (zb_eq _) (fun c5 => ?_) (fun c5 => ?_)
  · show zq_G _ _ _ _ _ 33 ([(0, .ref 41), (1, .int x), (2, .int y)], [], MH c tr tx (nI Z) td dr s im kp at_ so sr va wy)
    refine zq_b [zq_k (-1)] [zq_kchk (-1)] 34 rfl (by decide +kernel) ?_
    show zq_G _ _ _ _ _ 34 ([(0, .ref 41), (1, .int x), (2, .int y)], [.int (-1)], MH c tr tx (nI Z) td dr s im kp at_ so sr va wy)
    exact zq_iret (by decide +kernel) rfl rfl rfl
  · show zq_G _ _ _ _ _ 8 ([(0, .ref 41), (1, .int x), (2, .int y)], [], MH c tr tx (nI Z) td dr s im kp at_ so sr va wy)
    refine zq_b [zq_il 2, zq_k 0, zq_k 4] [zq_ilchk 2, zq_kchk 0, zq_kchk 4] 11 rfl (by decide +kernel) ?_
    show zq_G _ _ _ _ _ 11 ([(0, .ref 41), (1, .int x), (2, .int y)], [.int 4, .int 0, .int y], MH c tr tx (nI Z) td dr s im kp at_ so sr va wy)
    refine zq_callS (av := [.int y, .int 0, .int 4]) (rest := []) (by decide +kernel) k12_39 (m_in (x := y) (lo := 0) (hi := 4) (by omega) (by omega)) rfl rfl ?_
    show zq_G _ _ _ _ _ 14 ([(0, .ref 41), (1, .int x), (2, .int y)], [.int (zb ((0 : Int) ≤ y.toInt ∧ y.toInt ≤ (4 : Int)))], MH c tr tx (nI Z) td dr s im kp at_ so sr va wy)
    refine zq_ifz .eq 33 (¬ ((0 : Int) ≤ y.toInt ∧ y.toInt ≤ (4 : Int))) (by decide +kernel) (zb_eq _) (fun c14 => ?_) (fun c14 => ?_)
    · show zq_G _ _ _ _ _ 33 ([(0, .ref 41), (1, .int x), (2, .int y)], [], MH c tr tx (nI Z) td dr s im kp at_ so sr va wy)
      refine zq_b [zq_k (-1)] [zq_kchk (-1)] 34 rfl (by decide +kernel) ?_
      show zq_G _ _ _ _ _ 34 ([(0, .ref 41), (1, .int x), (2, .int y)], [.int (-1)], MH c tr tx (nI Z) td dr s im kp at_ so sr va wy)
      exact zq_iret (by decide +kernel) rfl rfl rfl
    · show zq_G _ _ _ _ _ 17 ([(0, .ref 41), (1, .int x), (2, .int y)], [], MH c tr tx (nI Z) td dr s im kp at_ so sr va wy)
      exact absurd hb (by omega)
set_option maxHeartbeats 4000000 in
set_option maxRecDepth 100000 in
theorem m_done {i : Nat} {k : Nat} (hs2 : s 2 = nI N) (hN : N ≤ 12) (hi : i < N) (hk : k ≤ 4) : zq_P l mX12_done 2 [.ref 41, .int (nI i), .int (nI k)] (MH c tr tx (nI Z) td dr s im kp at_ so sr va wy) (some (.int (s (9 + (i * 5 + k))))) (MH c tr tx (nI Z) td dr s im kp at_ so sr va wy) := by
  refine zq_start (by decide +kernel) rfl (Nat.le_of_ble_eq_true rfl) ?_
  show zq_G _ _ _ _ _ 0 ([(0, .ref 41), (1, .int (nI i)), (2, .int (nI k))], [], MH c tr tx (nI Z) td dr s im kp at_ so sr va wy)
  refine zq_b [zq_al 0, zq_il 1] [zq_alchk 0, zq_ilchk 1] 2 rfl (by decide +kernel) ?_
  show zq_G _ _ _ _ _ 2 ([(0, .ref 41), (1, .int (nI i)), (2, .int (nI k))], [.int (nI i), .ref 41], MH c tr tx (nI Z) td dr s im kp at_ so sr va wy)
  refine zq_callV (av := [.int (nI i)]) (rest := []) (by decide +kernel) k12_113 (m_isDeedN (p := i) hs2 hN (by omega)) rfl rfl rfl rfl ?_
  show zq_G _ _ _ _ _ 5 ([(0, .ref 41), (1, .int (nI i)), (2, .int (nI k))], [.int (zb (i < N))], MH c tr tx (nI Z) td dr s im kp at_ so sr va wy)
  refine zq_ifz .eq 33 (¬ (i < N)) (by decide +kernel) (zb_eq _) (fun c5 => absurd c5 (by omega)) (fun c5 => ?_)
  show zq_G _ _ _ _ _ 8 ([(0, .ref 41), (1, .int (nI i)), (2, .int (nI k))], [], MH c tr tx (nI Z) td dr s im kp at_ so sr va wy)
  refine zq_b [zq_il 2, zq_k 0, zq_k 4] [zq_ilchk 2, zq_kchk 0, zq_kchk 4] 11 rfl (by decide +kernel) ?_
  show zq_G _ _ _ _ _ 11 ([(0, .ref 41), (1, .int (nI i)), (2, .int (nI k))], [.int 4, .int 0, .int (nI k)], MH c tr tx (nI Z) td dr s im kp at_ so sr va wy)
  refine zq_callS (av := [.int (nI k), .int 0, .int 4]) (rest := []) (by decide +kernel) k12_39 (m_inN (x := k) (lo := 0) (hi := 4) (by omega) (by omega) (by omega)) rfl rfl ?_
  show zq_G _ _ _ _ _ 14 ([(0, .ref 41), (1, .int (nI i)), (2, .int (nI k))], [.int (zb (0 ≤ k ∧ k ≤ 4))], MH c tr tx (nI Z) td dr s im kp at_ so sr va wy)
  refine zq_ifz .eq 33 (¬ (0 ≤ k ∧ k ≤ 4)) (by decide +kernel) (zb_eq _) (fun c14 => absurd c14 (by omega)) (fun c14 => ?_)
  show zq_G _ _ _ _ _ 17 ([(0, .ref 41), (1, .int (nI i)), (2, .int (nI k))], [], MH c tr tx (nI Z) td dr s im kp at_ so sr va wy)
  refine zq_b [zq_al 0, zq_get 12 5, zq_k 9, zq_k 5, zq_il 1, zq_imul (nI (5 * i)), zq_iadd (nI (9 + (5 * i))), zq_il 2, zq_iadd (nI ((9 + (5 * i)) + k)), zq_iald (9 + (i * 5 + k)) (s (9 + (i * 5 + k))), zq_go] [zq_alchk 0, zq_getchk 12 5, zq_kchk 9, zq_kchk 5, zq_ilchk 1, zq_is .imul 1, zq_is .iadd 1, zq_ilchk 2, zq_is .iadd 1, zq_is .iaload 1, zq_gochk] 34 rfl (by decide +kernel) ?_
  refine ⟨(pk_mul 5 i), (nI_add 9 (5 * i)), (nI_add (9 + (5 * i)) k), (congrArg nI (by omega)), (by omega), (by omega), rfl, ?_⟩
  show zq_G _ _ _ _ _ 34 ([(0, .ref 41), (1, .int (nI i)), (2, .int (nI k))], [.int (s (9 + (i * 5 + k)))], MH c tr tx (nI Z) td dr s im kp at_ so sr va wy)
  exact zq_iret (by decide +kernel) rfl rfl rfl
set_option maxHeartbeats 4000000 in
set_option maxRecDepth 100000 in
theorem m_counts_bad {x : Int32} (hs2 : s 2 = nI N) (hN : N ≤ 12) (hb : ¬ (0 ≤ x.toInt ∧ x.toInt < (N : Int))) : zq_P l mX12_counts 2 [.ref 41, .int x] (MH c tr tx (nI Z) td dr s im kp at_ so sr va wy) (some (.int (-1))) (MH c tr tx (nI Z) td dr s im kp at_ so sr va wy) := by
  refine zq_start (by decide +kernel) rfl (Nat.le_of_ble_eq_true rfl) ?_
  show zq_G _ _ _ _ _ 0 ([(0, .ref 41), (1, .int x)], [], MH c tr tx (nI Z) td dr s im kp at_ so sr va wy)
  refine zq_b [zq_al 0, zq_il 1] [zq_alchk 0, zq_ilchk 1] 2 rfl (by decide +kernel) ?_
  show zq_G _ _ _ _ _ 2 ([(0, .ref 41), (1, .int x)], [.int x, .ref 41], MH c tr tx (nI Z) td dr s im kp at_ so sr va wy)
  refine zq_callV (av := [.int x]) (rest := []) (by decide +kernel) k12_113 (m_isDeed (p := x) hs2 hN) rfl rfl rfl rfl ?_
  show zq_G _ _ _ _ _ 5 ([(0, .ref 41), (1, .int x)], [.int (zb (0 ≤ x.toInt ∧ x.toInt < (N : Int)))], MH c tr tx (nI Z) td dr s im kp at_ so sr va wy)
  refine zq_ifz .ne 10 (0 ≤ x.toInt ∧ x.toInt < (N : Int)) (by decide +kernel) (zb_ne _) (fun c5 => ?_) (fun c5 => ?_)
  · show zq_G _ _ _ _ _ 10 ([(0, .ref 41), (1, .int x)], [], MH c tr tx (nI Z) td dr s im kp at_ so sr va wy)
    exact absurd hb (by omega)
  · show zq_G _ _ _ _ _ 8 ([(0, .ref 41), (1, .int x)], [], MH c tr tx (nI Z) td dr s im kp at_ so sr va wy)
    refine zq_b [zq_k (-1)] [zq_kchk (-1)] 9 rfl (by decide +kernel) ?_
    show zq_G _ _ _ _ _ 9 ([(0, .ref 41), (1, .int x)], [.int (-1)], MH c tr tx (nI Z) td dr s im kp at_ so sr va wy)
    exact zq_iret (by decide +kernel) rfl rfl rfl
set_option maxHeartbeats 4000000 in
set_option maxRecDepth 100000 in
theorem m_counts {i : Nat} (hs2 : s 2 = nI N) (hN : N ≤ 12) (ht3 : td 3 = nI L) (hi : i < N) : zq_P l mX12_counts 2 [.ref 41, .int (nI i)] (MH c tr tx (nI Z) td dr s im kp at_ so sr va wy) (some (.int (if s (9 + (i * 5 + 4)) = 1 then s (9 + (i * 5 + 2)) + nI L else -9))) (MH c tr tx (nI Z) td dr s im kp at_ so sr va wy) := by
  refine zq_start (by decide +kernel) rfl (Nat.le_of_ble_eq_true rfl) ?_
  show zq_G _ _ _ _ _ 0 ([(0, .ref 41), (1, .int (nI i))], [], MH c tr tx (nI Z) td dr s im kp at_ so sr va wy)
  refine zq_b [zq_al 0, zq_il 1] [zq_alchk 0, zq_ilchk 1] 2 rfl (by decide +kernel) ?_
  show zq_G _ _ _ _ _ 2 ([(0, .ref 41), (1, .int (nI i))], [.int (nI i), .ref 41], MH c tr tx (nI Z) td dr s im kp at_ so sr va wy)
  refine zq_callV (av := [.int (nI i)]) (rest := []) (by decide +kernel) k12_113 (m_isDeedN (p := i) hs2 hN (by omega)) rfl rfl rfl rfl ?_
  show zq_G _ _ _ _ _ 5 ([(0, .ref 41), (1, .int (nI i))], [.int (zb (i < N))], MH c tr tx (nI Z) td dr s im kp at_ so sr va wy)
  refine zq_ifz .ne 10 (i < N) (by decide +kernel) (zb_ne _) (fun c5 => ?_) (fun c5 => absurd (by omega) c5)
  show zq_G _ _ _ _ _ 10 ([(0, .ref 41), (1, .int (nI i))], [], MH c tr tx (nI Z) td dr s im kp at_ so sr va wy)
  refine zq_b [zq_al 0, zq_get 12 5, zq_k 9, zq_k 5, zq_il 1, zq_imul (nI (5 * i)), zq_iadd (nI (9 + (5 * i))), zq_k 4, zq_iadd (nI ((9 + (5 * i)) + 4)), zq_iald (9 + (i * 5 + 4)) (s (9 + (i * 5 + 4))), zq_k 1] [zq_alchk 0, zq_getchk 12 5, zq_kchk 9, zq_kchk 5, zq_ilchk 1, zq_is .imul 1, zq_is .iadd 1, zq_kchk 4, zq_is .iadd 1, zq_is .iaload 1, zq_kchk 1] 24 rfl (by decide +kernel) ?_
  refine ⟨(pk_mul 5 i), (nI_add 9 (5 * i)), (nI_add (9 + (5 * i)) 4), (congrArg nI (by omega)), (by omega), (by omega), rfl, ?_⟩
  show zq_G _ _ _ _ _ 24 ([(0, .ref 41), (1, .int (nI i))], [.int 1, .int (s (9 + (i * 5 + 4)))], MH c tr tx (nI Z) td dr s im kp at_ so sr va wy)
  refine zq_if .ne 50 (¬ (s (9 + (i * 5 + 4))) = 1) (by decide +kernel) (Iff.rfl) (fun c24 => ?_) (fun c24 => ?_)
  · show zq_G _ _ _ _ _ 50 ([(0, .ref 41), (1, .int (nI i))], [], MH c tr tx (nI Z) td dr s im kp at_ so sr va wy)
    refine zq_b [zq_k (-9)] [zq_kchk (-9)] 52 rfl (by decide +kernel) ?_
    show zq_G _ _ _ _ _ 52 ([(0, .ref 41), (1, .int (nI i))], [.int (-9)], MH c tr tx (nI Z) td dr s im kp at_ so sr va wy)
    exact zq_iret (by decide +kernel) rfl (by rw [if_neg c24]) rfl
  · show zq_G _ _ _ _ _ 27 ([(0, .ref 41), (1, .int (nI i))], [], MH c tr tx (nI Z) td dr s im kp at_ so sr va wy)
    refine zq_b [zq_al 0, zq_get 12 5, zq_k 9, zq_k 5, zq_il 1, zq_imul (nI (5 * i)), zq_iadd (nI (9 + (5 * i))), zq_k 2, zq_iadd (nI ((9 + (5 * i)) + 2)), zq_iald (9 + (i * 5 + 2)) (s (9 + (i * 5 + 2))), zq_al 0, zq_get 12 3, zq_k 3, zq_iald 3 (nI L), zq_iadd ((s (9 + (i * 5 + 2))) + (nI L)), zq_go] [zq_alchk 0, zq_getchk 12 5, zq_kchk 9, zq_kchk 5, zq_ilchk 1, zq_is .imul 1, zq_is .iadd 1, zq_kchk 2, zq_is .iadd 1, zq_is .iaload 1, zq_alchk 0, zq_getchk 12 3, zq_kchk 3, zq_is .iaload 1, zq_is .iadd 1, zq_gochk] 52 rfl (by decide +kernel) ?_
    refine ⟨(pk_mul 5 i), (nI_add 9 (5 * i)), (nI_add (9 + (5 * i)) 2), (congrArg nI (by omega)), (by omega), (by omega), rfl, rfl, (by omega), (by omega), ht3, rfl, ?_⟩
    show zq_G _ _ _ _ _ 52 ([(0, .ref 41), (1, .int (nI i))], [.int ((s (9 + (i * 5 + 2))) + (nI L))], MH c tr tx (nI Z) td dr s im kp at_ so sr va wy)
    exact zq_iret (by decide +kernel) rfl (by rw [if_pos (Decidable.not_not.mp c24)]) rfl
set_option maxHeartbeats 4000000 in
set_option maxRecDepth 100000 in
theorem m_own {x : Int32} {y : Int32} {z : Int32} (hs2 : s 2 = nI N) (hN : N ≤ 12) : zq_P l mX12_ownHolder 0 [.ref 41, .int x, .int y, .int z] (MH c tr tx ty td dr s im kp at_ so sr va wy) (some (.int (zown (fun q => s (9 + q)) N x y z))) (MH c tr tx ty td dr s im kp at_ so sr va wy) := by
  refine zq_start (by decide +kernel) rfl (Nat.le_of_ble_eq_true rfl) ?_
  show zq_G _ _ _ _ _ 0 ([(0, .ref 41), (1, .int x), (2, .int y), (3, .int z)], [], MH c tr tx ty td dr s im kp at_ so sr va wy)
  refine zq_b [zq_k (-9), zq_is1 4, zq_k 0, zq_is1 5] [zq_kchk (-9), zq_is1chk 4, zq_kchk 0, zq_is1chk 5] 7 rfl (by decide +kernel) ?_
  show zq_G _ _ _ _ _ 7 ([(0, .ref 41), (1, .int x), (2, .int y), (3, .int z), (4, .int (-9)), (5, .int 0)], [], MH c tr tx ty td dr s im kp at_ so sr va wy)
  refine zq_loop (fun i => ([(0, .ref 41), (1, .int x), (2, .int y), (3, .int z), (4, .int (zls (ownF (fun q => s (9 + q)) x y z) (fun i => (fun q => s (9 + q)) (i * 5 + 0)) i)), (5, .int (nI i))], [], MH c tr tx ty td dr s im kp at_ so sr va wy)) (fun i => True) (N) (0) (by omega) (trivial) (fun i hl7 hi7 hI7 ih7 => ?_) (fun hI7 => ?_)
  · show zq_G _ _ _ _ _ 7 ([(0, .ref 41), (1, .int x), (2, .int y), (3, .int z), (4, .int (zls (ownF (fun q => s (9 + q)) x y z) (fun i => (fun q => s (9 + q)) (i * 5 + 0)) i)), (5, .int (nI i))], [], MH c tr tx ty td dr s im kp at_ so sr va wy)
    refine zq_b [zq_il 5, zq_al 0, zq_get 12 5, zq_k 2, zq_iald 2 (nI N)] [zq_ilchk 5, zq_alchk 0, zq_getchk 12 5, zq_kchk 2, zq_is .iaload 1] 15 rfl (by decide +kernel) ?_
    refine ⟨rfl, (by omega), (by omega), hs2, ?_⟩
    show zq_G _ _ _ _ _ 15 ([(0, .ref 41), (1, .int x), (2, .int y), (3, .int z), (4, .int (zls (ownF (fun q => s (9 + q)) x y z) (fun i => (fun q => s (9 + q)) (i * 5 + 0)) i)), (5, .int (nI i))], [.int (nI N), .int (nI i)], MH c tr tx ty td dr s im kp at_ so sr va wy)
    refine zq_if .ge 100 (N ≤ i) (by decide +kernel) (zq_cge (a := i) (b := N) (by omega) (by omega)) (fun c15 => absurd c15 (by omega)) (fun c15 => ?_)
    show zq_G _ _ _ _ _ 18 ([(0, .ref 41), (1, .int x), (2, .int y), (3, .int z), (4, .int (zls (ownF (fun q => s (9 + q)) x y z) (fun i => (fun q => s (9 + q)) (i * 5 + 0)) i)), (5, .int (nI i))], [], MH c tr tx ty td dr s im kp at_ so sr va wy)
    refine zq_b [zq_k 9, zq_k 5, zq_il 5, zq_imul (nI (5 * i)), zq_iadd (nI (9 + (5 * i))), zq_is1 6, zq_al 0, zq_get 12 5, zq_il 6, zq_k 1, zq_iadd (nI ((9 + (5 * i)) + 1)), zq_iald (9 + (i * 5 + 1)) (s (9 + (i * 5 + 1))), zq_il 1] [zq_kchk 9, zq_kchk 5, zq_ilchk 5, zq_is .imul 1, zq_is .iadd 1, zq_is1chk 6, zq_alchk 0, zq_getchk 12 5, zq_ilchk 6, zq_kchk 1, zq_is .iadd 1, zq_is .iaload 1, zq_ilchk 1] 37 rfl (by decide +kernel) ?_
    refine ⟨(pk_mul 5 i), (nI_add 9 (5 * i)), (nI_add (9 + (5 * i)) 1), (congrArg nI (by omega)), (by omega), (by omega), rfl, ?_⟩
    show zq_G _ _ _ _ _ 37 ([(0, .ref 41), (1, .int x), (2, .int y), (3, .int z), (4, .int (zls (ownF (fun q => s (9 + q)) x y z) (fun i => (fun q => s (9 + q)) (i * 5 + 0)) i)), (5, .int (nI i)), (6, .int (nI (9 + (5 * i))))], [.int x, .int (s (9 + (i * 5 + 1)))], MH c tr tx ty td dr s im kp at_ so sr va wy)
    refine zq_if .ne 72 (¬ (s (9 + (i * 5 + 1))) = x) (by decide +kernel) (Iff.rfl) (fun c37 => ?_) (fun c37 => ?_)
    · show zq_G _ _ _ _ _ 72 ([(0, .ref 41), (1, .int x), (2, .int y), (3, .int z), (4, .int (zls (ownF (fun q => s (9 + q)) x y z) (fun i => (fun q => s (9 + q)) (i * 5 + 0)) i)), (5, .int (nI i)), (6, .int (nI (9 + (5 * i))))], [], MH c tr tx ty td dr s im kp at_ so sr va wy)
      refine zq_b [zq_k 0, zq_is1 7, zq_il 7] [zq_kchk 0, zq_is1chk 7, zq_ilchk 7] 77 rfl (by decide +kernel) ?_
      show zq_G _ _ _ _ _ 77 ([(0, .ref 41), (1, .int x), (2, .int y), (3, .int z), (4, .int (zls (ownF (fun q => s (9 + q)) x y z) (fun i => (fun q => s (9 + q)) (i * 5 + 0)) i)), (5, .int (nI i)), (6, .int (nI (9 + (5 * i)))), (7, .int 0)], [.int 0], MH c tr tx ty td dr s im kp at_ so sr va wy)
      refine zq_ifz .eq 90 (0 = 0) (by decide +kernel) (zq_ceq (a := 0) (b := 0) (by omega) (by omega)) (fun c77 => ?_) (fun c77 => absurd rfl c77)
      show zq_G _ _ _ _ _ 90 ([(0, .ref 41), (1, .int x), (2, .int y), (3, .int z), (4, .int (zls (ownF (fun q => s (9 + q)) x y z) (fun i => (fun q => s (9 + q)) (i * 5 + 0)) i)), (5, .int (nI i)), (6, .int (nI (9 + (5 * i)))), (7, .int 0)], [], MH c tr tx ty td dr s im kp at_ so sr va wy)
      refine zq_b [zq_il 4, zq_is1 4, zq_inc 5 1 (nI (i + 1)), zq_go] [zq_ilchk 4, zq_is1chk 4, zq_incchk 5 1, zq_gochk] 7 rfl (by decide +kernel) ?_
      refine ⟨nI_add i 1, ?_⟩
      show zq_G _ _ _ _ _ 7 ([(0, .ref 41), (1, .int x), (2, .int y), (3, .int z), (4, .int (zls (ownF (fun q => s (9 + q)) x y z) (fun i => (fun q => s (9 + q)) (i * 5 + 0)) i)), (5, .int (nI (i + 1))), (6, .int (nI (9 + (5 * i)))), (7, .int 0)], [], MH c tr tx ty td dr s im kp at_ so sr va wy)
      refine zq_pick [0, 1, 2, 3, 4, 5] rfl ?_
      show zq_G _ _ _ _ _ 7 ([(0, .ref 41), (1, .int x), (2, .int y), (3, .int z), (4, .int (zls (ownF (fun q => s (9 + q)) x y z) (fun i => (fun q => s (9 + q)) (i * 5 + 0)) i)), (5, .int (nI (i + 1)))], [], MH c tr tx ty td dr s im kp at_ so sr va wy)
      exact zq_eq (by rw [zls_f (f := (ownF (fun q => s (9 + q)) x y z)) (v := (fun i => (fun q => s (9 + q)) (i * 5 + 0))) (by show (decide (s (9 + (i * 5 + 4)) = 1) && decide (s (9 + (i * 5 + 2)) + z ≤ y) && decide (s (9 + (i * 5 + 1)) = x)) = false; rw [decide_eq_false c37, Bool.and_false])]) (ih7 trivial)
    · show zq_G _ _ _ _ _ 40 ([(0, .ref 41), (1, .int x), (2, .int y), (3, .int z), (4, .int (zls (ownF (fun q => s (9 + q)) x y z) (fun i => (fun q => s (9 + q)) (i * 5 + 0)) i)), (5, .int (nI i)), (6, .int (nI (9 + (5 * i))))], [], MH c tr tx ty td dr s im kp at_ so sr va wy)
      refine zq_b [zq_al 0, zq_get 12 5, zq_il 6, zq_k 4, zq_iadd (nI ((9 + (5 * i)) + 4)), zq_iald (9 + (i * 5 + 4)) (s (9 + (i * 5 + 4))), zq_k 1] [zq_alchk 0, zq_getchk 12 5, zq_ilchk 6, zq_kchk 4, zq_is .iadd 1, zq_is .iaload 1, zq_kchk 1] 50 rfl (by decide +kernel) ?_
      refine ⟨(nI_add (9 + (5 * i)) 4), (congrArg nI (by omega)), (by omega), (by omega), rfl, ?_⟩
      show zq_G _ _ _ _ _ 50 ([(0, .ref 41), (1, .int x), (2, .int y), (3, .int z), (4, .int (zls (ownF (fun q => s (9 + q)) x y z) (fun i => (fun q => s (9 + q)) (i * 5 + 0)) i)), (5, .int (nI i)), (6, .int (nI (9 + (5 * i))))], [.int 1, .int (s (9 + (i * 5 + 4)))], MH c tr tx ty td dr s im kp at_ so sr va wy)
      refine zq_if .ne 72 (¬ (s (9 + (i * 5 + 4))) = 1) (by decide +kernel) (Iff.rfl) (fun c50 => ?_) (fun c50 => ?_)
      · show zq_G _ _ _ _ _ 72 ([(0, .ref 41), (1, .int x), (2, .int y), (3, .int z), (4, .int (zls (ownF (fun q => s (9 + q)) x y z) (fun i => (fun q => s (9 + q)) (i * 5 + 0)) i)), (5, .int (nI i)), (6, .int (nI (9 + (5 * i))))], [], MH c tr tx ty td dr s im kp at_ so sr va wy)
        refine zq_b [zq_k 0, zq_is1 7, zq_il 7] [zq_kchk 0, zq_is1chk 7, zq_ilchk 7] 77 rfl (by decide +kernel) ?_
        show zq_G _ _ _ _ _ 77 ([(0, .ref 41), (1, .int x), (2, .int y), (3, .int z), (4, .int (zls (ownF (fun q => s (9 + q)) x y z) (fun i => (fun q => s (9 + q)) (i * 5 + 0)) i)), (5, .int (nI i)), (6, .int (nI (9 + (5 * i)))), (7, .int 0)], [.int 0], MH c tr tx ty td dr s im kp at_ so sr va wy)
        refine zq_ifz .eq 90 (0 = 0) (by decide +kernel) (zq_ceq (a := 0) (b := 0) (by omega) (by omega)) (fun c77 => ?_) (fun c77 => absurd rfl c77)
        show zq_G _ _ _ _ _ 90 ([(0, .ref 41), (1, .int x), (2, .int y), (3, .int z), (4, .int (zls (ownF (fun q => s (9 + q)) x y z) (fun i => (fun q => s (9 + q)) (i * 5 + 0)) i)), (5, .int (nI i)), (6, .int (nI (9 + (5 * i)))), (7, .int 0)], [], MH c tr tx ty td dr s im kp at_ so sr va wy)
        refine zq_b [zq_il 4, zq_is1 4, zq_inc 5 1 (nI (i + 1)), zq_go] [zq_ilchk 4, zq_is1chk 4, zq_incchk 5 1, zq_gochk] 7 rfl (by decide +kernel) ?_
        refine ⟨nI_add i 1, ?_⟩
        show zq_G _ _ _ _ _ 7 ([(0, .ref 41), (1, .int x), (2, .int y), (3, .int z), (4, .int (zls (ownF (fun q => s (9 + q)) x y z) (fun i => (fun q => s (9 + q)) (i * 5 + 0)) i)), (5, .int (nI (i + 1))), (6, .int (nI (9 + (5 * i)))), (7, .int 0)], [], MH c tr tx ty td dr s im kp at_ so sr va wy)
        refine zq_pick [0, 1, 2, 3, 4, 5] rfl ?_
        show zq_G _ _ _ _ _ 7 ([(0, .ref 41), (1, .int x), (2, .int y), (3, .int z), (4, .int (zls (ownF (fun q => s (9 + q)) x y z) (fun i => (fun q => s (9 + q)) (i * 5 + 0)) i)), (5, .int (nI (i + 1)))], [], MH c tr tx ty td dr s im kp at_ so sr va wy)
        exact zq_eq (by rw [zls_f (f := (ownF (fun q => s (9 + q)) x y z)) (v := (fun i => (fun q => s (9 + q)) (i * 5 + 0))) (by show (decide (s (9 + (i * 5 + 4)) = 1) && decide (s (9 + (i * 5 + 2)) + z ≤ y) && decide (s (9 + (i * 5 + 1)) = x)) = false; rw [decide_eq_false c50]; simp)]) (ih7 trivial)
      · show zq_G _ _ _ _ _ 53 ([(0, .ref 41), (1, .int x), (2, .int y), (3, .int z), (4, .int (zls (ownF (fun q => s (9 + q)) x y z) (fun i => (fun q => s (9 + q)) (i * 5 + 0)) i)), (5, .int (nI i)), (6, .int (nI (9 + (5 * i))))], [], MH c tr tx ty td dr s im kp at_ so sr va wy)
        refine zq_b [zq_al 0, zq_get 12 5, zq_il 6, zq_k 2, zq_iadd (nI ((9 + (5 * i)) + 2)), zq_iald (9 + (i * 5 + 2)) (s (9 + (i * 5 + 2))), zq_il 3, zq_iadd ((s (9 + (i * 5 + 2))) + z), zq_il 2] [zq_alchk 0, zq_getchk 12 5, zq_ilchk 6, zq_kchk 2, zq_is .iadd 1, zq_is .iaload 1, zq_ilchk 3, zq_is .iadd 1, zq_ilchk 2] 65 rfl (by decide +kernel) ?_
        refine ⟨(nI_add (9 + (5 * i)) 2), (congrArg nI (by omega)), (by omega), (by omega), rfl, rfl, ?_⟩
        show zq_G _ _ _ _ _ 65 ([(0, .ref 41), (1, .int x), (2, .int y), (3, .int z), (4, .int (zls (ownF (fun q => s (9 + q)) x y z) (fun i => (fun q => s (9 + q)) (i * 5 + 0)) i)), (5, .int (nI i)), (6, .int (nI (9 + (5 * i))))], [.int y, .int ((s (9 + (i * 5 + 2))) + z)], MH c tr tx ty td dr s im kp at_ so sr va wy)
        refine zq_if .gt 72 (y < ((s (9 + (i * 5 + 2))) + z)) (by decide +kernel) (Iff.rfl) (fun c65 => ?_) (fun c65 => ?_)
        · show zq_G _ _ _ _ _ 72 ([(0, .ref 41), (1, .int x), (2, .int y), (3, .int z), (4, .int (zls (ownF (fun q => s (9 + q)) x y z) (fun i => (fun q => s (9 + q)) (i * 5 + 0)) i)), (5, .int (nI i)), (6, .int (nI (9 + (5 * i))))], [], MH c tr tx ty td dr s im kp at_ so sr va wy)
          refine zq_b [zq_k 0, zq_is1 7, zq_il 7] [zq_kchk 0, zq_is1chk 7, zq_ilchk 7] 77 rfl (by decide +kernel) ?_
          show zq_G _ _ _ _ _ 77 ([(0, .ref 41), (1, .int x), (2, .int y), (3, .int z), (4, .int (zls (ownF (fun q => s (9 + q)) x y z) (fun i => (fun q => s (9 + q)) (i * 5 + 0)) i)), (5, .int (nI i)), (6, .int (nI (9 + (5 * i)))), (7, .int 0)], [.int 0], MH c tr tx ty td dr s im kp at_ so sr va wy)
          refine zq_ifz .eq 90 (0 = 0) (by decide +kernel) (zq_ceq (a := 0) (b := 0) (by omega) (by omega)) (fun c77 => ?_) (fun c77 => absurd rfl c77)
          show zq_G _ _ _ _ _ 90 ([(0, .ref 41), (1, .int x), (2, .int y), (3, .int z), (4, .int (zls (ownF (fun q => s (9 + q)) x y z) (fun i => (fun q => s (9 + q)) (i * 5 + 0)) i)), (5, .int (nI i)), (6, .int (nI (9 + (5 * i)))), (7, .int 0)], [], MH c tr tx ty td dr s im kp at_ so sr va wy)
          refine zq_b [zq_il 4, zq_is1 4, zq_inc 5 1 (nI (i + 1)), zq_go] [zq_ilchk 4, zq_is1chk 4, zq_incchk 5 1, zq_gochk] 7 rfl (by decide +kernel) ?_
          refine ⟨nI_add i 1, ?_⟩
          show zq_G _ _ _ _ _ 7 ([(0, .ref 41), (1, .int x), (2, .int y), (3, .int z), (4, .int (zls (ownF (fun q => s (9 + q)) x y z) (fun i => (fun q => s (9 + q)) (i * 5 + 0)) i)), (5, .int (nI (i + 1))), (6, .int (nI (9 + (5 * i)))), (7, .int 0)], [], MH c tr tx ty td dr s im kp at_ so sr va wy)
          refine zq_pick [0, 1, 2, 3, 4, 5] rfl ?_
          show zq_G _ _ _ _ _ 7 ([(0, .ref 41), (1, .int x), (2, .int y), (3, .int z), (4, .int (zls (ownF (fun q => s (9 + q)) x y z) (fun i => (fun q => s (9 + q)) (i * 5 + 0)) i)), (5, .int (nI (i + 1)))], [], MH c tr tx ty td dr s im kp at_ so sr va wy)
          exact zq_eq (by rw [zls_f (f := (ownF (fun q => s (9 + q)) x y z)) (v := (fun i => (fun q => s (9 + q)) (i * 5 + 0))) (by show (decide (s (9 + (i * 5 + 4)) = 1) && decide (s (9 + (i * 5 + 2)) + z ≤ y) && decide (s (9 + (i * 5 + 1)) = x)) = false; rw [decide_eq_false (p := s (9 + (i * 5 + 2)) + z ≤ y) (Int32.not_le.mpr c65)]; simp)]) (ih7 trivial)
        · show zq_G _ _ _ _ _ 68 ([(0, .ref 41), (1, .int x), (2, .int y), (3, .int z), (4, .int (zls (ownF (fun q => s (9 + q)) x y z) (fun i => (fun q => s (9 + q)) (i * 5 + 0)) i)), (5, .int (nI i)), (6, .int (nI (9 + (5 * i))))], [], MH c tr tx ty td dr s im kp at_ so sr va wy)
          refine zq_b [zq_k 1, zq_go, zq_is1 7, zq_il 7] [zq_kchk 1, zq_gochk, zq_is1chk 7, zq_ilchk 7] 77 rfl (by decide +kernel) ?_
          show zq_G _ _ _ _ _ 77 ([(0, .ref 41), (1, .int x), (2, .int y), (3, .int z), (4, .int (zls (ownF (fun q => s (9 + q)) x y z) (fun i => (fun q => s (9 + q)) (i * 5 + 0)) i)), (5, .int (nI i)), (6, .int (nI (9 + (5 * i)))), (7, .int 1)], [.int 1], MH c tr tx ty td dr s im kp at_ so sr va wy)
          refine zq_ifz .eq 90 (1 = 0) (by decide +kernel) (zq_ceq (a := 1) (b := 0) (by omega) (by omega)) (fun c77 => absurd c77 (by decide)) (fun c77 => ?_)
          show zq_G _ _ _ _ _ 80 ([(0, .ref 41), (1, .int x), (2, .int y), (3, .int z), (4, .int (zls (ownF (fun q => s (9 + q)) x y z) (fun i => (fun q => s (9 + q)) (i * 5 + 0)) i)), (5, .int (nI i)), (6, .int (nI (9 + (5 * i)))), (7, .int 1)], [], MH c tr tx ty td dr s im kp at_ so sr va wy)
          refine zq_b [zq_al 0, zq_get 12 5, zq_il 6, zq_iald (9 + (i * 5 + 0)) (s (9 + (i * 5 + 0))), zq_go, zq_is1 4, zq_inc 5 1 (nI (i + 1)), zq_go] [zq_alchk 0, zq_getchk 12 5, zq_ilchk 6, zq_is .iaload 1, zq_gochk, zq_is1chk 4, zq_incchk 5 1, zq_gochk] 7 rfl (by decide +kernel) ?_
          refine ⟨(congrArg nI (by omega)), (by omega), (by omega), rfl, nI_add i 1, ?_⟩
          show zq_G _ _ _ _ _ 7 ([(0, .ref 41), (1, .int x), (2, .int y), (3, .int z), (4, .int (s (9 + (i * 5 + 0)))), (5, .int (nI (i + 1))), (6, .int (nI (9 + (5 * i)))), (7, .int 1)], [], MH c tr tx ty td dr s im kp at_ so sr va wy)
          refine zq_pick [0, 1, 2, 3, 4, 5] rfl ?_
          show zq_G _ _ _ _ _ 7 ([(0, .ref 41), (1, .int x), (2, .int y), (3, .int z), (4, .int (s (9 + (i * 5 + 0)))), (5, .int (nI (i + 1)))], [], MH c tr tx ty td dr s im kp at_ so sr va wy)
          exact zq_eq (by rw [zls_t (f := (ownF (fun q => s (9 + q)) x y z)) (v := (fun i => (fun q => s (9 + q)) (i * 5 + 0))) (by show (decide (s (9 + (i * 5 + 4)) = 1) && decide (s (9 + (i * 5 + 2)) + z ≤ y) && decide (s (9 + (i * 5 + 1)) = x)) = true; rw [decide_eq_true (Decidable.not_not.mp c50), decide_eq_true (Int32.not_lt.mp c65), decide_eq_true (Decidable.not_not.mp c37)]; rfl)]) (ih7 trivial)
  · show zq_G _ _ _ _ _ 7 ([(0, .ref 41), (1, .int x), (2, .int y), (3, .int z), (4, .int (zls (ownF (fun q => s (9 + q)) x y z) (fun i => (fun q => s (9 + q)) (i * 5 + 0)) N)), (5, .int (nI N))], [], MH c tr tx ty td dr s im kp at_ so sr va wy)
    refine zq_b [zq_il 5, zq_al 0, zq_get 12 5, zq_k 2, zq_iald 2 (nI N)] [zq_ilchk 5, zq_alchk 0, zq_getchk 12 5, zq_kchk 2, zq_is .iaload 1] 15 rfl (by decide +kernel) ?_
    refine ⟨rfl, (by omega), (by omega), hs2, ?_⟩
    show zq_G _ _ _ _ _ 15 ([(0, .ref 41), (1, .int x), (2, .int y), (3, .int z), (4, .int (zls (ownF (fun q => s (9 + q)) x y z) (fun i => (fun q => s (9 + q)) (i * 5 + 0)) N)), (5, .int (nI N))], [.int (nI N), .int (nI N)], MH c tr tx ty td dr s im kp at_ so sr va wy)
    refine zq_if .ge 100 (N ≤ N) (by decide +kernel) (zq_cge (a := N) (b := N) (by omega) (by omega)) (fun c15 => ?_) (fun c15 => absurd (by omega) c15)
    show zq_G _ _ _ _ _ 100 ([(0, .ref 41), (1, .int x), (2, .int y), (3, .int z), (4, .int (zls (ownF (fun q => s (9 + q)) x y z) (fun i => (fun q => s (9 + q)) (i * 5 + 0)) N)), (5, .int (nI N))], [], MH c tr tx ty td dr s im kp at_ so sr va wy)
    refine zq_b [zq_il 4] [zq_ilchk 4] 102 rfl (by decide +kernel) ?_
    show zq_G _ _ _ _ _ 102 ([(0, .ref 41), (1, .int x), (2, .int y), (3, .int z), (4, .int (zls (ownF (fun q => s (9 + q)) x y z) (fun i => (fun q => s (9 + q)) (i * 5 + 0)) N)), (5, .int (nI N))], [.int (zls (ownF (fun q => s (9 + q)) x y z) (fun i => (fun q => s (9 + q)) (i * 5 + 0)) N)], MH c tr tx ty td dr s im kp at_ so sr va wy)
    exact zq_iret (by decide +kernel) rfl rfl rfl
set_option maxHeartbeats 4000000 in
set_option maxRecDepth 100000 in
theorem m_ways {a : Nat} (ht2 : td 2 = nI R) (hR : R ≤ 6) (hru : ∀ j, j < R → td (26 + j) = nI (10 * ga j + gv j) ∧ ga j ≤ 7 ∧ gv j ≤ 7) (ha : a ≤ 7) : zq_P l mX12_laysWays 0 [.ref 41, .int (nI a)] (MH c tr tx ty td dr s im kp at_ so sr va wy) none (MH c tr tx ty td dr s im kp at_ so sr va (lwN a ga gv R (va_cpy (fun _ => 99) wy 0 0 8) 8)) := by
  refine zq_start (by decide +kernel) rfl (Nat.le_of_ble_eq_true rfl) ?_
  show zq_G _ _ _ _ _ 0 ([(0, .ref 41), (1, .int (nI a))], [], MH c tr tx ty td dr s im kp at_ so sr va wy)
  refine zq_b [zq_k 0, zq_is1 2] [zq_kchk 0, zq_is1chk 2] 2 rfl (by decide +kernel) ?_
  show zq_G _ _ _ _ _ 2 ([(0, .ref 41), (1, .int (nI a)), (2, .int 0)], [], MH c tr tx ty td dr s im kp at_ so sr va wy)
  refine zq_eq (σ2 := ([(0, .ref 41), (1, .int (nI a)), (2, .int (nI (0 : Nat)))], [], MH c tr tx ty td dr s im kp at_ so sr va (va_cpy (fun _ => 99) wy 0 0 (0 : Nat)))) (by rw [cpy_0]; rfl) ?_
  refine zq_loop (fun i => ([(0, .ref 41), (1, .int (nI a)), (2, .int (nI i))], [], MH c tr tx ty td dr s im kp at_ so sr va (va_cpy (fun _ => 99) wy 0 0 i))) (fun i => True) (8) (0) (by omega) (trivial) (fun i hl2 hi2 hI2 ih2 => ?_) (fun hI2 => ?_)
  · show zq_G _ _ _ _ _ 2 ([(0, .ref 41), (1, .int (nI a)), (2, .int (nI i))], [], MH c tr tx ty td dr s im kp at_ so sr va (va_cpy (fun _ => 99) wy 0 0 i))
    refine zq_b [zq_il 2, zq_k 8] [zq_ilchk 2, zq_kchk 8] 5 rfl (by decide +kernel) ?_
    show zq_G _ _ _ _ _ 5 ([(0, .ref 41), (1, .int (nI a)), (2, .int (nI i))], [.int 8, .int (nI i)], MH c tr tx ty td dr s im kp at_ so sr va (va_cpy (fun _ => 99) wy 0 0 i))
    refine zq_if .ge 22 (8 ≤ i) (by decide +kernel) (zq_cge (a := i) (b := 8) (by omega) (by omega)) (fun c5 => absurd c5 (by omega)) (fun c5 => ?_)
    show zq_G _ _ _ _ _ 8 ([(0, .ref 41), (1, .int (nI a)), (2, .int (nI i))], [], MH c tr tx ty td dr s im kp at_ so sr va (va_cpy (fun _ => 99) wy 0 0 i))
    refine zq_b [zq_al 0, zq_get 12 12, zq_il 2, zq_k 99, zq_iast i, zq_inc 2 1 (nI (i + 1)), zq_go] [zq_alchk 0, zq_getchk 12 12, zq_ilchk 2, zq_kchk 99, zq_is .iastore 1, zq_incchk 2 1, zq_gochk] 2 rfl (by decide +kernel) ?_
    refine ⟨rfl, (by omega), (by omega), nI_add i 1, ?_⟩
    show zq_G _ _ _ _ _ 2 ([(0, .ref 41), (1, .int (nI a)), (2, .int (nI (i + 1)))], [], MH c tr tx ty td dr s im kp at_ so sr va (upd (va_cpy (fun _ => 99) wy 0 0 i) i 99))
    exact zq_eq (by rw [← cpy_succ (fun _ => 99) wy 0 0 i, Nat.zero_add]) (ih2 trivial)
  · show zq_G _ _ _ _ _ 2 ([(0, .ref 41), (1, .int (nI a)), (2, .int 8)], [], MH c tr tx ty td dr s im kp at_ so sr va (va_cpy (fun _ => 99) wy 0 0 8))
    refine zq_b [zq_il 2, zq_k 8] [zq_ilchk 2, zq_kchk 8] 5 rfl (by decide +kernel) ?_
    show zq_G _ _ _ _ _ 5 ([(0, .ref 41), (1, .int (nI a)), (2, .int 8)], [.int 8, .int 8], MH c tr tx ty td dr s im kp at_ so sr va (va_cpy (fun _ => 99) wy 0 0 8))
    refine zq_if .ge 22 (8 ≤ 8) (by decide +kernel) (zq_cge (a := 8) (b := 8) (by omega) (by omega)) (fun c5 => ?_) (fun c5 => absurd (by omega) c5)
    show zq_G _ _ _ _ _ 22 ([(0, .ref 41), (1, .int (nI a)), (2, .int 8)], [], MH c tr tx ty td dr s im kp at_ so sr va (va_cpy (fun _ => 99) wy 0 0 8))
    refine zq_b [zq_k 1, zq_is1 2] [zq_kchk 1, zq_is1chk 2] 24 rfl (by decide +kernel) ?_
    show zq_G _ _ _ _ _ 24 ([(0, .ref 41), (1, .int (nI a)), (2, .int 1)], [], MH c tr tx ty td dr s im kp at_ so sr va (va_cpy (fun _ => 99) wy 0 0 8))
    refine zq_eq (σ2 := ([(0, .ref 41), (1, .int (nI a)), (2, .int (nI (1 + (0 : Nat))))], [], MH c tr tx ty td dr s im kp at_ so sr va (lwN a ga gv R (va_cpy (fun _ => 99) wy 0 0 8) (0 : Nat)))) (rfl) ?_
    refine zq_loop (fun i => ([(0, .ref 41), (1, .int (nI a)), (2, .int (nI (1 + i)))], [], MH c tr tx ty td dr s im kp at_ so sr va (lwN a ga gv R (va_cpy (fun _ => 99) wy 0 0 8) i))) (fun i => True) (8) (0) (by omega) (trivial) (fun i hl24 hi24 hI24 ih24 => ?_) (fun hI24 => ?_)
    · show zq_G _ _ _ _ _ 24 ([(0, .ref 41), (1, .int (nI a)), (2, .int (nI (1 + i)))], [], MH c tr tx ty td dr s im kp at_ so sr va (lwN a ga gv R (va_cpy (fun _ => 99) wy 0 0 8) i))
      refine zq_b [zq_il 2, zq_k 9] [zq_ilchk 2, zq_kchk 9] 27 rfl (by decide +kernel) ?_
      show zq_G _ _ _ _ _ 27 ([(0, .ref 41), (1, .int (nI a)), (2, .int (nI (1 + i)))], [.int 9, .int (nI (1 + i))], MH c tr tx ty td dr s im kp at_ so sr va (lwN a ga gv R (va_cpy (fun _ => 99) wy 0 0 8) i))
      refine zq_if .ge 156 (9 ≤ (1 + i)) (by decide +kernel) (zq_cge (a := 1 + i) (b := 9) (by omega) (by omega)) (fun c27 => absurd c27 (by omega)) (fun c27 => ?_)
      show zq_G _ _ _ _ _ 30 ([(0, .ref 41), (1, .int (nI a)), (2, .int (nI (1 + i)))], [], MH c tr tx ty td dr s im kp at_ so sr va (lwN a ga gv R (va_cpy (fun _ => 99) wy 0 0 8) i))
      refine zq_b [zq_k 0, zq_is1 3] [zq_kchk 0, zq_is1chk 3] 32 rfl (by decide +kernel) ?_
      show zq_G _ _ _ _ _ 32 ([(0, .ref 41), (1, .int (nI a)), (2, .int (nI (1 + i))), (3, .int 0)], [], MH c tr tx ty td dr s im kp at_ so sr va (lwN a ga gv R (va_cpy (fun _ => 99) wy 0 0 8) i))
      refine zq_eq (σ2 := ([(0, .ref 41), (1, .int (nI a)), (2, .int (nI (1 + i))), (3, .int (nI (0 : Nat)))], [], MH c tr tx ty td dr s im kp at_ so sr va (lwK a (i + 1) ga gv (lwN a ga gv R (va_cpy (fun _ => 99) wy 0 0 8) i) (0 : Nat)))) (rfl) ?_
      refine zq_loop (fun k => ([(0, .ref 41), (1, .int (nI a)), (2, .int (nI (1 + i))), (3, .int (nI k))], [], MH c tr tx ty td dr s im kp at_ so sr va (lwK a (i + 1) ga gv (lwN a ga gv R (va_cpy (fun _ => 99) wy 0 0 8) i) k))) (fun k => True) (R) (0) (by omega) (trivial) (fun k hl32 hi32 hI32 ih32 => ?_) (fun hI32 => ?_)
      · show zq_G _ _ _ _ _ 32 ([(0, .ref 41), (1, .int (nI a)), (2, .int (nI (1 + i))), (3, .int (nI k))], [], MH c tr tx ty td dr s im kp at_ so sr va (lwK a (i + 1) ga gv (lwN a ga gv R (va_cpy (fun _ => 99) wy 0 0 8) i) k))
        have hrk := hru k hi32
        refine zq_b [zq_il 3, zq_al 0, zq_get 12 3, zq_k 2, zq_iald 2 (nI R)] [zq_ilchk 3, zq_alchk 0, zq_getchk 12 3, zq_kchk 2, zq_is .iaload 1] 39 rfl (by decide +kernel) ?_
        refine ⟨rfl, (by omega), (by omega), ht2, ?_⟩
        show zq_G _ _ _ _ _ 39 ([(0, .ref 41), (1, .int (nI a)), (2, .int (nI (1 + i))), (3, .int (nI k))], [.int (nI R), .int (nI k)], MH c tr tx ty td dr s im kp at_ so sr va (lwK a (i + 1) ga gv (lwN a ga gv R (va_cpy (fun _ => 99) wy 0 0 8) i) k))
        refine zq_if .ge 150 (R ≤ k) (by decide +kernel) (zq_cge (a := k) (b := R) (by omega) (by omega)) (fun c39 => absurd c39 (by omega)) (fun c39 => ?_)
        show zq_G _ _ _ _ _ 42 ([(0, .ref 41), (1, .int (nI a)), (2, .int (nI (1 + i))), (3, .int (nI k))], [], MH c tr tx ty td dr s im kp at_ so sr va (lwK a (i + 1) ga gv (lwN a ga gv R (va_cpy (fun _ => 99) wy 0 0 8) i) k))
        refine zq_b [zq_al 0, zq_get 12 3, zq_k 26, zq_il 3, zq_iadd (nI (26 + k)), zq_iald (26 + k) (nI (10 * ga k + gv k)), zq_k 10, zq_idiv (nI (ga k)), zq_is1 4, zq_al 0, zq_get 12 3, zq_k 26, zq_il 3, zq_iadd (nI (26 + k)), zq_iald (26 + k) (nI (10 * ga k + gv k)), zq_k 10, zq_irem (nI (gv k)), zq_is1 5, zq_il 2, zq_k 1] [zq_alchk 0, zq_getchk 12 3, zq_kchk 26, zq_ilchk 3, zq_is .iadd 1, zq_is .iaload 1, zq_kchk 10, zq_is .idiv 1, zq_is1chk 4, zq_alchk 0, zq_getchk 12 3, zq_kchk 26, zq_ilchk 3, zq_is .iadd 1, zq_is .iaload 1, zq_kchk 10, zq_is .irem 1, zq_is1chk 5, zq_ilchk 2, zq_kchk 1] 72 rfl (by decide +kernel) ?_
        refine ⟨(nI_add 26 k), rfl, (by omega), (by omega), hrk.1, (by decide), ((zq_div (a := 10 * ga k + gv k) (b := 10) (by omega) (by omega) (by omega)).trans (congrArg nI (by omega))), (nI_add 26 k), rfl, (by omega), (by omega), hrk.1, (by decide), ((zq_rem (a := 10 * ga k + gv k) (b := 10) (by omega) (by omega) (by omega)).trans (congrArg nI (by omega))), ?_⟩
        show zq_G _ _ _ _ _ 72 ([(0, .ref 41), (1, .int (nI a)), (2, .int (nI (1 + i))), (3, .int (nI k)), (4, .int (nI (ga k))), (5, .int (nI (gv k)))], [.int 1, .int (nI (1 + i))], MH c tr tx ty td dr s im kp at_ so sr va (lwK a (i + 1) ga gv (lwN a ga gv R (va_cpy (fun _ => 99) wy 0 0 8) i) k))
        refine zq_if .ne 89 (¬ (1 + i) = 1) (by decide +kernel) (zq_cne (a := 1 + i) (b := 1) (by omega) (by omega)) (fun c72 => ?_) (fun c72 => ?_)
        · show zq_G _ _ _ _ _ 89 ([(0, .ref 41), (1, .int (nI a)), (2, .int (nI (1 + i))), (3, .int (nI k)), (4, .int (nI (ga k))), (5, .int (nI (gv k)))], [], MH c tr tx ty td dr s im kp at_ so sr va (lwK a (i + 1) ga gv (lwN a ga gv R (va_cpy (fun _ => 99) wy 0 0 8) i) k))
          refine zq_b [zq_al 0, zq_get 12 12, zq_il 5, zq_iald (gv k) ((lwK a (i + 1) ga gv (lwN a ga gv R (va_cpy (fun _ => 99) wy 0 0 8) i) k) (gv k)), zq_il 2, zq_k 1, zq_isub (nI (i + 1 - 1))] [zq_alchk 0, zq_getchk 12 12, zq_ilchk 5, zq_is .iaload 1, zq_ilchk 2, zq_kchk 1, zq_is .isub 1] 99 rfl (by decide +kernel) ?_
          refine ⟨rfl, (by omega), (by omega), rfl, ((pk_sub (a := 1 + i) (b := 1) (by omega)).trans (congrArg nI (by omega))), ?_⟩
          show zq_G _ _ _ _ _ 99 ([(0, .ref 41), (1, .int (nI a)), (2, .int (nI (1 + i))), (3, .int (nI k)), (4, .int (nI (ga k))), (5, .int (nI (gv k)))], [.int (nI (i + 1 - 1)), .int ((lwK a (i + 1) ga gv (lwN a ga gv R (va_cpy (fun _ => 99) wy 0 0 8) i) k) (gv k))], MH c tr tx ty td dr s im kp at_ so sr va (lwK a (i + 1) ga gv (lwN a ga gv R (va_cpy (fun _ => 99) wy 0 0 8) i) k))
          refine zq_if .ne 106 (¬ ((lwK a (i + 1) ga gv (lwN a ga gv R (va_cpy (fun _ => 99) wy 0 0 8) i) k) (gv k)) = (nI (i + 1 - 1))) (by decide +kernel) (Iff.rfl) (fun c99 => ?_) (fun c99 => ?_)
          · show zq_G _ _ _ _ _ 106 ([(0, .ref 41), (1, .int (nI a)), (2, .int (nI (1 + i))), (3, .int (nI k)), (4, .int (nI (ga k))), (5, .int (nI (gv k)))], [], MH c tr tx ty td dr s im kp at_ so sr va (lwK a (i + 1) ga gv (lwN a ga gv R (va_cpy (fun _ => 99) wy 0 0 8) i) k))
            refine zq_b [zq_k 0, zq_is1 6, zq_al 0, zq_get 12 12, zq_il 4, zq_il 6] [zq_kchk 0, zq_is1chk 6, zq_alchk 0, zq_getchk 12 12, zq_ilchk 4, zq_ilchk 6] 117 rfl (by decide +kernel) ?_
            show zq_G _ _ _ _ _ 117 ([(0, .ref 41), (1, .int (nI a)), (2, .int (nI (1 + i))), (3, .int (nI k)), (4, .int (nI (ga k))), (5, .int (nI (gv k))), (6, .int 0)], [.int 0, .int (nI (ga k)), .ref 48], MH c tr tx ty td dr s im kp at_ so sr va (lwK a (i + 1) ga gv (lwN a ga gv R (va_cpy (fun _ => 99) wy 0 0 8) i) k))
            refine zq_ifz .eq 136 (0 = 0) (by decide +kernel) (zq_ceq (a := 0) (b := 0) (by omega) (by omega)) (fun c117 => ?_) (fun c117 => absurd rfl c117)
            show zq_G _ _ _ _ _ 136 ([(0, .ref 41), (1, .int (nI a)), (2, .int (nI (1 + i))), (3, .int (nI k)), (4, .int (nI (ga k))), (5, .int (nI (gv k))), (6, .int 0)], [.int (nI (ga k)), .ref 48], MH c tr tx ty td dr s im kp at_ so sr va (lwK a (i + 1) ga gv (lwN a ga gv R (va_cpy (fun _ => 99) wy 0 0 8) i) k))
            refine zq_b [zq_al 0, zq_get 12 12, zq_il 4, zq_iald (ga k) ((lwK a (i + 1) ga gv (lwN a ga gv R (va_cpy (fun _ => 99) wy 0 0 8) i) k) (ga k)), zq_iast (ga k), zq_inc 3 1 (nI (k + 1)), zq_go] [zq_alchk 0, zq_getchk 12 12, zq_ilchk 4, zq_is .iaload 1, zq_is .iastore 1, zq_incchk 3 1, zq_gochk] 32 rfl (by decide +kernel) ?_
            refine ⟨rfl, (by omega), (by omega), rfl, rfl, (by omega), (by omega), nI_add k 1, ?_⟩
            show zq_G _ _ _ _ _ 32 ([(0, .ref 41), (1, .int (nI a)), (2, .int (nI (1 + i))), (3, .int (nI (k + 1))), (4, .int (nI (ga k))), (5, .int (nI (gv k))), (6, .int 0)], [], MH c tr tx ty td dr s im kp at_ so sr va (upd (lwK a (i + 1) ga gv (lwN a ga gv R (va_cpy (fun _ => 99) wy 0 0 8) i) k) (ga k) ((lwK a (i + 1) ga gv (lwN a ga gv R (va_cpy (fun _ => 99) wy 0 0 8) i) k) (ga k))))
            refine zq_pick [0, 1, 2, 3] rfl ?_
            show zq_G _ _ _ _ _ 32 ([(0, .ref 41), (1, .int (nI a)), (2, .int (nI (1 + i))), (3, .int (nI (k + 1)))], [], MH c tr tx ty td dr s im kp at_ so sr va (upd (lwK a (i + 1) ga gv (lwN a ga gv R (va_cpy (fun _ => 99) wy 0 0 8) i) k) (ga k) ((lwK a (i + 1) ga gv (lwN a ga gv R (va_cpy (fun _ => 99) wy 0 0 8) i) k) (ga k))))
            exact zq_eq (by rw [show lwK a (i + 1) ga gv (lwN a ga gv R (va_cpy (fun _ => 99) wy 0 0 8) i) (k + 1) = lwS a (i + 1) ga gv (lwK a (i + 1) ga gv (lwN a ga gv R (va_cpy (fun _ => 99) wy 0 0 8) i) k) k from rfl, lwS_f (fun q => c99 (by have := q.1; rwa [if_neg (show ¬ i + 1 = 1 by omega)] at this))]) (ih32 trivial)
          · show zq_G _ _ _ _ _ 102 ([(0, .ref 41), (1, .int (nI a)), (2, .int (nI (1 + i))), (3, .int (nI k)), (4, .int (nI (ga k))), (5, .int (nI (gv k)))], [], MH c tr tx ty td dr s im kp at_ so sr va (lwK a (i + 1) ga gv (lwN a ga gv R (va_cpy (fun _ => 99) wy 0 0 8) i) k))
            refine zq_b [zq_k 1, zq_go, zq_is1 6, zq_al 0, zq_get 12 12, zq_il 4, zq_il 6] [zq_kchk 1, zq_gochk, zq_is1chk 6, zq_alchk 0, zq_getchk 12 12, zq_ilchk 4, zq_ilchk 6] 117 rfl (by decide +kernel) ?_
            show zq_G _ _ _ _ _ 117 ([(0, .ref 41), (1, .int (nI a)), (2, .int (nI (1 + i))), (3, .int (nI k)), (4, .int (nI (ga k))), (5, .int (nI (gv k))), (6, .int 1)], [.int 1, .int (nI (ga k)), .ref 48], MH c tr tx ty td dr s im kp at_ so sr va (lwK a (i + 1) ga gv (lwN a ga gv R (va_cpy (fun _ => 99) wy 0 0 8) i) k))
            refine zq_ifz .eq 136 (1 = 0) (by decide +kernel) (zq_ceq (a := 1) (b := 0) (by omega) (by omega)) (fun c117 => absurd c117 (by decide)) (fun c117 => ?_)
            show zq_G _ _ _ _ _ 120 ([(0, .ref 41), (1, .int (nI a)), (2, .int (nI (1 + i))), (3, .int (nI k)), (4, .int (nI (ga k))), (5, .int (nI (gv k))), (6, .int 1)], [.int (nI (ga k)), .ref 48], MH c tr tx ty td dr s im kp at_ so sr va (lwK a (i + 1) ga gv (lwN a ga gv R (va_cpy (fun _ => 99) wy 0 0 8) i) k))
            refine zq_b [zq_al 0, zq_get 12 12, zq_il 4, zq_iald (ga k) ((lwK a (i + 1) ga gv (lwN a ga gv R (va_cpy (fun _ => 99) wy 0 0 8) i) k) (ga k)), zq_k 99] [zq_alchk 0, zq_getchk 12 12, zq_ilchk 4, zq_is .iaload 1, zq_kchk 99] 129 rfl (by decide +kernel) ?_
            refine ⟨rfl, (by omega), (by omega), rfl, ?_⟩
            show zq_G _ _ _ _ _ 129 ([(0, .ref 41), (1, .int (nI a)), (2, .int (nI (1 + i))), (3, .int (nI k)), (4, .int (nI (ga k))), (5, .int (nI (gv k))), (6, .int 1)], [.int 99, .int ((lwK a (i + 1) ga gv (lwN a ga gv R (va_cpy (fun _ => 99) wy 0 0 8) i) k) (ga k)), .int (nI (ga k)), .ref 48], MH c tr tx ty td dr s im kp at_ so sr va (lwK a (i + 1) ga gv (lwN a ga gv R (va_cpy (fun _ => 99) wy 0 0 8) i) k))
            refine zq_if .ne 136 (¬ ((lwK a (i + 1) ga gv (lwN a ga gv R (va_cpy (fun _ => 99) wy 0 0 8) i) k) (ga k)) = 99) (by decide +kernel) (Iff.rfl) (fun c129 => ?_) (fun c129 => ?_)
            · show zq_G _ _ _ _ _ 136 ([(0, .ref 41), (1, .int (nI a)), (2, .int (nI (1 + i))), (3, .int (nI k)), (4, .int (nI (ga k))), (5, .int (nI (gv k))), (6, .int 1)], [.int (nI (ga k)), .ref 48], MH c tr tx ty td dr s im kp at_ so sr va (lwK a (i + 1) ga gv (lwN a ga gv R (va_cpy (fun _ => 99) wy 0 0 8) i) k))
              refine zq_b [zq_al 0, zq_get 12 12, zq_il 4, zq_iald (ga k) ((lwK a (i + 1) ga gv (lwN a ga gv R (va_cpy (fun _ => 99) wy 0 0 8) i) k) (ga k)), zq_iast (ga k), zq_inc 3 1 (nI (k + 1)), zq_go] [zq_alchk 0, zq_getchk 12 12, zq_ilchk 4, zq_is .iaload 1, zq_is .iastore 1, zq_incchk 3 1, zq_gochk] 32 rfl (by decide +kernel) ?_
              refine ⟨rfl, (by omega), (by omega), rfl, rfl, (by omega), (by omega), nI_add k 1, ?_⟩
              show zq_G _ _ _ _ _ 32 ([(0, .ref 41), (1, .int (nI a)), (2, .int (nI (1 + i))), (3, .int (nI (k + 1))), (4, .int (nI (ga k))), (5, .int (nI (gv k))), (6, .int 1)], [], MH c tr tx ty td dr s im kp at_ so sr va (upd (lwK a (i + 1) ga gv (lwN a ga gv R (va_cpy (fun _ => 99) wy 0 0 8) i) k) (ga k) ((lwK a (i + 1) ga gv (lwN a ga gv R (va_cpy (fun _ => 99) wy 0 0 8) i) k) (ga k))))
              refine zq_pick [0, 1, 2, 3] rfl ?_
              show zq_G _ _ _ _ _ 32 ([(0, .ref 41), (1, .int (nI a)), (2, .int (nI (1 + i))), (3, .int (nI (k + 1)))], [], MH c tr tx ty td dr s im kp at_ so sr va (upd (lwK a (i + 1) ga gv (lwN a ga gv R (va_cpy (fun _ => 99) wy 0 0 8) i) k) (ga k) ((lwK a (i + 1) ga gv (lwN a ga gv R (va_cpy (fun _ => 99) wy 0 0 8) i) k) (ga k))))
              exact zq_eq (by rw [show lwK a (i + 1) ga gv (lwN a ga gv R (va_cpy (fun _ => 99) wy 0 0 8) i) (k + 1) = lwS a (i + 1) ga gv (lwK a (i + 1) ga gv (lwN a ga gv R (va_cpy (fun _ => 99) wy 0 0 8) i) k) k from rfl, lwS_f (fun q => c129 q.2)]) (ih32 trivial)
            · show zq_G _ _ _ _ _ 132 ([(0, .ref 41), (1, .int (nI a)), (2, .int (nI (1 + i))), (3, .int (nI k)), (4, .int (nI (ga k))), (5, .int (nI (gv k))), (6, .int 1)], [.int (nI (ga k)), .ref 48], MH c tr tx ty td dr s im kp at_ so sr va (lwK a (i + 1) ga gv (lwN a ga gv R (va_cpy (fun _ => 99) wy 0 0 8) i) k))
              refine zq_b [zq_il 2, zq_go, zq_iast (ga k), zq_inc 3 1 (nI (k + 1)), zq_go] [zq_ilchk 2, zq_gochk, zq_is .iastore 1, zq_incchk 3 1, zq_gochk] 32 rfl (by decide +kernel) ?_
              refine ⟨rfl, (by omega), (by omega), nI_add k 1, ?_⟩
              show zq_G _ _ _ _ _ 32 ([(0, .ref 41), (1, .int (nI a)), (2, .int (nI (1 + i))), (3, .int (nI (k + 1))), (4, .int (nI (ga k))), (5, .int (nI (gv k))), (6, .int 1)], [], MH c tr tx ty td dr s im kp at_ so sr va (upd (lwK a (i + 1) ga gv (lwN a ga gv R (va_cpy (fun _ => 99) wy 0 0 8) i) k) (ga k) (nI (1 + i))))
              refine zq_pick [0, 1, 2, 3] rfl ?_
              show zq_G _ _ _ _ _ 32 ([(0, .ref 41), (1, .int (nI a)), (2, .int (nI (1 + i))), (3, .int (nI (k + 1)))], [], MH c tr tx ty td dr s im kp at_ so sr va (upd (lwK a (i + 1) ga gv (lwN a ga gv R (va_cpy (fun _ => 99) wy 0 0 8) i) k) (ga k) (nI (1 + i))))
              exact zq_eq (by rw [show lwK a (i + 1) ga gv (lwN a ga gv R (va_cpy (fun _ => 99) wy 0 0 8) i) (k + 1) = lwS a (i + 1) ga gv (lwK a (i + 1) ga gv (lwN a ga gv R (va_cpy (fun _ => 99) wy 0 0 8) i) k) k from rfl, lwS_t ⟨(by rw [if_neg (show ¬ i + 1 = 1 by omega)]; exact Decidable.not_not.mp c99), Decidable.not_not.mp c129⟩, show 1 + i = i + 1 by omega]) (ih32 trivial)
        · show zq_G _ _ _ _ _ 75 ([(0, .ref 41), (1, .int (nI a)), (2, .int (nI (1 + i))), (3, .int (nI k)), (4, .int (nI (ga k))), (5, .int (nI (gv k)))], [], MH c tr tx ty td dr s im kp at_ so sr va (lwK a (i + 1) ga gv (lwN a ga gv R (va_cpy (fun _ => 99) wy 0 0 8) i) k))
          refine zq_b [zq_il 5, zq_il 1] [zq_ilchk 5, zq_ilchk 1] 78 rfl (by decide +kernel) ?_
          show zq_G _ _ _ _ _ 78 ([(0, .ref 41), (1, .int (nI a)), (2, .int (nI (1 + i))), (3, .int (nI k)), (4, .int (nI (ga k))), (5, .int (nI (gv k)))], [.int (nI a), .int (nI (gv k))], MH c tr tx ty td dr s im kp at_ so sr va (lwK a (i + 1) ga gv (lwN a ga gv R (va_cpy (fun _ => 99) wy 0 0 8) i) k))
          refine zq_if .ne 85 (¬ (gv k) = a) (by decide +kernel) (zq_cne (a := gv k) (b := a) (by omega) (by omega)) (fun c78 => ?_) (fun c78 => ?_)
          · show zq_G _ _ _ _ _ 85 ([(0, .ref 41), (1, .int (nI a)), (2, .int (nI (1 + i))), (3, .int (nI k)), (4, .int (nI (ga k))), (5, .int (nI (gv k)))], [], MH c tr tx ty td dr s im kp at_ so sr va (lwK a (i + 1) ga gv (lwN a ga gv R (va_cpy (fun _ => 99) wy 0 0 8) i) k))
            refine zq_b [zq_k 0, zq_go, zq_is1 6, zq_al 0, zq_get 12 12, zq_il 4, zq_il 6] [zq_kchk 0, zq_gochk, zq_is1chk 6, zq_alchk 0, zq_getchk 12 12, zq_ilchk 4, zq_ilchk 6] 117 rfl (by decide +kernel) ?_
            show zq_G _ _ _ _ _ 117 ([(0, .ref 41), (1, .int (nI a)), (2, .int (nI (1 + i))), (3, .int (nI k)), (4, .int (nI (ga k))), (5, .int (nI (gv k))), (6, .int 0)], [.int 0, .int (nI (ga k)), .ref 48], MH c tr tx ty td dr s im kp at_ so sr va (lwK a (i + 1) ga gv (lwN a ga gv R (va_cpy (fun _ => 99) wy 0 0 8) i) k))
            refine zq_ifz .eq 136 (0 = 0) (by decide +kernel) (zq_ceq (a := 0) (b := 0) (by omega) (by omega)) (fun c117 => ?_) (fun c117 => absurd rfl c117)
            show zq_G _ _ _ _ _ 136 ([(0, .ref 41), (1, .int (nI a)), (2, .int (nI (1 + i))), (3, .int (nI k)), (4, .int (nI (ga k))), (5, .int (nI (gv k))), (6, .int 0)], [.int (nI (ga k)), .ref 48], MH c tr tx ty td dr s im kp at_ so sr va (lwK a (i + 1) ga gv (lwN a ga gv R (va_cpy (fun _ => 99) wy 0 0 8) i) k))
            refine zq_b [zq_al 0, zq_get 12 12, zq_il 4, zq_iald (ga k) ((lwK a (i + 1) ga gv (lwN a ga gv R (va_cpy (fun _ => 99) wy 0 0 8) i) k) (ga k)), zq_iast (ga k), zq_inc 3 1 (nI (k + 1)), zq_go] [zq_alchk 0, zq_getchk 12 12, zq_ilchk 4, zq_is .iaload 1, zq_is .iastore 1, zq_incchk 3 1, zq_gochk] 32 rfl (by decide +kernel) ?_
            refine ⟨rfl, (by omega), (by omega), rfl, rfl, (by omega), (by omega), nI_add k 1, ?_⟩
            show zq_G _ _ _ _ _ 32 ([(0, .ref 41), (1, .int (nI a)), (2, .int (nI (1 + i))), (3, .int (nI (k + 1))), (4, .int (nI (ga k))), (5, .int (nI (gv k))), (6, .int 0)], [], MH c tr tx ty td dr s im kp at_ so sr va (upd (lwK a (i + 1) ga gv (lwN a ga gv R (va_cpy (fun _ => 99) wy 0 0 8) i) k) (ga k) ((lwK a (i + 1) ga gv (lwN a ga gv R (va_cpy (fun _ => 99) wy 0 0 8) i) k) (ga k))))
            refine zq_pick [0, 1, 2, 3] rfl ?_
            show zq_G _ _ _ _ _ 32 ([(0, .ref 41), (1, .int (nI a)), (2, .int (nI (1 + i))), (3, .int (nI (k + 1)))], [], MH c tr tx ty td dr s im kp at_ so sr va (upd (lwK a (i + 1) ga gv (lwN a ga gv R (va_cpy (fun _ => 99) wy 0 0 8) i) k) (ga k) ((lwK a (i + 1) ga gv (lwN a ga gv R (va_cpy (fun _ => 99) wy 0 0 8) i) k) (ga k))))
            exact zq_eq (by rw [show lwK a (i + 1) ga gv (lwN a ga gv R (va_cpy (fun _ => 99) wy 0 0 8) i) (k + 1) = lwS a (i + 1) ga gv (lwK a (i + 1) ga gv (lwN a ga gv R (va_cpy (fun _ => 99) wy 0 0 8) i) k) k from rfl, lwS_f (fun q => c78 (by have := q.1; rwa [if_pos (show i + 1 = 1 by omega)] at this))]) (ih32 trivial)
          · show zq_G _ _ _ _ _ 81 ([(0, .ref 41), (1, .int (nI a)), (2, .int (nI (1 + i))), (3, .int (nI k)), (4, .int (nI (ga k))), (5, .int (nI (gv k)))], [], MH c tr tx ty td dr s im kp at_ so sr va (lwK a (i + 1) ga gv (lwN a ga gv R (va_cpy (fun _ => 99) wy 0 0 8) i) k))
            refine zq_b [zq_k 1, zq_go, zq_is1 6, zq_al 0, zq_get 12 12, zq_il 4, zq_il 6] [zq_kchk 1, zq_gochk, zq_is1chk 6, zq_alchk 0, zq_getchk 12 12, zq_ilchk 4, zq_ilchk 6] 117 rfl (by decide +kernel) ?_
            show zq_G _ _ _ _ _ 117 ([(0, .ref 41), (1, .int (nI a)), (2, .int (nI (1 + i))), (3, .int (nI k)), (4, .int (nI (ga k))), (5, .int (nI (gv k))), (6, .int 1)], [.int 1, .int (nI (ga k)), .ref 48], MH c tr tx ty td dr s im kp at_ so sr va (lwK a (i + 1) ga gv (lwN a ga gv R (va_cpy (fun _ => 99) wy 0 0 8) i) k))
            refine zq_ifz .eq 136 (1 = 0) (by decide +kernel) (zq_ceq (a := 1) (b := 0) (by omega) (by omega)) (fun c117 => absurd c117 (by decide)) (fun c117 => ?_)
            show zq_G _ _ _ _ _ 120 ([(0, .ref 41), (1, .int (nI a)), (2, .int (nI (1 + i))), (3, .int (nI k)), (4, .int (nI (ga k))), (5, .int (nI (gv k))), (6, .int 1)], [.int (nI (ga k)), .ref 48], MH c tr tx ty td dr s im kp at_ so sr va (lwK a (i + 1) ga gv (lwN a ga gv R (va_cpy (fun _ => 99) wy 0 0 8) i) k))
            refine zq_b [zq_al 0, zq_get 12 12, zq_il 4, zq_iald (ga k) ((lwK a (i + 1) ga gv (lwN a ga gv R (va_cpy (fun _ => 99) wy 0 0 8) i) k) (ga k)), zq_k 99] [zq_alchk 0, zq_getchk 12 12, zq_ilchk 4, zq_is .iaload 1, zq_kchk 99] 129 rfl (by decide +kernel) ?_
            refine ⟨rfl, (by omega), (by omega), rfl, ?_⟩
            show zq_G _ _ _ _ _ 129 ([(0, .ref 41), (1, .int (nI a)), (2, .int (nI (1 + i))), (3, .int (nI k)), (4, .int (nI (ga k))), (5, .int (nI (gv k))), (6, .int 1)], [.int 99, .int ((lwK a (i + 1) ga gv (lwN a ga gv R (va_cpy (fun _ => 99) wy 0 0 8) i) k) (ga k)), .int (nI (ga k)), .ref 48], MH c tr tx ty td dr s im kp at_ so sr va (lwK a (i + 1) ga gv (lwN a ga gv R (va_cpy (fun _ => 99) wy 0 0 8) i) k))
            refine zq_if .ne 136 (¬ ((lwK a (i + 1) ga gv (lwN a ga gv R (va_cpy (fun _ => 99) wy 0 0 8) i) k) (ga k)) = 99) (by decide +kernel) (Iff.rfl) (fun c129 => ?_) (fun c129 => ?_)
            · show zq_G _ _ _ _ _ 136 ([(0, .ref 41), (1, .int (nI a)), (2, .int (nI (1 + i))), (3, .int (nI k)), (4, .int (nI (ga k))), (5, .int (nI (gv k))), (6, .int 1)], [.int (nI (ga k)), .ref 48], MH c tr tx ty td dr s im kp at_ so sr va (lwK a (i + 1) ga gv (lwN a ga gv R (va_cpy (fun _ => 99) wy 0 0 8) i) k))
              refine zq_b [zq_al 0, zq_get 12 12, zq_il 4, zq_iald (ga k) ((lwK a (i + 1) ga gv (lwN a ga gv R (va_cpy (fun _ => 99) wy 0 0 8) i) k) (ga k)), zq_iast (ga k), zq_inc 3 1 (nI (k + 1)), zq_go] [zq_alchk 0, zq_getchk 12 12, zq_ilchk 4, zq_is .iaload 1, zq_is .iastore 1, zq_incchk 3 1, zq_gochk] 32 rfl (by decide +kernel) ?_
              refine ⟨rfl, (by omega), (by omega), rfl, rfl, (by omega), (by omega), nI_add k 1, ?_⟩
              show zq_G _ _ _ _ _ 32 ([(0, .ref 41), (1, .int (nI a)), (2, .int (nI (1 + i))), (3, .int (nI (k + 1))), (4, .int (nI (ga k))), (5, .int (nI (gv k))), (6, .int 1)], [], MH c tr tx ty td dr s im kp at_ so sr va (upd (lwK a (i + 1) ga gv (lwN a ga gv R (va_cpy (fun _ => 99) wy 0 0 8) i) k) (ga k) ((lwK a (i + 1) ga gv (lwN a ga gv R (va_cpy (fun _ => 99) wy 0 0 8) i) k) (ga k))))
              refine zq_pick [0, 1, 2, 3] rfl ?_
              show zq_G _ _ _ _ _ 32 ([(0, .ref 41), (1, .int (nI a)), (2, .int (nI (1 + i))), (3, .int (nI (k + 1)))], [], MH c tr tx ty td dr s im kp at_ so sr va (upd (lwK a (i + 1) ga gv (lwN a ga gv R (va_cpy (fun _ => 99) wy 0 0 8) i) k) (ga k) ((lwK a (i + 1) ga gv (lwN a ga gv R (va_cpy (fun _ => 99) wy 0 0 8) i) k) (ga k))))
              exact zq_eq (by rw [show lwK a (i + 1) ga gv (lwN a ga gv R (va_cpy (fun _ => 99) wy 0 0 8) i) (k + 1) = lwS a (i + 1) ga gv (lwK a (i + 1) ga gv (lwN a ga gv R (va_cpy (fun _ => 99) wy 0 0 8) i) k) k from rfl, lwS_f (fun q => c129 q.2)]) (ih32 trivial)
            · show zq_G _ _ _ _ _ 132 ([(0, .ref 41), (1, .int (nI a)), (2, .int (nI (1 + i))), (3, .int (nI k)), (4, .int (nI (ga k))), (5, .int (nI (gv k))), (6, .int 1)], [.int (nI (ga k)), .ref 48], MH c tr tx ty td dr s im kp at_ so sr va (lwK a (i + 1) ga gv (lwN a ga gv R (va_cpy (fun _ => 99) wy 0 0 8) i) k))
              refine zq_b [zq_il 2, zq_go, zq_iast (ga k), zq_inc 3 1 (nI (k + 1)), zq_go] [zq_ilchk 2, zq_gochk, zq_is .iastore 1, zq_incchk 3 1, zq_gochk] 32 rfl (by decide +kernel) ?_
              refine ⟨rfl, (by omega), (by omega), nI_add k 1, ?_⟩
              show zq_G _ _ _ _ _ 32 ([(0, .ref 41), (1, .int (nI a)), (2, .int (nI (1 + i))), (3, .int (nI (k + 1))), (4, .int (nI (ga k))), (5, .int (nI (gv k))), (6, .int 1)], [], MH c tr tx ty td dr s im kp at_ so sr va (upd (lwK a (i + 1) ga gv (lwN a ga gv R (va_cpy (fun _ => 99) wy 0 0 8) i) k) (ga k) (nI (1 + i))))
              refine zq_pick [0, 1, 2, 3] rfl ?_
              show zq_G _ _ _ _ _ 32 ([(0, .ref 41), (1, .int (nI a)), (2, .int (nI (1 + i))), (3, .int (nI (k + 1)))], [], MH c tr tx ty td dr s im kp at_ so sr va (upd (lwK a (i + 1) ga gv (lwN a ga gv R (va_cpy (fun _ => 99) wy 0 0 8) i) k) (ga k) (nI (1 + i))))
              exact zq_eq (by rw [show lwK a (i + 1) ga gv (lwN a ga gv R (va_cpy (fun _ => 99) wy 0 0 8) i) (k + 1) = lwS a (i + 1) ga gv (lwK a (i + 1) ga gv (lwN a ga gv R (va_cpy (fun _ => 99) wy 0 0 8) i) k) k from rfl, lwS_t ⟨(by rw [if_pos (show i + 1 = 1 by omega)]; exact Decidable.not_not.mp c78), Decidable.not_not.mp c129⟩, show 1 + i = i + 1 by omega]) (ih32 trivial)
      · show zq_G _ _ _ _ _ 32 ([(0, .ref 41), (1, .int (nI a)), (2, .int (nI (1 + i))), (3, .int (nI R))], [], MH c tr tx ty td dr s im kp at_ so sr va (lwK a (i + 1) ga gv (lwN a ga gv R (va_cpy (fun _ => 99) wy 0 0 8) i) R))
        refine zq_b [zq_il 3, zq_al 0, zq_get 12 3, zq_k 2, zq_iald 2 (nI R)] [zq_ilchk 3, zq_alchk 0, zq_getchk 12 3, zq_kchk 2, zq_is .iaload 1] 39 rfl (by decide +kernel) ?_
        refine ⟨rfl, (by omega), (by omega), ht2, ?_⟩
        show zq_G _ _ _ _ _ 39 ([(0, .ref 41), (1, .int (nI a)), (2, .int (nI (1 + i))), (3, .int (nI R))], [.int (nI R), .int (nI R)], MH c tr tx ty td dr s im kp at_ so sr va (lwK a (i + 1) ga gv (lwN a ga gv R (va_cpy (fun _ => 99) wy 0 0 8) i) R))
        refine zq_if .ge 150 (R ≤ R) (by decide +kernel) (zq_cge (a := R) (b := R) (by omega) (by omega)) (fun c39 => ?_) (fun c39 => absurd (by omega) c39)
        show zq_G _ _ _ _ _ 150 ([(0, .ref 41), (1, .int (nI a)), (2, .int (nI (1 + i))), (3, .int (nI R))], [], MH c tr tx ty td dr s im kp at_ so sr va (lwK a (i + 1) ga gv (lwN a ga gv R (va_cpy (fun _ => 99) wy 0 0 8) i) R))
        refine zq_b [zq_inc 2 1 (nI (1 + i + 1)), zq_go] [zq_incchk 2 1, zq_gochk] 24 rfl (by decide +kernel) ?_
        refine ⟨nI_add (1 + i) 1, ?_⟩
        show zq_G _ _ _ _ _ 24 ([(0, .ref 41), (1, .int (nI a)), (2, .int (nI (1 + i + 1))), (3, .int (nI R))], [], MH c tr tx ty td dr s im kp at_ so sr va (lwK a (i + 1) ga gv (lwN a ga gv R (va_cpy (fun _ => 99) wy 0 0 8) i) R))
        refine zq_pick [0, 1, 2] rfl ?_
        show zq_G _ _ _ _ _ 24 ([(0, .ref 41), (1, .int (nI a)), (2, .int (nI (1 + i + 1)))], [], MH c tr tx ty td dr s im kp at_ so sr va (lwK a (i + 1) ga gv (lwN a ga gv R (va_cpy (fun _ => 99) wy 0 0 8) i) R))
        exact ih24 trivial
    · show zq_G _ _ _ _ _ 24 ([(0, .ref 41), (1, .int (nI a)), (2, .int (nI (1 + 8)))], [], MH c tr tx ty td dr s im kp at_ so sr va (lwN a ga gv R (va_cpy (fun _ => 99) wy 0 0 8) 8))
      refine zq_b [zq_il 2, zq_k 9] [zq_ilchk 2, zq_kchk 9] 27 rfl (by decide +kernel) ?_
      show zq_G _ _ _ _ _ 27 ([(0, .ref 41), (1, .int (nI a)), (2, .int (nI (1 + 8)))], [.int 9, .int (nI (1 + 8))], MH c tr tx ty td dr s im kp at_ so sr va (lwN a ga gv R (va_cpy (fun _ => 99) wy 0 0 8) 8))
      refine zq_if .ge 156 (9 ≤ (1 + 8)) (by decide +kernel) (zq_cge (a := 1 + 8) (b := 9) (by omega) (by omega)) (fun c27 => ?_) (fun c27 => absurd (by omega) c27)
      show zq_G _ _ _ _ _ 156 ([(0, .ref 41), (1, .int (nI a)), (2, .int (nI (1 + 8)))], [], MH c tr tx ty td dr s im kp at_ so sr va (lwN a ga gv R (va_cpy (fun _ => 99) wy 0 0 8) 8))
      exact zq_vret (by decide +kernel) rfl rfl rfl
set_option maxHeartbeats 4000000 in
set_option maxRecDepth 100000 in
theorem m_holderBy {a : Nat} {y : Int32} {z : Int32} (ht2 : td 2 = nI R) (hs2 : s 2 = nI N) (hR : R ≤ 6) (hN : N ≤ 12) (hru : ∀ j, j < R → td (26 + j) = nI (10 * ga j + gv j) ∧ ga j ≤ 7 ∧ gv j ≤ 7) (ha : a ≤ 7) : zq_P l mX12_holderBy 1 [.ref 41, .int (nI a), .int y, .int z] (MH c tr tx ty td dr s im kp at_ so sr va wy) (some (.int (zmh (lwA a ga gv R) (fun a => zown (fun q => s (9 + q)) N (nI a) y z) a))) (MH c tr tx ty td dr s im kp at_ so sr va (wyH a ga gv R (zown (fun q => s (9 + q)) N (nI a) y z) wy)) := by
  refine zq_start (by decide +kernel) rfl (Nat.le_of_ble_eq_true rfl) ?_
  show zq_G _ _ _ _ _ 0 ([(0, .ref 41), (1, .int (nI a)), (2, .int y), (3, .int z)], [], MH c tr tx ty td dr s im kp at_ so sr va wy)
  have hr7 : ∀ j, j < R → ga j ≤ 7 ∧ gv j ≤ 7 := fun j hj => (hru j hj).2
  refine zq_b [zq_al 0, zq_il 1, zq_il 2, zq_il 3] [zq_alchk 0, zq_ilchk 1, zq_ilchk 2, zq_ilchk 3] 4 rfl (by decide +kernel) ?_
  show zq_G _ _ _ _ _ 4 ([(0, .ref 41), (1, .int (nI a)), (2, .int y), (3, .int z)], [.int z, .int y, .int (nI a), .ref 41], MH c tr tx ty td dr s im kp at_ so sr va wy)
  refine zq_callV (av := [.int (nI a), .int y, .int z]) (rest := []) (by decide +kernel) k12_116 (m_own (x := (nI a)) (y := y) (z := z) hs2 hN) rfl rfl rfl rfl ?_
  show zq_G _ _ _ _ _ 7 ([(0, .ref 41), (1, .int (nI a)), (2, .int y), (3, .int z)], [.int (zown (fun q => s (9 + q)) N (nI a) y z)], MH c tr tx ty td dr s im kp at_ so sr va wy)
  refine zq_b [zq_is1 4, zq_il 4, zq_k (-9)] [zq_is1chk 4, zq_ilchk 4, zq_kchk (-9)] 13 rfl (by decide +kernel) ?_
  show zq_G _ _ _ _ _ 13 ([(0, .ref 41), (1, .int (nI a)), (2, .int y), (3, .int z), (4, .int (zown (fun q => s (9 + q)) N (nI a) y z))], [.int (-9), .int (zown (fun q => s (9 + q)) N (nI a) y z)], MH c tr tx ty td dr s im kp at_ so sr va wy)
  refine zq_if .eq 19 ((zown (fun q => s (9 + q)) N (nI a) y z) = (-9)) (by decide +kernel) (Iff.rfl) (fun c13 => ?_) (fun c13 => ?_)
  · show zq_G _ _ _ _ _ 19 ([(0, .ref 41), (1, .int (nI a)), (2, .int y), (3, .int z), (4, .int (zown (fun q => s (9 + q)) N (nI a) y z))], [], MH c tr tx ty td dr s im kp at_ so sr va wy)
    refine zq_b [zq_al 0, zq_il 1] [zq_alchk 0, zq_ilchk 1] 21 rfl (by decide +kernel) ?_
    show zq_G _ _ _ _ _ 21 ([(0, .ref 41), (1, .int (nI a)), (2, .int y), (3, .int z), (4, .int (zown (fun q => s (9 + q)) N (nI a) y z))], [.int (nI a), .ref 41], MH c tr tx ty td dr s im kp at_ so sr va wy)
    refine zq_callV (av := [.int (nI a)]) (rest := []) (by decide +kernel) k12_120 (m_ways (a := a) ht2 hR hru (by omega)) rfl rfl rfl rfl ?_
    show zq_G _ _ _ _ _ 24 ([(0, .ref 41), (1, .int (nI a)), (2, .int y), (3, .int z), (4, .int (zown (fun q => s (9 + q)) N (nI a) y z))], [], MH c tr tx ty td dr s im kp at_ so sr va (lwN a ga gv R (va_cpy (fun _ => 99) wy 0 0 8) 8))
    refine zq_b [zq_k 99, zq_is1 5, zq_k 0, zq_is1 6] [zq_kchk 99, zq_is1chk 5, zq_kchk 0, zq_is1chk 6] 31 rfl (by decide +kernel) ?_
    show zq_G _ _ _ _ _ 31 ([(0, .ref 41), (1, .int (nI a)), (2, .int y), (3, .int z), (4, .int (zown (fun q => s (9 + q)) N (nI a) y z)), (5, .int 99), (6, .int 0)], [], MH c tr tx ty td dr s im kp at_ so sr va (lwN a ga gv R (va_cpy (fun _ => 99) wy 0 0 8) 8))
    refine zq_eq (σ2 := ([(0, .ref 41), (1, .int (nI a)), (2, .int y), (3, .int z), (4, .int ((zfw (lwA a ga gv R) (fun a => zown (fun q => s (9 + q)) N (nI a) y z) (0 : Nat)).2)), (5, .int ((zfw (lwA a ga gv R) (fun a => zown (fun q => s (9 + q)) N (nI a) y z) (0 : Nat)).1)), (6, .int (nI (0 : Nat)))], [], MH c tr tx ty td dr s im kp at_ so sr va (lwN a ga gv R (va_cpy (fun _ => 99) wy 0 0 8) 8))) (by rw [c13]; rfl) ?_
    refine zq_loop (fun i => ([(0, .ref 41), (1, .int (nI a)), (2, .int y), (3, .int z), (4, .int ((zfw (lwA a ga gv R) (fun a => zown (fun q => s (9 + q)) N (nI a) y z) i).2)), (5, .int ((zfw (lwA a ga gv R) (fun a => zown (fun q => s (9 + q)) N (nI a) y z) i).1)), (6, .int (nI i))], [], MH c tr tx ty td dr s im kp at_ so sr va (lwN a ga gv R (va_cpy (fun _ => 99) wy 0 0 8) 8))) (fun i => True) (8) (0) (by omega) (trivial) (fun i hl31 hi31 hI31 ih31 => ?_) (fun hI31 => ?_)
    · show zq_G _ _ _ _ _ 31 ([(0, .ref 41), (1, .int (nI a)), (2, .int y), (3, .int z), (4, .int ((zfw (lwA a ga gv R) (fun a => zown (fun q => s (9 + q)) N (nI a) y z) i).2)), (5, .int ((zfw (lwA a ga gv R) (fun a => zown (fun q => s (9 + q)) N (nI a) y z) i).1)), (6, .int (nI i))], [], MH c tr tx ty td dr s im kp at_ so sr va (lwN a ga gv R (va_cpy (fun _ => 99) wy 0 0 8) 8))
      refine zq_b [zq_il 6, zq_k 8] [zq_ilchk 6, zq_kchk 8] 35 rfl (by decide +kernel) ?_
      show zq_G _ _ _ _ _ 35 ([(0, .ref 41), (1, .int (nI a)), (2, .int y), (3, .int z), (4, .int ((zfw (lwA a ga gv R) (fun a => zown (fun q => s (9 + q)) N (nI a) y z) i).2)), (5, .int ((zfw (lwA a ga gv R) (fun a => zown (fun q => s (9 + q)) N (nI a) y z) i).1)), (6, .int (nI i))], [.int 8, .int (nI i)], MH c tr tx ty td dr s im kp at_ so sr va (lwN a ga gv R (va_cpy (fun _ => 99) wy 0 0 8) 8))
      refine zq_if .ge 86 (8 ≤ i) (by decide +kernel) (zq_cge (a := i) (b := 8) (by omega) (by omega)) (fun c35 => absurd c35 (by omega)) (fun c35 => ?_)
      show zq_G _ _ _ _ _ 38 ([(0, .ref 41), (1, .int (nI a)), (2, .int y), (3, .int z), (4, .int ((zfw (lwA a ga gv R) (fun a => zown (fun q => s (9 + q)) N (nI a) y z) i).2)), (5, .int ((zfw (lwA a ga gv R) (fun a => zown (fun q => s (9 + q)) N (nI a) y z) i).1)), (6, .int (nI i))], [], MH c tr tx ty td dr s im kp at_ so sr va (lwN a ga gv R (va_cpy (fun _ => 99) wy 0 0 8) 8))
      refine zq_b [zq_al 0, zq_il 6, zq_il 2, zq_il 3] [zq_alchk 0, zq_ilchk 6, zq_ilchk 2, zq_ilchk 3] 43 rfl (by decide +kernel) ?_
      show zq_G _ _ _ _ _ 43 ([(0, .ref 41), (1, .int (nI a)), (2, .int y), (3, .int z), (4, .int ((zfw (lwA a ga gv R) (fun a => zown (fun q => s (9 + q)) N (nI a) y z) i).2)), (5, .int ((zfw (lwA a ga gv R) (fun a => zown (fun q => s (9 + q)) N (nI a) y z) i).1)), (6, .int (nI i))], [.int z, .int y, .int (nI i), .ref 41], MH c tr tx ty td dr s im kp at_ so sr va (lwN a ga gv R (va_cpy (fun _ => 99) wy 0 0 8) 8))
      refine zq_callV (av := [.int (nI i), .int y, .int z]) (rest := []) (by decide +kernel) k12_116 (m_own (x := (nI i)) (y := y) (z := z) hs2 hN) rfl rfl rfl rfl ?_
      show zq_G _ _ _ _ _ 46 ([(0, .ref 41), (1, .int (nI a)), (2, .int y), (3, .int z), (4, .int ((zfw (lwA a ga gv R) (fun a => zown (fun q => s (9 + q)) N (nI a) y z) i).2)), (5, .int ((zfw (lwA a ga gv R) (fun a => zown (fun q => s (9 + q)) N (nI a) y z) i).1)), (6, .int (nI i))], [.int (zown (fun q => s (9 + q)) N (nI i) y z)], MH c tr tx ty td dr s im kp at_ so sr va (lwN a ga gv R (va_cpy (fun _ => 99) wy 0 0 8) 8))
      refine zq_b [zq_is1 7, zq_il 7, zq_k (-9)] [zq_is1chk 7, zq_ilchk 7, zq_kchk (-9)] 52 rfl (by decide +kernel) ?_
      show zq_G _ _ _ _ _ 52 ([(0, .ref 41), (1, .int (nI a)), (2, .int y), (3, .int z), (4, .int ((zfw (lwA a ga gv R) (fun a => zown (fun q => s (9 + q)) N (nI a) y z) i).2)), (5, .int ((zfw (lwA a ga gv R) (fun a => zown (fun q => s (9 + q)) N (nI a) y z) i).1)), (6, .int (nI i)), (7, .int (zown (fun q => s (9 + q)) N (nI i) y z))], [.int (-9), .int (zown (fun q => s (9 + q)) N (nI i) y z)], MH c tr tx ty td dr s im kp at_ so sr va (lwN a ga gv R (va_cpy (fun _ => 99) wy 0 0 8) 8))
      refine zq_if .eq 80 ((zown (fun q => s (9 + q)) N (nI i) y z) = (-9)) (by decide +kernel) (Iff.rfl) (fun c52 => ?_) (fun c52 => ?_)
      · show zq_G _ _ _ _ _ 80 ([(0, .ref 41), (1, .int (nI a)), (2, .int y), (3, .int z), (4, .int ((zfw (lwA a ga gv R) (fun a => zown (fun q => s (9 + q)) N (nI a) y z) i).2)), (5, .int ((zfw (lwA a ga gv R) (fun a => zown (fun q => s (9 + q)) N (nI a) y z) i).1)), (6, .int (nI i)), (7, .int (zown (fun q => s (9 + q)) N (nI i) y z))], [], MH c tr tx ty td dr s im kp at_ so sr va (lwN a ga gv R (va_cpy (fun _ => 99) wy 0 0 8) 8))
        refine zq_b [zq_inc 6 1 (nI (i + 1)), zq_go] [zq_incchk 6 1, zq_gochk] 31 rfl (by decide +kernel) ?_
        refine ⟨nI_add i 1, ?_⟩
        show zq_G _ _ _ _ _ 31 ([(0, .ref 41), (1, .int (nI a)), (2, .int y), (3, .int z), (4, .int ((zfw (lwA a ga gv R) (fun a => zown (fun q => s (9 + q)) N (nI a) y z) i).2)), (5, .int ((zfw (lwA a ga gv R) (fun a => zown (fun q => s (9 + q)) N (nI a) y z) i).1)), (6, .int (nI (i + 1))), (7, .int (zown (fun q => s (9 + q)) N (nI i) y z))], [], MH c tr tx ty td dr s im kp at_ so sr va (lwN a ga gv R (va_cpy (fun _ => 99) wy 0 0 8) 8))
        refine zq_pick [0, 1, 2, 3, 4, 5, 6] rfl ?_
        show zq_G _ _ _ _ _ 31 ([(0, .ref 41), (1, .int (nI a)), (2, .int y), (3, .int z), (4, .int ((zfw (lwA a ga gv R) (fun a => zown (fun q => s (9 + q)) N (nI a) y z) i).2)), (5, .int ((zfw (lwA a ga gv R) (fun a => zown (fun q => s (9 + q)) N (nI a) y z) i).1)), (6, .int (nI (i + 1)))], [], MH c tr tx ty td dr s im kp at_ so sr va (lwN a ga gv R (va_cpy (fun _ => 99) wy 0 0 8) 8))
        exact zq_eq (by rw [show zfw (lwA a ga gv R) (fun a => zown (fun q => s (9 + q)) N (nI a) y z) (i + 1) = zfw (lwA a ga gv R) (fun a => zown (fun q => s (9 + q)) N (nI a) y z) i from by rw [zfw, if_neg (fun q => q.1 c52)]]) (ih31 trivial)
      · show zq_G _ _ _ _ _ 55 ([(0, .ref 41), (1, .int (nI a)), (2, .int y), (3, .int z), (4, .int ((zfw (lwA a ga gv R) (fun a => zown (fun q => s (9 + q)) N (nI a) y z) i).2)), (5, .int ((zfw (lwA a ga gv R) (fun a => zown (fun q => s (9 + q)) N (nI a) y z) i).1)), (6, .int (nI i)), (7, .int (zown (fun q => s (9 + q)) N (nI i) y z))], [], MH c tr tx ty td dr s im kp at_ so sr va (lwN a ga gv R (va_cpy (fun _ => 99) wy 0 0 8) 8))
        refine zq_b [zq_al 0, zq_get 12 12, zq_il 6, zq_iald i (lwA a ga gv R i), zq_il 5] [zq_alchk 0, zq_getchk 12 12, zq_ilchk 6, zq_is .iaload 1, zq_ilchk 5] 64 rfl (by decide +kernel) ?_
        refine ⟨rfl, (by omega), (by omega), (lwA_eq wy hr7 (by omega)), ?_⟩
        show zq_G _ _ _ _ _ 64 ([(0, .ref 41), (1, .int (nI a)), (2, .int y), (3, .int z), (4, .int ((zfw (lwA a ga gv R) (fun a => zown (fun q => s (9 + q)) N (nI a) y z) i).2)), (5, .int ((zfw (lwA a ga gv R) (fun a => zown (fun q => s (9 + q)) N (nI a) y z) i).1)), (6, .int (nI i)), (7, .int (zown (fun q => s (9 + q)) N (nI i) y z))], [.int ((zfw (lwA a ga gv R) (fun a => zown (fun q => s (9 + q)) N (nI a) y z) i).1), .int (lwA a ga gv R i)], MH c tr tx ty td dr s im kp at_ so sr va (lwN a ga gv R (va_cpy (fun _ => 99) wy 0 0 8) 8))
        refine zq_if .ge 80 (((zfw (lwA a ga gv R) (fun a => zown (fun q => s (9 + q)) N (nI a) y z) i).1) ≤ (lwA a ga gv R i)) (by decide +kernel) (Iff.rfl) (fun c64 => ?_) (fun c64 => ?_)
        · show zq_G _ _ _ _ _ 80 ([(0, .ref 41), (1, .int (nI a)), (2, .int y), (3, .int z), (4, .int ((zfw (lwA a ga gv R) (fun a => zown (fun q => s (9 + q)) N (nI a) y z) i).2)), (5, .int ((zfw (lwA a ga gv R) (fun a => zown (fun q => s (9 + q)) N (nI a) y z) i).1)), (6, .int (nI i)), (7, .int (zown (fun q => s (9 + q)) N (nI i) y z))], [], MH c tr tx ty td dr s im kp at_ so sr va (lwN a ga gv R (va_cpy (fun _ => 99) wy 0 0 8) 8))
          refine zq_b [zq_inc 6 1 (nI (i + 1)), zq_go] [zq_incchk 6 1, zq_gochk] 31 rfl (by decide +kernel) ?_
          refine ⟨nI_add i 1, ?_⟩
          show zq_G _ _ _ _ _ 31 ([(0, .ref 41), (1, .int (nI a)), (2, .int y), (3, .int z), (4, .int ((zfw (lwA a ga gv R) (fun a => zown (fun q => s (9 + q)) N (nI a) y z) i).2)), (5, .int ((zfw (lwA a ga gv R) (fun a => zown (fun q => s (9 + q)) N (nI a) y z) i).1)), (6, .int (nI (i + 1))), (7, .int (zown (fun q => s (9 + q)) N (nI i) y z))], [], MH c tr tx ty td dr s im kp at_ so sr va (lwN a ga gv R (va_cpy (fun _ => 99) wy 0 0 8) 8))
          refine zq_pick [0, 1, 2, 3, 4, 5, 6] rfl ?_
          show zq_G _ _ _ _ _ 31 ([(0, .ref 41), (1, .int (nI a)), (2, .int y), (3, .int z), (4, .int ((zfw (lwA a ga gv R) (fun a => zown (fun q => s (9 + q)) N (nI a) y z) i).2)), (5, .int ((zfw (lwA a ga gv R) (fun a => zown (fun q => s (9 + q)) N (nI a) y z) i).1)), (6, .int (nI (i + 1)))], [], MH c tr tx ty td dr s im kp at_ so sr va (lwN a ga gv R (va_cpy (fun _ => 99) wy 0 0 8) 8))
          exact zq_eq (by rw [show zfw (lwA a ga gv R) (fun a => zown (fun q => s (9 + q)) N (nI a) y z) (i + 1) = zfw (lwA a ga gv R) (fun a => zown (fun q => s (9 + q)) N (nI a) y z) i from by rw [zfw, if_neg (fun q => absurd (Int32.not_le.mpr q.2) (fun z => z c64))]]) (ih31 trivial)
        · show zq_G _ _ _ _ _ 67 ([(0, .ref 41), (1, .int (nI a)), (2, .int y), (3, .int z), (4, .int ((zfw (lwA a ga gv R) (fun a => zown (fun q => s (9 + q)) N (nI a) y z) i).2)), (5, .int ((zfw (lwA a ga gv R) (fun a => zown (fun q => s (9 + q)) N (nI a) y z) i).1)), (6, .int (nI i)), (7, .int (zown (fun q => s (9 + q)) N (nI i) y z))], [], MH c tr tx ty td dr s im kp at_ so sr va (lwN a ga gv R (va_cpy (fun _ => 99) wy 0 0 8) 8))
          refine zq_b [zq_al 0, zq_get 12 12, zq_il 6, zq_iald i (lwA a ga gv R i), zq_is1 5, zq_il 7, zq_is1 4, zq_inc 6 1 (nI (i + 1)), zq_go] [zq_alchk 0, zq_getchk 12 12, zq_ilchk 6, zq_is .iaload 1, zq_is1chk 5, zq_ilchk 7, zq_is1chk 4, zq_incchk 6 1, zq_gochk] 31 rfl (by decide +kernel) ?_
          refine ⟨rfl, (by omega), (by omega), (lwA_eq wy hr7 (by omega)), nI_add i 1, ?_⟩
          show zq_G _ _ _ _ _ 31 ([(0, .ref 41), (1, .int (nI a)), (2, .int y), (3, .int z), (4, .int (zown (fun q => s (9 + q)) N (nI i) y z)), (5, .int (lwA a ga gv R i)), (6, .int (nI (i + 1))), (7, .int (zown (fun q => s (9 + q)) N (nI i) y z))], [], MH c tr tx ty td dr s im kp at_ so sr va (lwN a ga gv R (va_cpy (fun _ => 99) wy 0 0 8) 8))
          refine zq_pick [0, 1, 2, 3, 4, 5, 6] rfl ?_
          show zq_G _ _ _ _ _ 31 ([(0, .ref 41), (1, .int (nI a)), (2, .int y), (3, .int z), (4, .int (zown (fun q => s (9 + q)) N (nI i) y z)), (5, .int (lwA a ga gv R i)), (6, .int (nI (i + 1)))], [], MH c tr tx ty td dr s im kp at_ so sr va (lwN a ga gv R (va_cpy (fun _ => 99) wy 0 0 8) 8))
          exact zq_eq (by rw [show zfw (lwA a ga gv R) (fun a => zown (fun q => s (9 + q)) N (nI a) y z) (i + 1) = (lwA a ga gv R i, zown (fun q => s (9 + q)) N (nI i) y z) from by rw [zfw, if_pos ⟨c52, Int32.not_le.mp c64⟩]]) (ih31 trivial)
    · show zq_G _ _ _ _ _ 31 ([(0, .ref 41), (1, .int (nI a)), (2, .int y), (3, .int z), (4, .int ((zfw (lwA a ga gv R) (fun a => zown (fun q => s (9 + q)) N (nI a) y z) 8).2)), (5, .int ((zfw (lwA a ga gv R) (fun a => zown (fun q => s (9 + q)) N (nI a) y z) 8).1)), (6, .int 8)], [], MH c tr tx ty td dr s im kp at_ so sr va (lwN a ga gv R (va_cpy (fun _ => 99) wy 0 0 8) 8))
      refine zq_b [zq_il 6, zq_k 8] [zq_ilchk 6, zq_kchk 8] 35 rfl (by decide +kernel) ?_
      show zq_G _ _ _ _ _ 35 ([(0, .ref 41), (1, .int (nI a)), (2, .int y), (3, .int z), (4, .int ((zfw (lwA a ga gv R) (fun a => zown (fun q => s (9 + q)) N (nI a) y z) 8).2)), (5, .int ((zfw (lwA a ga gv R) (fun a => zown (fun q => s (9 + q)) N (nI a) y z) 8).1)), (6, .int 8)], [.int 8, .int 8], MH c tr tx ty td dr s im kp at_ so sr va (lwN a ga gv R (va_cpy (fun _ => 99) wy 0 0 8) 8))
      refine zq_if .ge 86 (8 ≤ 8) (by decide +kernel) (zq_cge (a := 8) (b := 8) (by omega) (by omega)) (fun c35 => ?_) (fun c35 => absurd (by omega) c35)
      show zq_G _ _ _ _ _ 86 ([(0, .ref 41), (1, .int (nI a)), (2, .int y), (3, .int z), (4, .int ((zfw (lwA a ga gv R) (fun a => zown (fun q => s (9 + q)) N (nI a) y z) 8).2)), (5, .int ((zfw (lwA a ga gv R) (fun a => zown (fun q => s (9 + q)) N (nI a) y z) 8).1)), (6, .int 8)], [], MH c tr tx ty td dr s im kp at_ so sr va (lwN a ga gv R (va_cpy (fun _ => 99) wy 0 0 8) 8))
      refine zq_b [zq_il 4] [zq_ilchk 4] 88 rfl (by decide +kernel) ?_
      show zq_G _ _ _ _ _ 88 ([(0, .ref 41), (1, .int (nI a)), (2, .int y), (3, .int z), (4, .int ((zfw (lwA a ga gv R) (fun a => zown (fun q => s (9 + q)) N (nI a) y z) 8).2)), (5, .int ((zfw (lwA a ga gv R) (fun a => zown (fun q => s (9 + q)) N (nI a) y z) 8).1)), (6, .int 8)], [.int ((zfw (lwA a ga gv R) (fun a => zown (fun q => s (9 + q)) N (nI a) y z) 8).2)], MH c tr tx ty td dr s im kp at_ so sr va (lwN a ga gv R (va_cpy (fun _ => 99) wy 0 0 8) 8))
      exact zq_iret (by decide +kernel) rfl (by unfold zmh; rw [if_pos c13]) (by unfold wyH; rw [if_pos c13])
  · show zq_G _ _ _ _ _ 16 ([(0, .ref 41), (1, .int (nI a)), (2, .int y), (3, .int z), (4, .int (zown (fun q => s (9 + q)) N (nI a) y z))], [], MH c tr tx ty td dr s im kp at_ so sr va wy)
    refine zq_b [zq_il 4] [zq_ilchk 4] 18 rfl (by decide +kernel) ?_
    show zq_G _ _ _ _ _ 18 ([(0, .ref 41), (1, .int (nI a)), (2, .int y), (3, .int z), (4, .int (zown (fun q => s (9 + q)) N (nI a) y z))], [.int (zown (fun q => s (9 + q)) N (nI a) y z)], MH c tr tx ty td dr s im kp at_ so sr va wy)
    exact zq_iret (by decide +kernel) rfl (by unfold zmh; rw [if_neg c13]) (by unfold wyH; rw [if_neg c13])
set_option maxHeartbeats 4000000 in
set_option maxRecDepth 100000 in
theorem m_holder_bad {x : Int32} {y : Int32} (hb : ¬ (0 ≤ x.toInt ∧ x.toInt ≤ 7 ∧ 0 ≤ y.toInt ∧ y.toInt ≤ 200)) : zq_P l mX12_holder 2 [.ref 41, .int x, .int y] (MH c tr tx (nI Z) td dr s im kp at_ so sr va wy) (some (.int (-1))) (MH c tr tx (nI Z) td dr s im kp at_ so sr va wy) := by
  refine zq_start (by decide +kernel) rfl (Nat.le_of_ble_eq_true rfl) ?_
  show zq_G _ _ _ _ _ 0 ([(0, .ref 41), (1, .int x), (2, .int y)], [], MH c tr tx (nI Z) td dr s im kp at_ so sr va wy)
  refine zq_b [zq_il 1, zq_k 0, zq_k 7] [zq_ilchk 1, zq_kchk 0, zq_kchk 7] 4 rfl (by decide +kernel) ?_
  show zq_G _ _ _ _ _ 4 ([(0, .ref 41), (1, .int x), (2, .int y)], [.int 7, .int 0, .int x], MH c tr tx (nI Z) td dr s im kp at_ so sr va wy)
  refine zq_callS (av := [.int x, .int 0, .int 7]) (rest := []) (by decide +kernel) k12_39 (m_in (x := x) (lo := 0) (hi := 7) (by omega) (by omega)) rfl rfl ?_
  show zq_G _ _ _ _ _ 7 ([(0, .ref 41), (1, .int x), (2, .int y)], [.int (zb ((0 : Int) ≤ x.toInt ∧ x.toInt ≤ (7 : Int)))], MH c tr tx (nI Z) td dr s im kp at_ so sr va wy)
  refine zq_ifz .eq 36 (¬ ((0 : Int) ≤ x.toInt ∧ x.toInt ≤ (7 : Int))) (by decide +kernel) (zb_eq _) (fun c7 => ?_) (fun c7 => ?_)
  · show zq_G _ _ _ _ _ 36 ([(0, .ref 41), (1, .int x), (2, .int y)], [], MH c tr tx (nI Z) td dr s im kp at_ so sr va wy)
    refine zq_b [zq_k (-1)] [zq_kchk (-1)] 37 rfl (by decide +kernel) ?_
    show zq_G _ _ _ _ _ 37 ([(0, .ref 41), (1, .int x), (2, .int y)], [.int (-1)], MH c tr tx (nI Z) td dr s im kp at_ so sr va wy)
    exact zq_iret (by decide +kernel) rfl rfl rfl
  · show zq_G _ _ _ _ _ 10 ([(0, .ref 41), (1, .int x), (2, .int y)], [], MH c tr tx (nI Z) td dr s im kp at_ so sr va wy)
    refine zq_b [zq_il 2, zq_k 0, zq_k 200] [zq_ilchk 2, zq_kchk 0, zq_kchk 200] 15 rfl (by decide +kernel) ?_
    show zq_G _ _ _ _ _ 15 ([(0, .ref 41), (1, .int x), (2, .int y)], [.int 200, .int 0, .int y], MH c tr tx (nI Z) td dr s im kp at_ so sr va wy)
    refine zq_callS (av := [.int y, .int 0, .int 200]) (rest := []) (by decide +kernel) k12_39 (m_in (x := y) (lo := 0) (hi := 200) (by omega) (by omega)) rfl rfl ?_
    show zq_G _ _ _ _ _ 18 ([(0, .ref 41), (1, .int x), (2, .int y)], [.int (zb ((0 : Int) ≤ y.toInt ∧ y.toInt ≤ (200 : Int)))], MH c tr tx (nI Z) td dr s im kp at_ so sr va wy)
    refine zq_ifz .eq 36 (¬ ((0 : Int) ≤ y.toInt ∧ y.toInt ≤ (200 : Int))) (by decide +kernel) (zb_eq _) (fun c18 => ?_) (fun c18 => ?_)
    · show zq_G _ _ _ _ _ 36 ([(0, .ref 41), (1, .int x), (2, .int y)], [], MH c tr tx (nI Z) td dr s im kp at_ so sr va wy)
      refine zq_b [zq_k (-1)] [zq_kchk (-1)] 37 rfl (by decide +kernel) ?_
      show zq_G _ _ _ _ _ 37 ([(0, .ref 41), (1, .int x), (2, .int y)], [.int (-1)], MH c tr tx (nI Z) td dr s im kp at_ so sr va wy)
      exact zq_iret (by decide +kernel) rfl rfl rfl
    · show zq_G _ _ _ _ _ 21 ([(0, .ref 41), (1, .int x), (2, .int y)], [], MH c tr tx (nI Z) td dr s im kp at_ so sr va wy)
      exact absurd hb (by omega)
set_option maxHeartbeats 4000000 in
set_option maxRecDepth 100000 in
theorem m_holder {a : Nat} {b : Nat} (ht2 : td 2 = nI R) (ht3 : td 3 = nI L) (hs2 : s 2 = nI N) (hR : R ≤ 6) (hN : N ≤ 12) (hru : ∀ j, j < R → td (26 + j) = nI (10 * ga j + gv j) ∧ ga j ≤ 7 ∧ gv j ≤ 7) (ha : a ≤ 7) (hb2 : b ≤ 200) : zq_P l mX12_holder 2 [.ref 41, .int (nI a), .int (nI b)] (MH c tr tx (nI Z) td dr s im kp at_ so sr va wy) (some (.int (zmh (lwA a ga gv R) (fun a => zown (fun q => s (9 + q)) N (nI a) (nI b) (nI L)) a))) (MH c tr tx (nI Z) td dr s im kp at_ so sr va (wyH a ga gv R (zown (fun q => s (9 + q)) N (nI a) (nI b) (nI L)) wy)) := by
  refine zq_start (by decide +kernel) rfl (Nat.le_of_ble_eq_true rfl) ?_
  show zq_G _ _ _ _ _ 0 ([(0, .ref 41), (1, .int (nI a)), (2, .int (nI b))], [], MH c tr tx (nI Z) td dr s im kp at_ so sr va wy)
  refine zq_b [zq_il 1, zq_k 0, zq_k 7] [zq_ilchk 1, zq_kchk 0, zq_kchk 7] 4 rfl (by decide +kernel) ?_
  show zq_G _ _ _ _ _ 4 ([(0, .ref 41), (1, .int (nI a)), (2, .int (nI b))], [.int 7, .int 0, .int (nI a)], MH c tr tx (nI Z) td dr s im kp at_ so sr va wy)
  refine zq_callS (av := [.int (nI a), .int 0, .int 7]) (rest := []) (by decide +kernel) k12_39 (m_inN (x := a) (lo := 0) (hi := 7) (by omega) (by omega) (by omega)) rfl rfl ?_
  show zq_G _ _ _ _ _ 7 ([(0, .ref 41), (1, .int (nI a)), (2, .int (nI b))], [.int (zb (0 ≤ a ∧ a ≤ 7))], MH c tr tx (nI Z) td dr s im kp at_ so sr va wy)
  refine zq_ifz .eq 36 (¬ (0 ≤ a ∧ a ≤ 7)) (by decide +kernel) (zb_eq _) (fun c7 => absurd c7 (by omega)) (fun c7 => ?_)
  show zq_G _ _ _ _ _ 10 ([(0, .ref 41), (1, .int (nI a)), (2, .int (nI b))], [], MH c tr tx (nI Z) td dr s im kp at_ so sr va wy)
  refine zq_b [zq_il 2, zq_k 0, zq_k 200] [zq_ilchk 2, zq_kchk 0, zq_kchk 200] 15 rfl (by decide +kernel) ?_
  show zq_G _ _ _ _ _ 15 ([(0, .ref 41), (1, .int (nI a)), (2, .int (nI b))], [.int 200, .int 0, .int (nI b)], MH c tr tx (nI Z) td dr s im kp at_ so sr va wy)
  refine zq_callS (av := [.int (nI b), .int 0, .int 200]) (rest := []) (by decide +kernel) k12_39 (m_inN (x := b) (lo := 0) (hi := 200) (by omega) (by omega) (by omega)) rfl rfl ?_
  show zq_G _ _ _ _ _ 18 ([(0, .ref 41), (1, .int (nI a)), (2, .int (nI b))], [.int (zb (0 ≤ b ∧ b ≤ 200))], MH c tr tx (nI Z) td dr s im kp at_ so sr va wy)
  refine zq_ifz .eq 36 (¬ (0 ≤ b ∧ b ≤ 200)) (by decide +kernel) (zb_eq _) (fun c18 => absurd c18 (by omega)) (fun c18 => ?_)
  show zq_G _ _ _ _ _ 21 ([(0, .ref 41), (1, .int (nI a)), (2, .int (nI b))], [], MH c tr tx (nI Z) td dr s im kp at_ so sr va wy)
  refine zq_b [zq_al 0, zq_il 1, zq_il 2, zq_al 0, zq_get 12 3, zq_k 3, zq_iald 3 (nI L)] [zq_alchk 0, zq_ilchk 1, zq_ilchk 2, zq_alchk 0, zq_getchk 12 3, zq_kchk 3, zq_is .iaload 1] 30 rfl (by decide +kernel) ?_
  refine ⟨rfl, (by omega), (by omega), ht3, ?_⟩
  show zq_G _ _ _ _ _ 30 ([(0, .ref 41), (1, .int (nI a)), (2, .int (nI b))], [.int (nI L), .int (nI b), .int (nI a), .ref 41], MH c tr tx (nI Z) td dr s im kp at_ so sr va wy)
  refine zq_callV (av := [.int (nI a), .int (nI b), .int (nI L)]) (rest := []) (by decide +kernel) k12_124 (m_holderBy (a := a) (y := (nI b)) (z := (nI L)) ht2 hs2 hR hN hru (by omega)) rfl rfl rfl rfl ?_
  show zq_G _ _ _ _ _ 33 ([(0, .ref 41), (1, .int (nI a)), (2, .int (nI b))], [.int (zmh (lwA a ga gv R) (fun a => zown (fun q => s (9 + q)) N (nI a) (nI b) (nI L)) a)], MH c tr tx (nI Z) td dr s im kp at_ so sr va (wyH a ga gv R (zown (fun q => s (9 + q)) N (nI a) (nI b) (nI L)) wy))
  refine zq_b [zq_go] [zq_gochk] 37 rfl (by decide +kernel) ?_
  show zq_G _ _ _ _ _ 37 ([(0, .ref 41), (1, .int (nI a)), (2, .int (nI b))], [.int (zmh (lwA a ga gv R) (fun a => zown (fun q => s (9 + q)) N (nI a) (nI b) (nI L)) a)], MH c tr tx (nI Z) td dr s im kp at_ so sr va (wyH a ga gv R (zown (fun q => s (9 + q)) N (nI a) (nI b) (nI L)) wy))
  exact zq_iret (by decide +kernel) rfl rfl rfl
set_option maxHeartbeats 4000000 in
set_option maxRecDepth 100000 in
theorem m_round  (ht2 : td 2 = nI R) (hR : R ≤ 6) (hru : ∀ j, j < R → td (26 + j) = nI (10 * ga j + gv j) ∧ ga j ≤ 7 ∧ gv j ≤ 7) : zq_P l mX12_round 1 [.ref 41] (MH c tr tx (nI Z) td dr s im kp at_ so sr va wy) (some (.int (zfs (fun a => decide (lwA a ga gv R a < 99)) nI 8))) (MH c tr tx (nI Z) td dr s im kp at_ so sr va (wyR ga gv R wy 8)) := by
  refine zq_start (by decide +kernel) rfl (Nat.le_of_ble_eq_true rfl) ?_
  show zq_G _ _ _ _ _ 0 ([(0, .ref 41)], [], MH c tr tx (nI Z) td dr s im kp at_ so sr va wy)
  have hr7 : ∀ j, j < R → ga j ≤ 7 ∧ gv j ≤ 7 := fun j hj => (hru j hj).2
  refine zq_b [zq_k (-9), zq_is1 1, zq_k 7, zq_is1 2] [zq_kchk (-9), zq_is1chk 1, zq_kchk 7, zq_is1chk 2] 6 rfl (by decide +kernel) ?_
  show zq_G _ _ _ _ _ 6 ([(0, .ref 41), (1, .int (-9)), (2, .int 7)], [], MH c tr tx (nI Z) td dr s im kp at_ so sr va wy)
  refine zq_eq (σ2 := ([(0, .ref 41), (1, .int (zdr (fun a => decide (lwA a ga gv R a < 99)) 7 (0 : Nat))), (2, .int (zi ((8 : Int) - 1 - (((0 : Nat) : Nat) : Int))))], [], MH c tr tx (nI Z) td dr s im kp at_ so sr va (wyR ga gv R wy (0 : Nat)))) (by rw [zi_nat (n := 7) (by omega)]; rfl) ?_
  refine zq_loop (fun i => ([(0, .ref 41), (1, .int (zdr (fun a => decide (lwA a ga gv R a < 99)) 7 i)), (2, .int (zi ((8 : Int) - 1 - ((i : Nat) : Int))))], [], MH c tr tx (nI Z) td dr s im kp at_ so sr va (wyR ga gv R wy i))) (fun i => True) (8) (0) (by omega) (trivial) (fun i hl6 hi6 hI6 ih6 => ?_) (fun hI6 => ?_)
  · show zq_G _ _ _ _ _ 6 ([(0, .ref 41), (1, .int (zdr (fun a => decide (lwA a ga gv R a < 99)) 7 i)), (2, .int (zi ((8 : Int) - 1 - ((i : Nat) : Int))))], [], MH c tr tx (nI Z) td dr s im kp at_ so sr va (wyR ga gv R wy i))
    refine zq_b [zq_il 2] [zq_ilchk 2] 7 rfl (by decide +kernel) ?_
    show zq_G _ _ _ _ _ 7 ([(0, .ref 41), (1, .int (zdr (fun a => decide (lwA a ga gv R a < 99)) 7 i)), (2, .int (zi ((8 : Int) - 1 - ((i : Nat) : Int))))], [.int (zi ((8 : Int) - 1 - ((i : Nat) : Int)))], MH c tr tx (nI Z) td dr s im kp at_ so sr va (wyR ga gv R wy i))
    refine zq_ifz .lt 38 (((8 : Int) - 1 - ((i : Nat) : Int)) < 0) (by decide +kernel) (zi_lt0 (by omega) (by omega)) (fun c7 => absurd c7 (by omega)) (fun c7 => ?_)
    show zq_G _ _ _ _ _ 10 ([(0, .ref 41), (1, .int (zdr (fun a => decide (lwA a ga gv R a < 99)) 7 i)), (2, .int (zi ((8 : Int) - 1 - ((i : Nat) : Int))))], [], MH c tr tx (nI Z) td dr s im kp at_ so sr va (wyR ga gv R wy i))
    refine zq_eq (σ2 := ([(0, .ref 41), (1, .int (zdr (fun a => decide (lwA a ga gv R a < 99)) 7 i)), (2, .int (nI (7 - i)))], [], MH c tr tx (nI Z) td dr s im kp at_ so sr va (wyR ga gv R wy i))) (by rw [zi_nat (n := 7 - i) (by omega)]) ?_
    refine zq_b [zq_al 0, zq_il 2] [zq_alchk 0, zq_ilchk 2] 12 rfl (by decide +kernel) ?_
    show zq_G _ _ _ _ _ 12 ([(0, .ref 41), (1, .int (zdr (fun a => decide (lwA a ga gv R a < 99)) 7 i)), (2, .int (nI (7 - i)))], [.int (nI (7 - i)), .ref 41], MH c tr tx (nI Z) td dr s im kp at_ so sr va (wyR ga gv R wy i))
    refine zq_callV (av := [.int (nI (7 - i))]) (rest := []) (by decide +kernel) k12_120 (m_ways (a := (7 - i)) ht2 hR hru (by omega)) rfl rfl rfl rfl ?_
    show zq_G _ _ _ _ _ 15 ([(0, .ref 41), (1, .int (zdr (fun a => decide (lwA a ga gv R a < 99)) 7 i)), (2, .int (nI (7 - i)))], [], MH c tr tx (nI Z) td dr s im kp at_ so sr va (lwN (7 - i) ga gv R (va_cpy (fun _ => 99) (wyR ga gv R wy i) 0 0 8) 8))
    refine zq_b [zq_al 0, zq_get 12 12, zq_il 2, zq_iald (7 - i) (lwA (7 - i) ga gv R (7 - i)), zq_k 99] [zq_alchk 0, zq_getchk 12 12, zq_ilchk 2, zq_is .iaload 1, zq_kchk 99] 23 rfl (by decide +kernel) ?_
    refine ⟨rfl, (by omega), (by omega), (lwA_eq _ hr7 (by omega)), ?_⟩
    show zq_G _ _ _ _ _ 23 ([(0, .ref 41), (1, .int (zdr (fun a => decide (lwA a ga gv R a < 99)) 7 i)), (2, .int (nI (7 - i)))], [.int 99, .int (lwA (7 - i) ga gv R (7 - i))], MH c tr tx (nI Z) td dr s im kp at_ so sr va (lwN (7 - i) ga gv R (va_cpy (fun _ => 99) (wyR ga gv R wy i) 0 0 8) 8))
    refine zq_if .ge 30 (99 ≤ (lwA (7 - i) ga gv R (7 - i))) (by decide +kernel) (Iff.rfl) (fun c23 => ?_) (fun c23 => ?_)
    · show zq_G _ _ _ _ _ 30 ([(0, .ref 41), (1, .int (zdr (fun a => decide (lwA a ga gv R a < 99)) 7 i)), (2, .int (nI (7 - i)))], [], MH c tr tx (nI Z) td dr s im kp at_ so sr va (lwN (7 - i) ga gv R (va_cpy (fun _ => 99) (wyR ga gv R wy i) 0 0 8) 8))
      refine zq_b [zq_il 1, zq_is1 1, zq_inc 2 (-1) (zi ((8 : Int) - 1 - ((i + 1 : Nat) : Int))), zq_go] [zq_ilchk 1, zq_is1chk 1, zq_incchk 2 (-1), zq_gochk] 6 rfl (by decide +kernel) ?_
      refine ⟨(zi_dn2 (N := 8) (by omega)), ?_⟩
      show zq_G _ _ _ _ _ 6 ([(0, .ref 41), (1, .int (zdr (fun a => decide (lwA a ga gv R a < 99)) 7 i)), (2, .int (zi ((8 : Int) - 1 - ((i + 1 : Nat) : Int))))], [], MH c tr tx (nI Z) td dr s im kp at_ so sr va (lwN (7 - i) ga gv R (va_cpy (fun _ => 99) (wyR ga gv R wy i) 0 0 8) 8))
      exact zq_eq (by rw [show zdr (fun a => decide (lwA a ga gv R a < 99)) 7 (i + 1) = zdr (fun a => decide (lwA a ga gv R a < 99)) 7 i from by rw [zdr, if_neg (by rw [decide_eq_false (Int32.not_lt.mpr c23)]; exact Bool.false_ne_true)]]; rfl) (ih6 trivial)
    · show zq_G _ _ _ _ _ 26 ([(0, .ref 41), (1, .int (zdr (fun a => decide (lwA a ga gv R a < 99)) 7 i)), (2, .int (nI (7 - i)))], [], MH c tr tx (nI Z) td dr s im kp at_ so sr va (lwN (7 - i) ga gv R (va_cpy (fun _ => 99) (wyR ga gv R wy i) 0 0 8) 8))
      refine zq_b [zq_il 2, zq_go, zq_is1 1, zq_inc 2 (-1) (zi ((8 : Int) - 1 - ((i + 1 : Nat) : Int))), zq_go] [zq_ilchk 2, zq_gochk, zq_is1chk 1, zq_incchk 2 (-1), zq_gochk] 6 rfl (by decide +kernel) ?_
      refine ⟨(zi_dn2 (N := 8) (by omega)), ?_⟩
      show zq_G _ _ _ _ _ 6 ([(0, .ref 41), (1, .int (nI (7 - i))), (2, .int (zi ((8 : Int) - 1 - ((i + 1 : Nat) : Int))))], [], MH c tr tx (nI Z) td dr s im kp at_ so sr va (lwN (7 - i) ga gv R (va_cpy (fun _ => 99) (wyR ga gv R wy i) 0 0 8) 8))
      exact zq_eq (by rw [show zdr (fun a => decide (lwA a ga gv R a < 99)) 7 (i + 1) = nI (7 - i) from by rw [zdr, if_pos (decide_eq_true (Int32.not_le.mp c23))]]; rfl) (ih6 trivial)
  · show zq_G _ _ _ _ _ 6 ([(0, .ref 41), (1, .int (zdr (fun a => decide (lwA a ga gv R a < 99)) 7 8)), (2, .int (zi ((8 : Int) - 1 - ((8 : Nat) : Int))))], [], MH c tr tx (nI Z) td dr s im kp at_ so sr va (wyR ga gv R wy 8))
    refine zq_b [zq_il 2] [zq_ilchk 2] 7 rfl (by decide +kernel) ?_
    show zq_G _ _ _ _ _ 7 ([(0, .ref 41), (1, .int (zdr (fun a => decide (lwA a ga gv R a < 99)) 7 8)), (2, .int (zi ((8 : Int) - 1 - ((8 : Nat) : Int))))], [.int (zi ((8 : Int) - 1 - ((8 : Nat) : Int)))], MH c tr tx (nI Z) td dr s im kp at_ so sr va (wyR ga gv R wy 8))
    refine zq_ifz .lt 38 (((8 : Int) - 1 - ((8 : Nat) : Int)) < 0) (by decide +kernel) (zi_lt0 (by omega) (by omega)) (fun c7 => ?_) (fun c7 => absurd (by omega) c7)
    show zq_G _ _ _ _ _ 38 ([(0, .ref 41), (1, .int (zdr (fun a => decide (lwA a ga gv R a < 99)) 7 8)), (2, .int (zi ((8 : Int) - 1 - ((8 : Nat) : Int))))], [], MH c tr tx (nI Z) td dr s im kp at_ so sr va (wyR ga gv R wy 8))
    refine zq_b [zq_il 1] [zq_ilchk 1] 39 rfl (by decide +kernel) ?_
    show zq_G _ _ _ _ _ 39 ([(0, .ref 41), (1, .int (zdr (fun a => decide (lwA a ga gv R a < 99)) 7 8)), (2, .int (zi ((8 : Int) - 1 - ((8 : Nat) : Int))))], [.int (zdr (fun a => decide (lwA a ga gv R a < 99)) 7 8)], MH c tr tx (nI Z) td dr s im kp at_ so sr va (wyR ga gv R wy 8))
    exact zq_iret (by decide +kernel) rfl (by rw [zdr_fs (fun a => decide (lwA a ga gv R a < 99)) 7]) rfl
set_option maxHeartbeats 4000000 in
set_option maxRecDepth 100000 in
theorem m_votes_bad {x : Int32} (hb : x.toInt < 0 ∨ 200 < x.toInt) : zq_P l mX12_votes 1 [.ref 41, .int x] (MH c tr tx (nI Z) td dr s im kp at_ so sr va wy) (some (.int (-1))) (MH c tr tx (nI Z) td dr s im kp at_ so sr va wy) := by
  refine zq_start (by decide +kernel) rfl (Nat.le_of_ble_eq_true rfl) ?_
  show zq_G _ _ _ _ _ 0 ([(0, .ref 41), (1, .int x)], [], MH c tr tx (nI Z) td dr s im kp at_ so sr va wy)
  refine zq_b [zq_il 1, zq_k 0, zq_k 200] [zq_ilchk 1, zq_kchk 0, zq_kchk 200] 5 rfl (by decide +kernel) ?_
  show zq_G _ _ _ _ _ 5 ([(0, .ref 41), (1, .int x)], [.int 200, .int 0, .int x], MH c tr tx (nI Z) td dr s im kp at_ so sr va wy)
  refine zq_callS (av := [.int x, .int 0, .int 200]) (rest := []) (by decide +kernel) k12_39 (m_in (x := x) (lo := 0) (hi := 200) (by omega) (by omega)) rfl rfl ?_
  show zq_G _ _ _ _ _ 8 ([(0, .ref 41), (1, .int x)], [.int (zb ((0 : Int) ≤ x.toInt ∧ x.toInt ≤ (200 : Int)))], MH c tr tx (nI Z) td dr s im kp at_ so sr va wy)
  refine zq_ifz .ne 13 ((0 : Int) ≤ x.toInt ∧ x.toInt ≤ (200 : Int)) (by decide +kernel) (zb_ne _) (fun c8 => ?_) (fun c8 => ?_)
  · show zq_G _ _ _ _ _ 13 ([(0, .ref 41), (1, .int x)], [], MH c tr tx (nI Z) td dr s im kp at_ so sr va wy)
    exact absurd hb (by omega)
  · show zq_G _ _ _ _ _ 11 ([(0, .ref 41), (1, .int x)], [], MH c tr tx (nI Z) td dr s im kp at_ so sr va wy)
    refine zq_b [zq_k (-1)] [zq_kchk (-1)] 12 rfl (by decide +kernel) ?_
    show zq_G _ _ _ _ _ 12 ([(0, .ref 41), (1, .int x)], [.int (-1)], MH c tr tx (nI Z) td dr s im kp at_ so sr va wy)
    exact zq_iret (by decide +kernel) rfl rfl rfl
set_option maxHeartbeats 4000000 in
set_option maxRecDepth 100000 in
theorem m_votes {b : Nat} (ht3 : td 3 = nI L) (hs0 : s 0 = nI D) (hL : L ≤ 30) (hD : D ≤ 99) (hb2 : b ≤ 200) : zq_P l mX12_votes 1 [.ref 41, .int (nI b)] (MH c tr tx (nI Z) td dr s im kp at_ so sr va wy) (some (.int (zkept (fun d => s (69 + d)) D ((b : Int) - (L : Int))))) (MH c tr tx (nI Z) td dr s im kp at_ so sr va wy) := by
  refine zq_start (by decide +kernel) rfl (Nat.le_of_ble_eq_true rfl) ?_
  show zq_G _ _ _ _ _ 0 ([(0, .ref 41), (1, .int (nI b))], [], MH c tr tx (nI Z) td dr s im kp at_ so sr va wy)
  refine zq_b [zq_il 1, zq_k 0, zq_k 200] [zq_ilchk 1, zq_kchk 0, zq_kchk 200] 5 rfl (by decide +kernel) ?_
  show zq_G _ _ _ _ _ 5 ([(0, .ref 41), (1, .int (nI b))], [.int 200, .int 0, .int (nI b)], MH c tr tx (nI Z) td dr s im kp at_ so sr va wy)
  refine zq_callS (av := [.int (nI b), .int 0, .int 200]) (rest := []) (by decide +kernel) k12_39 (m_inN (x := b) (lo := 0) (hi := 200) (by omega) (by omega) (by omega)) rfl rfl ?_
  show zq_G _ _ _ _ _ 8 ([(0, .ref 41), (1, .int (nI b))], [.int (zb (0 ≤ b ∧ b ≤ 200))], MH c tr tx (nI Z) td dr s im kp at_ so sr va wy)
  refine zq_ifz .ne 13 (0 ≤ b ∧ b ≤ 200) (by decide +kernel) (zb_ne _) (fun c8 => ?_) (fun c8 => absurd (by omega) c8)
  show zq_G _ _ _ _ _ 13 ([(0, .ref 41), (1, .int (nI b))], [], MH c tr tx (nI Z) td dr s im kp at_ so sr va wy)
  refine zq_b [zq_il 1, zq_al 0, zq_get 12 3, zq_k 3, zq_iald 3 (nI L), zq_isub (zi ((b : Int) - (L : Int))), zq_is1 2, zq_il 2, zq_k 0, zq_al 0, zq_get 12 5, zq_k 0, zq_iald 0 (nI D), zq_k 1, zq_isub (zi ((D : Int) - 1))] [zq_ilchk 1, zq_alchk 0, zq_getchk 12 3, zq_kchk 3, zq_is .iaload 1, zq_is .isub 1, zq_is1chk 2, zq_ilchk 2, zq_kchk 0, zq_alchk 0, zq_getchk 12 5, zq_kchk 0, zq_is .iaload 1, zq_kchk 1, zq_is .isub 1] 32 rfl (by decide +kernel) ?_
  refine ⟨rfl, (by omega), (by omega), ht3, (zi_sub b L), rfl, (by omega), (by omega), hs0, ((zi_sub D 1).trans rfl), ?_⟩
  show zq_G _ _ _ _ _ 32 ([(0, .ref 41), (1, .int (nI b)), (2, .int (zi ((b : Int) - (L : Int))))], [.int (zi ((D : Int) - 1)), .int 0, .int (zi ((b : Int) - (L : Int)))], MH c tr tx (nI Z) td dr s im kp at_ so sr va wy)
  refine zq_callS (av := [.int (zi ((b : Int) - (L : Int))), .int 0, .int (zi ((D : Int) - 1))]) (rest := []) (by decide +kernel) k12_39 (m_inZN (z := ((b : Int) - (L : Int))) (lo := 0) (y := ((D : Int) - 1)) (by omega) (by omega) (by omega) (by omega) (by omega)) rfl rfl ?_
  show zq_G _ _ _ _ _ 35 ([(0, .ref 41), (1, .int (nI b)), (2, .int (zi ((b : Int) - (L : Int))))], [.int (zb ((0 : Int) ≤ (b : Int) - (L : Int) ∧ (b : Int) - (L : Int) ≤ (D : Int) - 1))], MH c tr tx (nI Z) td dr s im kp at_ so sr va wy)
  refine zq_ifz .eq 50 (¬ ((0 : Int) ≤ (b : Int) - (L : Int) ∧ (b : Int) - (L : Int) ≤ (D : Int) - 1)) (by decide +kernel) (zb_eq _) (fun c35 => ?_) (fun c35 => ?_)
  · show zq_G _ _ _ _ _ 50 ([(0, .ref 41), (1, .int (nI b)), (2, .int (zi ((b : Int) - (L : Int))))], [], MH c tr tx (nI Z) td dr s im kp at_ so sr va wy)
    refine zq_b [zq_k 0] [zq_kchk 0] 51 rfl (by decide +kernel) ?_
    show zq_G _ _ _ _ _ 51 ([(0, .ref 41), (1, .int (nI b)), (2, .int (zi ((b : Int) - (L : Int))))], [.int 0], MH c tr tx (nI Z) td dr s im kp at_ so sr va wy)
    exact zq_iret (by decide +kernel) rfl (by unfold zkept; rw [if_neg (by omega)]) rfl
  · show zq_G _ _ _ _ _ 38 ([(0, .ref 41), (1, .int (nI b)), (2, .int (zi ((b : Int) - (L : Int))))], [], MH c tr tx (nI Z) td dr s im kp at_ so sr va wy)
    refine zq_b [zq_al 0, zq_get 12 5, zq_k 69, zq_il 2, zq_iadd (nI (69 + ((b : Int) - (L : Int)).toNat)), zq_iald (69 + ((b : Int) - (L : Int)).toNat) (s (69 + ((b : Int) - (L : Int)).toNat)), zq_go] [zq_alchk 0, zq_getchk 12 5, zq_kchk 69, zq_ilchk 2, zq_is .iadd 1, zq_is .iaload 1, zq_gochk] 51 rfl (by decide +kernel) ?_
    refine ⟨(by rw [zi_nat (z := (b : Int) - (L : Int)) (n := ((b : Int) - (L : Int)).toNat) (by omega)]; exact nI_add 69 ((b : Int) - (L : Int)).toNat), rfl, (by omega), (by omega), rfl, ?_⟩
    show zq_G _ _ _ _ _ 51 ([(0, .ref 41), (1, .int (nI b)), (2, .int (zi ((b : Int) - (L : Int))))], [.int (s (69 + ((b : Int) - (L : Int)).toNat))], MH c tr tx (nI Z) td dr s im kp at_ so sr va wy)
    exact zq_iret (by decide +kernel) rfl (by unfold zkept; rw [if_pos (by omega)]) rfl
set_option maxHeartbeats 4000000 in
set_option maxRecDepth 100000 in
theorem m_nearer_bad {x : Int32} {y : Int32} (hb : ¬ (1 ≤ x.toInt ∧ x.toInt ≤ 30 ∧ 0 ≤ y.toInt ∧ y.toInt ≤ 200)) : zq_P l mX12_nearer 1 [.ref 41, .int x, .int y] (MH c tr tx (nI Z) td dr s im kp at_ so sr va wy) (some (.int (-1))) (MH c tr tx (nI Z) td dr s im kp at_ so sr va wy) := by
  refine zq_start (by decide +kernel) rfl (Nat.le_of_ble_eq_true rfl) ?_
  show zq_G _ _ _ _ _ 0 ([(0, .ref 41), (1, .int x), (2, .int y)], [], MH c tr tx (nI Z) td dr s im kp at_ so sr va wy)
  refine zq_b [zq_il 1, zq_k 1, zq_k 30] [zq_ilchk 1, zq_kchk 1, zq_kchk 30] 4 rfl (by decide +kernel) ?_
  show zq_G _ _ _ _ _ 4 ([(0, .ref 41), (1, .int x), (2, .int y)], [.int 30, .int 1, .int x], MH c tr tx (nI Z) td dr s im kp at_ so sr va wy)
  refine zq_callS (av := [.int x, .int 1, .int 30]) (rest := []) (by decide +kernel) k12_39 (m_in (x := x) (lo := 1) (hi := 30) (by omega) (by omega)) rfl rfl ?_
  show zq_G _ _ _ _ _ 7 ([(0, .ref 41), (1, .int x), (2, .int y)], [.int (zb ((1 : Int) ≤ x.toInt ∧ x.toInt ≤ (30 : Int)))], MH c tr tx (nI Z) td dr s im kp at_ so sr va wy)
  refine zq_ifz .eq 21 (¬ ((1 : Int) ≤ x.toInt ∧ x.toInt ≤ (30 : Int))) (by decide +kernel) (zb_eq _) (fun c7 => ?_) (fun c7 => ?_)
  · show zq_G _ _ _ _ _ 21 ([(0, .ref 41), (1, .int x), (2, .int y)], [], MH c tr tx (nI Z) td dr s im kp at_ so sr va wy)
    refine zq_b [zq_k (-1)] [zq_kchk (-1)] 22 rfl (by decide +kernel) ?_
    show zq_G _ _ _ _ _ 22 ([(0, .ref 41), (1, .int x), (2, .int y)], [.int (-1)], MH c tr tx (nI Z) td dr s im kp at_ so sr va wy)
    exact zq_iret (by decide +kernel) rfl rfl rfl
  · show zq_G _ _ _ _ _ 10 ([(0, .ref 41), (1, .int x), (2, .int y)], [], MH c tr tx (nI Z) td dr s im kp at_ so sr va wy)
    refine zq_b [zq_il 2, zq_k 0, zq_k 200] [zq_ilchk 2, zq_kchk 0, zq_kchk 200] 15 rfl (by decide +kernel) ?_
    show zq_G _ _ _ _ _ 15 ([(0, .ref 41), (1, .int x), (2, .int y)], [.int 200, .int 0, .int y], MH c tr tx (nI Z) td dr s im kp at_ so sr va wy)
    refine zq_callS (av := [.int y, .int 0, .int 200]) (rest := []) (by decide +kernel) k12_39 (m_in (x := y) (lo := 0) (hi := 200) (by omega) (by omega)) rfl rfl ?_
    show zq_G _ _ _ _ _ 18 ([(0, .ref 41), (1, .int x), (2, .int y)], [.int (zb ((0 : Int) ≤ y.toInt ∧ y.toInt ≤ (200 : Int)))], MH c tr tx (nI Z) td dr s im kp at_ so sr va wy)
    refine zq_ifz .ne 23 ((0 : Int) ≤ y.toInt ∧ y.toInt ≤ (200 : Int)) (by decide +kernel) (zb_ne _) (fun c18 => ?_) (fun c18 => ?_)
    · show zq_G _ _ _ _ _ 23 ([(0, .ref 41), (1, .int x), (2, .int y)], [], MH c tr tx (nI Z) td dr s im kp at_ so sr va wy)
      exact absurd hb (by omega)
    · show zq_G _ _ _ _ _ 21 ([(0, .ref 41), (1, .int x), (2, .int y)], [], MH c tr tx (nI Z) td dr s im kp at_ so sr va wy)
      refine zq_b [zq_k (-1)] [zq_kchk (-1)] 22 rfl (by decide +kernel) ?_
      show zq_G _ _ _ _ _ 22 ([(0, .ref 41), (1, .int x), (2, .int y)], [.int (-1)], MH c tr tx (nI Z) td dr s im kp at_ so sr va wy)
      exact zq_iret (by decide +kernel) rfl rfl rfl
set_option maxHeartbeats 4000000 in
set_option maxRecDepth 100000 in
theorem m_nearer {q : Nat} {b : Nat} (ht2 : td 2 = nI R) (ht3 : td 3 = nI L) (hs2 : s 2 = nI N) (hR : R ≤ 6) (hN : N ≤ 12) (hru : ∀ j, j < R → td (26 + j) = nI (10 * ga j + gv j) ∧ ga j ≤ 7 ∧ gv j ≤ 7) (hq1 : 1 ≤ q) (hq2 : q ≤ 30) (hb2 : b ≤ 200) : zq_P l mX12_nearer 2 [.ref 41, .int (nI q), .int (nI b)] (MH c tr tx (nI Z) td dr s im kp at_ so sr va wy) (some (.int (orB (fun a => decide (¬ zmh (lwA a ga gv R) (fun a => zown (fun q => s (9 + q)) N (nI a) (nI b) (nI q)) a = zmh (lwA a ga gv R) (fun a => zown (fun q => s (9 + q)) N (nI a) (nI b) (nI L)) a)) 8))) (MH c tr tx (nI Z) td dr s im kp at_ so sr va (wyN ga gv R (fun a => zown (fun q => s (9 + q)) N (nI a) (nI b) (nI q)) (fun a => zown (fun q => s (9 + q)) N (nI a) (nI b) (nI L)) wy 8)) := by
  refine zq_start (by decide +kernel) rfl (Nat.le_of_ble_eq_true rfl) ?_
  show zq_G _ _ _ _ _ 0 ([(0, .ref 41), (1, .int (nI q)), (2, .int (nI b))], [], MH c tr tx (nI Z) td dr s im kp at_ so sr va wy)
  refine zq_b [zq_il 1, zq_k 1, zq_k 30] [zq_ilchk 1, zq_kchk 1, zq_kchk 30] 4 rfl (by decide +kernel) ?_
  show zq_G _ _ _ _ _ 4 ([(0, .ref 41), (1, .int (nI q)), (2, .int (nI b))], [.int 30, .int 1, .int (nI q)], MH c tr tx (nI Z) td dr s im kp at_ so sr va wy)
  refine zq_callS (av := [.int (nI q), .int 1, .int 30]) (rest := []) (by decide +kernel) k12_39 (m_inN (x := q) (lo := 1) (hi := 30) (by omega) (by omega) (by omega)) rfl rfl ?_
  show zq_G _ _ _ _ _ 7 ([(0, .ref 41), (1, .int (nI q)), (2, .int (nI b))], [.int (zb (1 ≤ q ∧ q ≤ 30))], MH c tr tx (nI Z) td dr s im kp at_ so sr va wy)
  refine zq_ifz .eq 21 (¬ (1 ≤ q ∧ q ≤ 30)) (by decide +kernel) (zb_eq _) (fun c7 => absurd c7 (by omega)) (fun c7 => ?_)
  show zq_G _ _ _ _ _ 10 ([(0, .ref 41), (1, .int (nI q)), (2, .int (nI b))], [], MH c tr tx (nI Z) td dr s im kp at_ so sr va wy)
  refine zq_b [zq_il 2, zq_k 0, zq_k 200] [zq_ilchk 2, zq_kchk 0, zq_kchk 200] 15 rfl (by decide +kernel) ?_
  show zq_G _ _ _ _ _ 15 ([(0, .ref 41), (1, .int (nI q)), (2, .int (nI b))], [.int 200, .int 0, .int (nI b)], MH c tr tx (nI Z) td dr s im kp at_ so sr va wy)
  refine zq_callS (av := [.int (nI b), .int 0, .int 200]) (rest := []) (by decide +kernel) k12_39 (m_inN (x := b) (lo := 0) (hi := 200) (by omega) (by omega) (by omega)) rfl rfl ?_
  show zq_G _ _ _ _ _ 18 ([(0, .ref 41), (1, .int (nI q)), (2, .int (nI b))], [.int (zb (0 ≤ b ∧ b ≤ 200))], MH c tr tx (nI Z) td dr s im kp at_ so sr va wy)
  refine zq_ifz .ne 23 (0 ≤ b ∧ b ≤ 200) (by decide +kernel) (zb_ne _) (fun c18 => ?_) (fun c18 => absurd (by omega) c18)
  show zq_G _ _ _ _ _ 23 ([(0, .ref 41), (1, .int (nI q)), (2, .int (nI b))], [], MH c tr tx (nI Z) td dr s im kp at_ so sr va wy)
  refine zq_b [zq_k 0, zq_is1 3, zq_k 0, zq_is1 4] [zq_kchk 0, zq_is1chk 3, zq_kchk 0, zq_is1chk 4] 28 rfl (by decide +kernel) ?_
  show zq_G _ _ _ _ _ 28 ([(0, .ref 41), (1, .int (nI q)), (2, .int (nI b)), (3, .int 0), (4, .int 0)], [], MH c tr tx (nI Z) td dr s im kp at_ so sr va wy)
  refine zq_loop (fun i => ([(0, .ref 41), (1, .int (nI q)), (2, .int (nI b)), (3, .int (orB (fun a => decide (¬ zmh (lwA a ga gv R) (fun a => zown (fun q => s (9 + q)) N (nI a) (nI b) (nI q)) a = zmh (lwA a ga gv R) (fun a => zown (fun q => s (9 + q)) N (nI a) (nI b) (nI L)) a)) i)), (4, .int (nI i))], [], MH c tr tx (nI Z) td dr s im kp at_ so sr va (wyN ga gv R (fun a => zown (fun q => s (9 + q)) N (nI a) (nI b) (nI q)) (fun a => zown (fun q => s (9 + q)) N (nI a) (nI b) (nI L)) wy i))) (fun i => True) (8) (0) (by omega) (trivial) (fun i hl28 hi28 hI28 ih28 => ?_) (fun hI28 => ?_)
  · show zq_G _ _ _ _ _ 28 ([(0, .ref 41), (1, .int (nI q)), (2, .int (nI b)), (3, .int (orB (fun a => decide (¬ zmh (lwA a ga gv R) (fun a => zown (fun q => s (9 + q)) N (nI a) (nI b) (nI q)) a = zmh (lwA a ga gv R) (fun a => zown (fun q => s (9 + q)) N (nI a) (nI b) (nI L)) a)) i)), (4, .int (nI i))], [], MH c tr tx (nI Z) td dr s im kp at_ so sr va (wyN ga gv R (fun a => zown (fun q => s (9 + q)) N (nI a) (nI b) (nI q)) (fun a => zown (fun q => s (9 + q)) N (nI a) (nI b) (nI L)) wy i))
    refine zq_b [zq_il 4, zq_k 8] [zq_ilchk 4, zq_kchk 8] 32 rfl (by decide +kernel) ?_
    show zq_G _ _ _ _ _ 32 ([(0, .ref 41), (1, .int (nI q)), (2, .int (nI b)), (3, .int (orB (fun a => decide (¬ zmh (lwA a ga gv R) (fun a => zown (fun q => s (9 + q)) N (nI a) (nI b) (nI q)) a = zmh (lwA a ga gv R) (fun a => zown (fun q => s (9 + q)) N (nI a) (nI b) (nI L)) a)) i)), (4, .int (nI i))], [.int 8, .int (nI i)], MH c tr tx (nI Z) td dr s im kp at_ so sr va (wyN ga gv R (fun a => zown (fun q => s (9 + q)) N (nI a) (nI b) (nI q)) (fun a => zown (fun q => s (9 + q)) N (nI a) (nI b) (nI L)) wy i))
    refine zq_if .ge 76 (8 ≤ i) (by decide +kernel) (zq_cge (a := i) (b := 8) (by omega) (by omega)) (fun c32 => absurd c32 (by omega)) (fun c32 => ?_)
    show zq_G _ _ _ _ _ 35 ([(0, .ref 41), (1, .int (nI q)), (2, .int (nI b)), (3, .int (orB (fun a => decide (¬ zmh (lwA a ga gv R) (fun a => zown (fun q => s (9 + q)) N (nI a) (nI b) (nI q)) a = zmh (lwA a ga gv R) (fun a => zown (fun q => s (9 + q)) N (nI a) (nI b) (nI L)) a)) i)), (4, .int (nI i))], [], MH c tr tx (nI Z) td dr s im kp at_ so sr va (wyN ga gv R (fun a => zown (fun q => s (9 + q)) N (nI a) (nI b) (nI q)) (fun a => zown (fun q => s (9 + q)) N (nI a) (nI b) (nI L)) wy i))
    refine zq_b [zq_il 3, zq_al 0, zq_il 4, zq_il 2, zq_il 1] [zq_ilchk 3, zq_alchk 0, zq_ilchk 4, zq_ilchk 2, zq_ilchk 1] 41 rfl (by decide +kernel) ?_
    show zq_G _ _ _ _ _ 41 ([(0, .ref 41), (1, .int (nI q)), (2, .int (nI b)), (3, .int (orB (fun a => decide (¬ zmh (lwA a ga gv R) (fun a => zown (fun q => s (9 + q)) N (nI a) (nI b) (nI q)) a = zmh (lwA a ga gv R) (fun a => zown (fun q => s (9 + q)) N (nI a) (nI b) (nI L)) a)) i)), (4, .int (nI i))], [.int (nI q), .int (nI b), .int (nI i), .ref 41, .int (orB (fun a => decide (¬ zmh (lwA a ga gv R) (fun a => zown (fun q => s (9 + q)) N (nI a) (nI b) (nI q)) a = zmh (lwA a ga gv R) (fun a => zown (fun q => s (9 + q)) N (nI a) (nI b) (nI L)) a)) i)], MH c tr tx (nI Z) td dr s im kp at_ so sr va (wyN ga gv R (fun a => zown (fun q => s (9 + q)) N (nI a) (nI b) (nI q)) (fun a => zown (fun q => s (9 + q)) N (nI a) (nI b) (nI L)) wy i))
    refine zq_callV (av := [.int (nI i), .int (nI b), .int (nI q)]) (rest := [.int (orB (fun a => decide (¬ zmh (lwA a ga gv R) (fun a => zown (fun q => s (9 + q)) N (nI a) (nI b) (nI q)) a = zmh (lwA a ga gv R) (fun a => zown (fun q => s (9 + q)) N (nI a) (nI b) (nI L)) a)) i)]) (by decide +kernel) k12_124 (m_holderBy (a := i) (y := (nI b)) (z := (nI q)) ht2 hs2 hR hN hru (by omega)) rfl rfl rfl rfl ?_
    show zq_G _ _ _ _ _ 44 ([(0, .ref 41), (1, .int (nI q)), (2, .int (nI b)), (3, .int (orB (fun a => decide (¬ zmh (lwA a ga gv R) (fun a => zown (fun q => s (9 + q)) N (nI a) (nI b) (nI q)) a = zmh (lwA a ga gv R) (fun a => zown (fun q => s (9 + q)) N (nI a) (nI b) (nI L)) a)) i)), (4, .int (nI i))], [.int (zmh (lwA i ga gv R) (fun a => zown (fun q => s (9 + q)) N (nI a) (nI b) (nI q)) i), .int (orB (fun a => decide (¬ zmh (lwA a ga gv R) (fun a => zown (fun q => s (9 + q)) N (nI a) (nI b) (nI q)) a = zmh (lwA a ga gv R) (fun a => zown (fun q => s (9 + q)) N (nI a) (nI b) (nI L)) a)) i)], MH c tr tx (nI Z) td dr s im kp at_ so sr va (wyH i ga gv R (zown (fun q => s (9 + q)) N (nI i) (nI b) (nI q)) (wyN ga gv R (fun a => zown (fun q => s (9 + q)) N (nI a) (nI b) (nI q)) (fun a => zown (fun q => s (9 + q)) N (nI a) (nI b) (nI L)) wy i)))
    refine zq_b [zq_al 0, zq_il 4, zq_il 2, zq_al 0, zq_get 12 3, zq_k 3, zq_iald 3 (nI L)] [zq_alchk 0, zq_ilchk 4, zq_ilchk 2, zq_alchk 0, zq_getchk 12 3, zq_kchk 3, zq_is .iaload 1] 54 rfl (by decide +kernel) ?_
    refine ⟨rfl, (by omega), (by omega), ht3, ?_⟩
    show zq_G _ _ _ _ _ 54 ([(0, .ref 41), (1, .int (nI q)), (2, .int (nI b)), (3, .int (orB (fun a => decide (¬ zmh (lwA a ga gv R) (fun a => zown (fun q => s (9 + q)) N (nI a) (nI b) (nI q)) a = zmh (lwA a ga gv R) (fun a => zown (fun q => s (9 + q)) N (nI a) (nI b) (nI L)) a)) i)), (4, .int (nI i))], [.int (nI L), .int (nI b), .int (nI i), .ref 41, .int (zmh (lwA i ga gv R) (fun a => zown (fun q => s (9 + q)) N (nI a) (nI b) (nI q)) i), .int (orB (fun a => decide (¬ zmh (lwA a ga gv R) (fun a => zown (fun q => s (9 + q)) N (nI a) (nI b) (nI q)) a = zmh (lwA a ga gv R) (fun a => zown (fun q => s (9 + q)) N (nI a) (nI b) (nI L)) a)) i)], MH c tr tx (nI Z) td dr s im kp at_ so sr va (wyH i ga gv R (zown (fun q => s (9 + q)) N (nI i) (nI b) (nI q)) (wyN ga gv R (fun a => zown (fun q => s (9 + q)) N (nI a) (nI b) (nI q)) (fun a => zown (fun q => s (9 + q)) N (nI a) (nI b) (nI L)) wy i)))
    refine zq_callV (av := [.int (nI i), .int (nI b), .int (nI L)]) (rest := [.int (zmh (lwA i ga gv R) (fun a => zown (fun q => s (9 + q)) N (nI a) (nI b) (nI q)) i), .int (orB (fun a => decide (¬ zmh (lwA a ga gv R) (fun a => zown (fun q => s (9 + q)) N (nI a) (nI b) (nI q)) a = zmh (lwA a ga gv R) (fun a => zown (fun q => s (9 + q)) N (nI a) (nI b) (nI L)) a)) i)]) (by decide +kernel) k12_124 (m_holderBy (a := i) (y := (nI b)) (z := (nI L)) ht2 hs2 hR hN hru (by omega)) rfl rfl rfl rfl ?_
    show zq_G _ _ _ _ _ 57 ([(0, .ref 41), (1, .int (nI q)), (2, .int (nI b)), (3, .int (orB (fun a => decide (¬ zmh (lwA a ga gv R) (fun a => zown (fun q => s (9 + q)) N (nI a) (nI b) (nI q)) a = zmh (lwA a ga gv R) (fun a => zown (fun q => s (9 + q)) N (nI a) (nI b) (nI L)) a)) i)), (4, .int (nI i))], [.int (zmh (lwA i ga gv R) (fun a => zown (fun q => s (9 + q)) N (nI a) (nI b) (nI L)) i), .int (zmh (lwA i ga gv R) (fun a => zown (fun q => s (9 + q)) N (nI a) (nI b) (nI q)) i), .int (orB (fun a => decide (¬ zmh (lwA a ga gv R) (fun a => zown (fun q => s (9 + q)) N (nI a) (nI b) (nI q)) a = zmh (lwA a ga gv R) (fun a => zown (fun q => s (9 + q)) N (nI a) (nI b) (nI L)) a)) i)], MH c tr tx (nI Z) td dr s im kp at_ so sr va (wyH i ga gv R (zown (fun q => s (9 + q)) N (nI i) (nI b) (nI L)) (wyH i ga gv R (zown (fun q => s (9 + q)) N (nI i) (nI b) (nI q)) (wyN ga gv R (fun a => zown (fun q => s (9 + q)) N (nI a) (nI b) (nI q)) (fun a => zown (fun q => s (9 + q)) N (nI a) (nI b) (nI L)) wy i))))
    refine zq_if .eq 67 ((zmh (lwA i ga gv R) (fun a => zown (fun q => s (9 + q)) N (nI a) (nI b) (nI q)) i) = (zmh (lwA i ga gv R) (fun a => zown (fun q => s (9 + q)) N (nI a) (nI b) (nI L)) i)) (by decide +kernel) (Iff.rfl) (fun c57 => ?_) (fun c57 => ?_)
    · show zq_G _ _ _ _ _ 67 ([(0, .ref 41), (1, .int (nI q)), (2, .int (nI b)), (3, .int (orB (fun a => decide (¬ zmh (lwA a ga gv R) (fun a => zown (fun q => s (9 + q)) N (nI a) (nI b) (nI q)) a = zmh (lwA a ga gv R) (fun a => zown (fun q => s (9 + q)) N (nI a) (nI b) (nI L)) a)) i)), (4, .int (nI i))], [.int (orB (fun a => decide (¬ zmh (lwA a ga gv R) (fun a => zown (fun q => s (9 + q)) N (nI a) (nI b) (nI q)) a = zmh (lwA a ga gv R) (fun a => zown (fun q => s (9 + q)) N (nI a) (nI b) (nI L)) a)) i)], MH c tr tx (nI Z) td dr s im kp at_ so sr va (wyH i ga gv R (zown (fun q => s (9 + q)) N (nI i) (nI b) (nI L)) (wyH i ga gv R (zown (fun q => s (9 + q)) N (nI i) (nI b) (nI q)) (wyN ga gv R (fun a => zown (fun q => s (9 + q)) N (nI a) (nI b) (nI q)) (fun a => zown (fun q => s (9 + q)) N (nI a) (nI b) (nI L)) wy i))))
      refine zq_b [zq_k 0, zq_ior (orB (fun a => decide (¬ zmh (lwA a ga gv R) (fun a => zown (fun q => s (9 + q)) N (nI a) (nI b) (nI q)) a = zmh (lwA a ga gv R) (fun a => zown (fun q => s (9 + q)) N (nI a) (nI b) (nI L)) a)) i), zq_is1 3, zq_inc 4 1 (nI (i + 1)), zq_go] [zq_kchk 0, zq_is .ior 1, zq_is1chk 3, zq_incchk 4 1, zq_gochk] 28 rfl (by decide +kernel) ?_
      refine ⟨Int32.or_zero, nI_add i 1, ?_⟩
      show zq_G _ _ _ _ _ 28 ([(0, .ref 41), (1, .int (nI q)), (2, .int (nI b)), (3, .int (orB (fun a => decide (¬ zmh (lwA a ga gv R) (fun a => zown (fun q => s (9 + q)) N (nI a) (nI b) (nI q)) a = zmh (lwA a ga gv R) (fun a => zown (fun q => s (9 + q)) N (nI a) (nI b) (nI L)) a)) i)), (4, .int (nI (i + 1)))], [], MH c tr tx (nI Z) td dr s im kp at_ so sr va (wyH i ga gv R (zown (fun q => s (9 + q)) N (nI i) (nI b) (nI L)) (wyH i ga gv R (zown (fun q => s (9 + q)) N (nI i) (nI b) (nI q)) (wyN ga gv R (fun a => zown (fun q => s (9 + q)) N (nI a) (nI b) (nI q)) (fun a => zown (fun q => s (9 + q)) N (nI a) (nI b) (nI L)) wy i))))
      exact zq_eq (by rw [orB_f (f := (fun a => decide (¬ zmh (lwA a ga gv R) (fun a => zown (fun q => s (9 + q)) N (nI a) (nI b) (nI q)) a = zmh (lwA a ga gv R) (fun a => zown (fun q => s (9 + q)) N (nI a) (nI b) (nI L)) a))) (decide_eq_false (fun q => q c57))]; rfl) (ih28 trivial)
    · show zq_G _ _ _ _ _ 60 ([(0, .ref 41), (1, .int (nI q)), (2, .int (nI b)), (3, .int (orB (fun a => decide (¬ zmh (lwA a ga gv R) (fun a => zown (fun q => s (9 + q)) N (nI a) (nI b) (nI q)) a = zmh (lwA a ga gv R) (fun a => zown (fun q => s (9 + q)) N (nI a) (nI b) (nI L)) a)) i)), (4, .int (nI i))], [.int (orB (fun a => decide (¬ zmh (lwA a ga gv R) (fun a => zown (fun q => s (9 + q)) N (nI a) (nI b) (nI q)) a = zmh (lwA a ga gv R) (fun a => zown (fun q => s (9 + q)) N (nI a) (nI b) (nI L)) a)) i)], MH c tr tx (nI Z) td dr s im kp at_ so sr va (wyH i ga gv R (zown (fun q => s (9 + q)) N (nI i) (nI b) (nI L)) (wyH i ga gv R (zown (fun q => s (9 + q)) N (nI i) (nI b) (nI q)) (wyN ga gv R (fun a => zown (fun q => s (9 + q)) N (nI a) (nI b) (nI q)) (fun a => zown (fun q => s (9 + q)) N (nI a) (nI b) (nI L)) wy i))))
      refine zq_b [zq_k 1, zq_il 4, zq_ishl (1 <<< (nI i &&& 31)), zq_go, zq_ior ((orB (fun a => decide (¬ zmh (lwA a ga gv R) (fun a => zown (fun q => s (9 + q)) N (nI a) (nI b) (nI q)) a = zmh (lwA a ga gv R) (fun a => zown (fun q => s (9 + q)) N (nI a) (nI b) (nI L)) a)) i) ||| (1 <<< (nI i &&& 31))), zq_is1 3, zq_inc 4 1 (nI (i + 1)), zq_go] [zq_kchk 1, zq_ilchk 4, zq_is .ishl 1, zq_gochk, zq_is .ior 1, zq_is1chk 3, zq_incchk 4 1, zq_gochk] 28 rfl (by decide +kernel) ?_
      refine ⟨rfl, rfl, nI_add i 1, ?_⟩
      show zq_G _ _ _ _ _ 28 ([(0, .ref 41), (1, .int (nI q)), (2, .int (nI b)), (3, .int ((orB (fun a => decide (¬ zmh (lwA a ga gv R) (fun a => zown (fun q => s (9 + q)) N (nI a) (nI b) (nI q)) a = zmh (lwA a ga gv R) (fun a => zown (fun q => s (9 + q)) N (nI a) (nI b) (nI L)) a)) i) ||| (1 <<< (nI i &&& 31)))), (4, .int (nI (i + 1)))], [], MH c tr tx (nI Z) td dr s im kp at_ so sr va (wyH i ga gv R (zown (fun q => s (9 + q)) N (nI i) (nI b) (nI L)) (wyH i ga gv R (zown (fun q => s (9 + q)) N (nI i) (nI b) (nI q)) (wyN ga gv R (fun a => zown (fun q => s (9 + q)) N (nI a) (nI b) (nI q)) (fun a => zown (fun q => s (9 + q)) N (nI a) (nI b) (nI L)) wy i))))
      exact zq_eq (by rw [orB_t (f := (fun a => decide (¬ zmh (lwA a ga gv R) (fun a => zown (fun q => s (9 + q)) N (nI a) (nI b) (nI q)) a = zmh (lwA a ga gv R) (fun a => zown (fun q => s (9 + q)) N (nI a) (nI b) (nI L)) a))) (decide_eq_true c57)]; rfl) (ih28 trivial)
  · show zq_G _ _ _ _ _ 28 ([(0, .ref 41), (1, .int (nI q)), (2, .int (nI b)), (3, .int (orB (fun a => decide (¬ zmh (lwA a ga gv R) (fun a => zown (fun q => s (9 + q)) N (nI a) (nI b) (nI q)) a = zmh (lwA a ga gv R) (fun a => zown (fun q => s (9 + q)) N (nI a) (nI b) (nI L)) a)) 8)), (4, .int 8)], [], MH c tr tx (nI Z) td dr s im kp at_ so sr va (wyN ga gv R (fun a => zown (fun q => s (9 + q)) N (nI a) (nI b) (nI q)) (fun a => zown (fun q => s (9 + q)) N (nI a) (nI b) (nI L)) wy 8))
    refine zq_b [zq_il 4, zq_k 8] [zq_ilchk 4, zq_kchk 8] 32 rfl (by decide +kernel) ?_
    show zq_G _ _ _ _ _ 32 ([(0, .ref 41), (1, .int (nI q)), (2, .int (nI b)), (3, .int (orB (fun a => decide (¬ zmh (lwA a ga gv R) (fun a => zown (fun q => s (9 + q)) N (nI a) (nI b) (nI q)) a = zmh (lwA a ga gv R) (fun a => zown (fun q => s (9 + q)) N (nI a) (nI b) (nI L)) a)) 8)), (4, .int 8)], [.int 8, .int 8], MH c tr tx (nI Z) td dr s im kp at_ so sr va (wyN ga gv R (fun a => zown (fun q => s (9 + q)) N (nI a) (nI b) (nI q)) (fun a => zown (fun q => s (9 + q)) N (nI a) (nI b) (nI L)) wy 8))
    refine zq_if .ge 76 (8 ≤ 8) (by decide +kernel) (zq_cge (a := 8) (b := 8) (by omega) (by omega)) (fun c32 => ?_) (fun c32 => absurd (by omega) c32)
    show zq_G _ _ _ _ _ 76 ([(0, .ref 41), (1, .int (nI q)), (2, .int (nI b)), (3, .int (orB (fun a => decide (¬ zmh (lwA a ga gv R) (fun a => zown (fun q => s (9 + q)) N (nI a) (nI b) (nI q)) a = zmh (lwA a ga gv R) (fun a => zown (fun q => s (9 + q)) N (nI a) (nI b) (nI L)) a)) 8)), (4, .int 8)], [], MH c tr tx (nI Z) td dr s im kp at_ so sr va (wyN ga gv R (fun a => zown (fun q => s (9 + q)) N (nI a) (nI b) (nI q)) (fun a => zown (fun q => s (9 + q)) N (nI a) (nI b) (nI L)) wy 8))
    refine zq_b [zq_il 3] [zq_ilchk 3] 77 rfl (by decide +kernel) ?_
    show zq_G _ _ _ _ _ 77 ([(0, .ref 41), (1, .int (nI q)), (2, .int (nI b)), (3, .int (orB (fun a => decide (¬ zmh (lwA a ga gv R) (fun a => zown (fun q => s (9 + q)) N (nI a) (nI b) (nI q)) a = zmh (lwA a ga gv R) (fun a => zown (fun q => s (9 + q)) N (nI a) (nI b) (nI L)) a)) 8)), (4, .int 8)], [.int (orB (fun a => decide (¬ zmh (lwA a ga gv R) (fun a => zown (fun q => s (9 + q)) N (nI a) (nI b) (nI q)) a = zmh (lwA a ga gv R) (fun a => zown (fun q => s (9 + q)) N (nI a) (nI b) (nI L)) a)) 8)], MH c tr tx (nI Z) td dr s im kp at_ so sr va (wyN ga gv R (fun a => zown (fun q => s (9 + q)) N (nI a) (nI b) (nI q)) (fun a => zown (fun q => s (9 + q)) N (nI a) (nI b) (nI L)) wy 8))
    exact zq_iret (by decide +kernel) rfl rfl rfl
end MV3
