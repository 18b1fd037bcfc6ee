section MV1
variable {l : Launch} {c : Nat → zq_C} {tr : Int64} {tx : Nat → Int32} {ty : Int32} {td dr s im kp : Nat → Int32} {at_ so sr va : Int32} {wy : Nat → Int32} {h : zq_H}
variable {P C R L D N K Z : Nat} {sm : Int32} {cn ga gv : Nat → Nat} {bt : Nat → Nat}
theorem nI_m9 {q : Nat} (h : q < 100) : ¬ nI q = -9 := by
  intro e
  have := congrArg Int32.toInt e
  rw [nI_toInt (by omega)] at this
  have e2 : (-9 : Int32).toInt = -9 := by decide
  omega
def gB (hs : Nat → Int32) (cc : Nat → Nat) (p q : Nat) : Bool := decide (hs p ≤ hs q) && aheadB (cc q) (cc p)
theorem gB_t {hs : Nat → Int32} {cc : Nat → Nat} {p q : Nat} (h : hs p ≤ hs q ∧ cc q < cc p ∧ cc q % 5 = cc p % 5) : gB hs cc p q = true := by
  unfold gB aheadB; rw [decide_eq_true h.1, decide_eq_true h.2.1, decide_eq_true h.2.2]; rfl
theorem gB_f {hs : Nat → Int32} {cc : Nat → Nat} {p q : Nat} (h : ¬ (hs p ≤ hs q ∧ cc q < cc p ∧ cc q % 5 = cc p % 5)) : gB hs cc p q = false := by
  cases hz : gB hs cc p q with
  | false => rfl
  | true =>
    unfold gB aheadB at hz
    simp only [Bool.and_eq_true, decide_eq_true_eq] at hz
    exact absurd ⟨hz.1, hz.2.1, hz.2.2⟩ h
def hidB (b : Bool) (g : Nat → Bool) (i : Nat) : Bool := b && !zany g i
theorem hidB_t {b : Bool} {g : Nat → Bool} {i : Nat} (h : hidB b g i = true) (hg : g i = false) : hidB b g (i + 1) = true := by
  unfold hidB at *; rw [zany, hg, Bool.or_false]; exact h
theorem hidB_f {b : Bool} {g : Nat → Bool} {i : Nat} (h : ¬ hidB b g i = true) : ¬ hidB b g (i + 1) = true := by
  unfold hidB at *
  rw [zany]
  cases b <;> cases hz : zany g i <;> simp_all
theorem hidB_g {b : Bool} {g : Nat → Bool} {i : Nat} (hg : g i = true) : ¬ hidB b g (i + 1) = true := by
  unfold hidB; rw [zany, hg]; simp
theorem hidB_b {b : Bool} {g : Nat → Bool} {i : Nat} (h : hidB b g i = true) : b = true := by
  unfold hidB at h; cases b with
  | true => rfl
  | false => cases h
def smR (sm : Int32) (k : Nat) : Nat → Bool := fun n => zany (fun r => decide (r ≤ k / 5) && decide (¬ zbit sm (nI (5 * r + k % 5)) = 0)) n
def rowB (sm : Int32) (k i : Nat) : Bool := decide (k < 25) && !smR sm k i
theorem zbit_01 (x p : Int32) : zbit x p = 0 ∨ zbit x p = 1 := by
  unfold zbit
  obtain ⟨j, hj, e⟩ := pk_andE (x >>> (p &&& 31)) (m := 1) 1 (by decide)
  rw [e]
  have : j = 0 ∨ j = 1 := by omega
  rcases this with rfl | rfl
  · exact Or.inl rfl
  · exact Or.inr rfl
theorem smR_5 {sm : Int32} {k : Nat} (h : k < 25) : smR sm k 5 = smk sm k := by
  have key : smR sm k 5 = true ↔ smk sm k = true := by
    unfold smR smk
    rw [zany_t, zany_t]
    constructor
    · rintro ⟨r, h1, h2⟩
      simp only [Bool.and_eq_true, decide_eq_true_eq] at h2
      refine ⟨k / 5 - r, by omega, decide_eq_true ?_⟩
      have e : zi ((k : Int) - 5 * ((k / 5 - r : Nat) : Int)) = nI (5 * r + k % 5) := zi_nat (by omega)
      rw [e]
      rcases zbit_01 sm (nI (5 * r + k % 5)) with q | q
      · exact absurd q h2.2
      · exact q
    · rintro ⟨i, h1, h2⟩
      have h2 := of_decide_eq_true h2
      refine ⟨k / 5 - i, by omega, ?_⟩
      have e : zi ((k : Int) - 5 * (i : Int)) = nI (5 * (k / 5 - i) + k % 5) := zi_nat (by omega)
      rw [e] at h2
      simp only [Bool.and_eq_true, decide_eq_true_eq]
      exact ⟨by omega, by rw [h2]; decide⟩
  cases h1 : smR sm k 5 <;> cases h2 : smk sm k <;> simp_all
theorem rowB_mono {sm : Int32} {k i : Nat} (hi : i ≤ 5) (h : ¬ rowB sm k i = true) : ¬ rowB sm k 5 = true := by
  unfold rowB smR at *
  intro q
  apply h
  simp only [Bool.and_eq_true, Bool.not_eq_true'] at q ⊢
  refine ⟨q.1, zany_f (fun j hj => zany_n q.2 (by omega))⟩
theorem rowB_s {sm : Int32} {k i : Nat} (h : rowB sm k i = true) (hb : (decide (i ≤ k / 5) && decide (¬ zbit sm (nI (5 * i + k % 5)) = 0)) = false) : rowB sm k (i + 1) = true := by
  unfold rowB smR at *
  rw [zany, hb, Bool.or_false]; exact h
theorem rowB_n {sm : Int32} {k i : Nat} (h1 : i ≤ k / 5) (h2 : ¬ zbit sm (nI (5 * i + k % 5)) = 0) : ¬ rowB sm k (i + 1) = true := by
  unfold rowB smR
  rw [zany, decide_eq_true h1, decide_eq_true h2]; simp
theorem rowB_25 {sm : Int32} {k i : Nat} (h : rowB sm k i = true) : k < 25 := by
  unfold rowB at h
  simp only [Bool.and_eq_true, decide_eq_true_eq] at h
  exact h.1
theorem bare_eq {P : Nat} {hs : Nat → Int32} {sm : Int32} {cc : Nat → Nat} {p : Nat} : hidB (rowB sm (cc p) 5) (gB hs cc p) P = bareB P hs sm cc p := by
  unfold hidB rowB bareB gB
  by_cases h : cc p < 25
  · rw [smR_5 h]
  · rw [decide_eq_false h]; rfl
theorem cpy_succ (f g : Nat → Int32) (sp dp i : Nat) : upd (va_cpy f g sp dp i) (dp + i) (f (sp + i)) = va_cpy f g sp dp (i + 1) := by
  funext k
  unfold upd va_cpy
  by_cases h : k = dp + i
  · subst h
    rw [if_pos rfl, if_pos (by omega), show sp + (dp + i - dp) = sp + i by omega]
  · rw [if_neg h]
    by_cases h2 : dp ≤ k ∧ k < dp + i
    · rw [if_pos h2, if_pos (by omega)]
    · rw [if_neg h2, if_neg (by omega)]
theorem cpy_0 (f g : Nat → Int32) (sp dp : Nat) : va_cpy f g sp dp 0 = g := by
  funext k
  unfold va_cpy
  rw [if_neg (by omega)]
set_option maxHeartbeats 4000000 in
set_option maxRecDepth 100000 in
theorem m_in {x : Int32} {lo : Nat} {hi : Nat} (h1 : lo < 2147483648) (h2 : hi < 2147483648) : zq_P l mX12_in 0 [.int x, .int (nI lo), .int (nI hi)] (h) (some (.int (zb ((lo : Int) ≤ x.toInt ∧ x.toInt ≤ (hi : Int))))) (h) := by
  refine zq_start (by decide +kernel) rfl (Nat.le_of_ble_eq_true rfl) ?_
  show zq_G _ _ _ _ _ 0 ([(0, .int x), (1, .int (nI lo)), (2, .int (nI hi))], [], h)
  refine zq_b [zq_il 0, zq_il 1] [zq_ilchk 0, zq_ilchk 1] 2 rfl (by decide +kernel) ?_
  show zq_G _ _ _ _ _ 2 ([(0, .int x), (1, .int (nI lo)), (2, .int (nI hi))], [.int (nI lo), .int x], h)
  refine zq_if .lt 14 (x.toInt < (lo : Int)) (by decide +kernel) (zq_tn .lt x (n := lo) (by omega)) (fun c2 => ?_) (fun c2 => ?_)
  · show zq_G _ _ _ _ _ 14 ([(0, .int x), (1, .int (nI lo)), (2, .int (nI hi))], [], h)
    refine zq_b [zq_k 0] [zq_kchk 0] 15 rfl (by decide +kernel) ?_
    show zq_G _ _ _ _ _ 15 ([(0, .int x), (1, .int (nI lo)), (2, .int (nI hi))], [.int 0], h)
    exact zq_zret (by decide +kernel) rfl (Or.inl rfl) (zb_r (zb_f (by omega))) rfl
  · show zq_G _ _ _ _ _ 5 ([(0, .int x), (1, .int (nI lo)), (2, .int (nI hi))], [], h)
    refine zq_b [zq_il 0, zq_il 2] [zq_ilchk 0, zq_ilchk 2] 7 rfl (by decide +kernel) ?_
    show zq_G _ _ _ _ _ 7 ([(0, .int x), (1, .int (nI lo)), (2, .int (nI hi))], [.int (nI hi), .int x], h)
    refine zq_if .gt 14 ((hi : Int) < x.toInt) (by decide +kernel) (zq_tn .gt x (n := hi) (by omega)) (fun c7 => ?_) (fun c7 => ?_)
    · show zq_G _ _ _ _ _ 14 ([(0, .int x), (1, .int (nI lo)), (2, .int (nI hi))], [], h)
      refine zq_b [zq_k 0] [zq_kchk 0] 15 rfl (by decide +kernel) ?_
      show zq_G _ _ _ _ _ 15 ([(0, .int x), (1, .int (nI lo)), (2, .int (nI hi))], [.int 0], h)
      exact zq_zret (by decide +kernel) rfl (Or.inl rfl) (zb_r (zb_f (by omega))) rfl
    · show zq_G _ _ _ _ _ 10 ([(0, .int x), (1, .int (nI lo)), (2, .int (nI hi))], [], h)
      refine zq_b [zq_k 1, zq_go] [zq_kchk 1, zq_gochk] 15 rfl (by decide +kernel) ?_
      show zq_G _ _ _ _ _ 15 ([(0, .int x), (1, .int (nI lo)), (2, .int (nI hi))], [.int 1], h)
      exact zq_zret (by decide +kernel) rfl (Or.inr rfl) (zb_r (zb_t (by omega))) rfl
set_option maxHeartbeats 4000000 in
set_option maxRecDepth 100000 in
theorem m_inZ {x : Int32} {lo : Nat} {z : Int} (h1 : lo < 2147483648) (h2 : -2147483648 ≤ z) (h3 : z < 2147483648) : zq_P l mX12_in 0 [.int x, .int (nI lo), .int (zi z)] (h) (some (.int (zb ((lo : Int) ≤ x.toInt ∧ x.toInt ≤ z)))) (h) := by
  refine zq_start (by decide +kernel) rfl (Nat.le_of_ble_eq_true rfl) ?_
  show zq_G _ _ _ _ _ 0 ([(0, .int x), (1, .int (nI lo)), (2, .int (zi z))], [], h)
  refine zq_b [zq_il 0, zq_il 1] [zq_ilchk 0, zq_ilchk 1] 2 rfl (by decide +kernel) ?_
  show zq_G _ _ _ _ _ 2 ([(0, .int x), (1, .int (nI lo)), (2, .int (zi z))], [.int (nI lo), .int x], h)
  refine zq_if .lt 14 (x.toInt < (lo : Int)) (by decide +kernel) (zq_tn .lt x (n := lo) (by omega)) (fun c2 => ?_) (fun c2 => ?_)
  · show zq_G _ _ _ _ _ 14 ([(0, .int x), (1, .int (nI lo)), (2, .int (zi z))], [], h)
    refine zq_b [zq_k 0] [zq_kchk 0] 15 rfl (by decide +kernel) ?_
    show zq_G _ _ _ _ _ 15 ([(0, .int x), (1, .int (nI lo)), (2, .int (zi z))], [.int 0], h)
    exact zq_zret (by decide +kernel) rfl (Or.inl rfl) (zb_r (zb_f (by omega))) rfl
  · show zq_G _ _ _ _ _ 5 ([(0, .int x), (1, .int (nI lo)), (2, .int (zi z))], [], h)
    refine zq_b [zq_il 0, zq_il 2] [zq_ilchk 0, zq_ilchk 2] 7 rfl (by decide +kernel) ?_
    show zq_G _ _ _ _ _ 7 ([(0, .int x), (1, .int (nI lo)), (2, .int (zi z))], [.int (zi z), .int x], h)
    refine zq_if .gt 14 (z < x.toInt) (by decide +kernel) (zq_tz .gt x (by omega) (by omega)) (fun c7 => ?_) (fun c7 => ?_)
    · show zq_G _ _ _ _ _ 14 ([(0, .int x), (1, .int (nI lo)), (2, .int (zi z))], [], h)
      refine zq_b [zq_k 0] [zq_kchk 0] 15 rfl (by decide +kernel) ?_
      show zq_G _ _ _ _ _ 15 ([(0, .int x), (1, .int (nI lo)), (2, .int (zi z))], [.int 0], h)
      exact zq_zret (by decide +kernel) rfl (Or.inl rfl) (zb_r (zb_f (by omega))) rfl
    · show zq_G _ _ _ _ _ 10 ([(0, .int x), (1, .int (nI lo)), (2, .int (zi z))], [], h)
      refine zq_b [zq_k 1, zq_go] [zq_kchk 1, zq_gochk] 15 rfl (by decide +kernel) ?_
      show zq_G _ _ _ _ _ 15 ([(0, .int x), (1, .int (nI lo)), (2, .int (zi z))], [.int 1], h)
      exact zq_zret (by decide +kernel) rfl (Or.inr rfl) (zb_r (zb_t (by omega))) rfl
set_option maxHeartbeats 4000000 in
set_option maxRecDepth 100000 in
theorem m_inN {x : Nat} {lo : Nat} {hi : Nat} (h0 : x < 2147483648) (h1 : lo < 2147483648) (h2 : hi < 2147483648) : zq_P l mX12_in 0 [.int (nI x), .int (nI lo), .int (nI hi)] (h) (some (.int (zb (lo ≤ x ∧ x ≤ hi)))) (h) := by
  refine zq_start (by decide +kernel) rfl (Nat.le_of_ble_eq_true rfl) ?_
  show zq_G _ _ _ _ _ 0 ([(0, .int (nI x)), (1, .int (nI lo)), (2, .int (nI hi))], [], h)
  refine zq_b [zq_il 0, zq_il 1] [zq_ilchk 0, zq_ilchk 1] 2 rfl (by decide +kernel) ?_
  show zq_G _ _ _ _ _ 2 ([(0, .int (nI x)), (1, .int (nI lo)), (2, .int (nI hi))], [.int (nI lo), .int (nI x)], h)
  refine zq_if .lt 14 (x < lo) (by decide +kernel) (zq_clt (a := x) (b := lo) (by omega) (by omega)) (fun c2 => ?_) (fun c2 => ?_)
  · show zq_G _ _ _ _ _ 14 ([(0, .int (nI x)), (1, .int (nI lo)), (2, .int (nI hi))], [], h)
    refine zq_b [zq_k 0] [zq_kchk 0] 15 rfl (by decide +kernel) ?_
    show zq_G _ _ _ _ _ 15 ([(0, .int (nI x)), (1, .int (nI lo)), (2, .int (nI hi))], [.int 0], h)
    exact zq_zret (by decide +kernel) rfl (Or.inl rfl) (zb_r (zb_f (by omega))) rfl
  · show zq_G _ _ _ _ _ 5 ([(0, .int (nI x)), (1, .int (nI lo)), (2, .int (nI hi))], [], h)
    refine zq_b [zq_il 0, zq_il 2] [zq_ilchk 0, zq_ilchk 2] 7 rfl (by decide +kernel) ?_
    show zq_G _ _ _ _ _ 7 ([(0, .int (nI x)), (1, .int (nI lo)), (2, .int (nI hi))], [.int (nI hi), .int (nI x)], h)
    refine zq_if .gt 14 (hi < x) (by decide +kernel) (zq_cgt (a := x) (b := hi) (by omega) (by omega)) (fun c7 => ?_) (fun c7 => ?_)
    · show zq_G _ _ _ _ _ 14 ([(0, .int (nI x)), (1, .int (nI lo)), (2, .int (nI hi))], [], h)
      refine zq_b [zq_k 0] [zq_kchk 0] 15 rfl (by decide +kernel) ?_
      show zq_G _ _ _ _ _ 15 ([(0, .int (nI x)), (1, .int (nI lo)), (2, .int (nI hi))], [.int 0], h)
      exact zq_zret (by decide +kernel) rfl (Or.inl rfl) (zb_r (zb_f (by omega))) rfl
    · show zq_G _ _ _ _ _ 10 ([(0, .int (nI x)), (1, .int (nI lo)), (2, .int (nI hi))], [], h)
      refine zq_b [zq_k 1, zq_go] [zq_kchk 1, zq_gochk] 15 rfl (by decide +kernel) ?_
      show zq_G _ _ _ _ _ 15 ([(0, .int (nI x)), (1, .int (nI lo)), (2, .int (nI hi))], [.int 1], h)
      exact zq_zret (by decide +kernel) rfl (Or.inr rfl) (zb_r (zb_t (by omega))) rfl
set_option maxHeartbeats 4000000 in
set_option maxRecDepth 100000 in
theorem m_inNZ {x : Nat} {lo : Nat} {z : Int} (h0 : x < 2147483648) (h1 : lo < 2147483648) (h2 : -2147483648 ≤ z) (h3 : z < 2147483648) : zq_P l mX12_in 0 [.int (nI x), .int (nI lo), .int (zi z)] (h) (some (.int (zb (lo ≤ x ∧ (x : Int) ≤ z)))) (h) := by
  refine zq_start (by decide +kernel) rfl (Nat.le_of_ble_eq_true rfl) ?_
  show zq_G _ _ _ _ _ 0 ([(0, .int (nI x)), (1, .int (nI lo)), (2, .int (zi z))], [], h)
  refine zq_b [zq_il 0, zq_il 1] [zq_ilchk 0, zq_ilchk 1] 2 rfl (by decide +kernel) ?_
  show zq_G _ _ _ _ _ 2 ([(0, .int (nI x)), (1, .int (nI lo)), (2, .int (zi z))], [.int (nI lo), .int (nI x)], h)
  refine zq_if .lt 14 (x < lo) (by decide +kernel) (zq_clt (a := x) (b := lo) (by omega) (by omega)) (fun c2 => ?_) (fun c2 => ?_)
  · show zq_G _ _ _ _ _ 14 ([(0, .int (nI x)), (1, .int (nI lo)), (2, .int (zi z))], [], h)
    refine zq_b [zq_k 0] [zq_kchk 0] 15 rfl (by decide +kernel) ?_
    show zq_G _ _ _ _ _ 15 ([(0, .int (nI x)), (1, .int (nI lo)), (2, .int (zi z))], [.int 0], h)
    exact zq_zret (by decide +kernel) rfl (Or.inl rfl) (zb_r (zb_f (by omega))) rfl
  · show zq_G _ _ _ _ _ 5 ([(0, .int (nI x)), (1, .int (nI lo)), (2, .int (zi z))], [], h)
    refine zq_b [zq_il 0, zq_il 2] [zq_ilchk 0, zq_ilchk 2] 7 rfl (by decide +kernel) ?_
    show zq_G _ _ _ _ _ 7 ([(0, .int (nI x)), (1, .int (nI lo)), (2, .int (zi z))], [.int (zi z), .int (nI x)], h)
    refine zq_if .gt 14 (z < (x : Int)) (by decide +kernel) (zq_nzi .gt (n := x) (by omega) (by omega) (by omega)) (fun c7 => ?_) (fun c7 => ?_)
    · show zq_G _ _ _ _ _ 14 ([(0, .int (nI x)), (1, .int (nI lo)), (2, .int (zi z))], [], h)
      refine zq_b [zq_k 0] [zq_kchk 0] 15 rfl (by decide +kernel) ?_
      show zq_G _ _ _ _ _ 15 ([(0, .int (nI x)), (1, .int (nI lo)), (2, .int (zi z))], [.int 0], h)
      exact zq_zret (by decide +kernel) rfl (Or.inl rfl) (zb_r (zb_f (by omega))) rfl
    · show zq_G _ _ _ _ _ 10 ([(0, .int (nI x)), (1, .int (nI lo)), (2, .int (zi z))], [], h)
      refine zq_b [zq_k 1, zq_go] [zq_kchk 1, zq_gochk] 15 rfl (by decide +kernel) ?_
      show zq_G _ _ _ _ _ 15 ([(0, .int (nI x)), (1, .int (nI lo)), (2, .int (zi z))], [.int 1], h)
      exact zq_zret (by decide +kernel) rfl (Or.inr rfl) (zb_r (zb_t (by omega))) rfl
set_option maxHeartbeats 4000000 in
set_option maxRecDepth 100000 in
theorem m_inZN {z : Int} {lo : Nat} {y : Int} (h1 : lo < 2147483648) (h2 : -2147483648 ≤ z) (h3 : z < 2147483648) (h4 : -2147483648 ≤ y) (h5 : y < 2147483648) : zq_P l mX12_in 0 [.int (zi z), .int (nI lo), .int (zi y)] (h) (some (.int (zb ((lo : Int) ≤ z ∧ z ≤ y)))) (h) := by
  refine zq_start (by decide +kernel) rfl (Nat.le_of_ble_eq_true rfl) ?_
  show zq_G _ _ _ _ _ 0 ([(0, .int (zi z)), (1, .int (nI lo)), (2, .int (zi y))], [], h)
  refine zq_b [zq_il 0, zq_il 1] [zq_ilchk 0, zq_ilchk 1] 2 rfl (by decide +kernel) ?_
  show zq_G _ _ _ _ _ 2 ([(0, .int (zi z)), (1, .int (nI lo)), (2, .int (zi y))], [.int (nI lo), .int (zi z)], h)
  refine zq_if .lt 14 (z < (lo : Int)) (by decide +kernel) (zq_zni .lt (n := lo) (by omega) (by omega) (by omega)) (fun c2 => ?_) (fun c2 => ?_)
  · show zq_G _ _ _ _ _ 14 ([(0, .int (zi z)), (1, .int (nI lo)), (2, .int (zi y))], [], h)
    refine zq_b [zq_k 0] [zq_kchk 0] 15 rfl (by decide +kernel) ?_
    show zq_G _ _ _ _ _ 15 ([(0, .int (zi z)), (1, .int (nI lo)), (2, .int (zi y))], [.int 0], h)
    exact zq_zret (by decide +kernel) rfl (Or.inl rfl) (zb_r (zb_f (by omega))) rfl
  · show zq_G _ _ _ _ _ 5 ([(0, .int (zi z)), (1, .int (nI lo)), (2, .int (zi y))], [], h)
    refine zq_b [zq_il 0, zq_il 2] [zq_ilchk 0, zq_ilchk 2] 7 rfl (by decide +kernel) ?_
    show zq_G _ _ _ _ _ 7 ([(0, .int (zi z)), (1, .int (nI lo)), (2, .int (zi y))], [.int (zi y), .int (zi z)], h)
    refine zq_if .gt 14 (y < z) (by decide +kernel) (zq_zz .gt (by omega) (by omega) (by omega) (by omega)) (fun c7 => ?_) (fun c7 => ?_)
    · show zq_G _ _ _ _ _ 14 ([(0, .int (zi z)), (1, .int (nI lo)), (2, .int (zi y))], [], h)
      refine zq_b [zq_k 0] [zq_kchk 0] 15 rfl (by decide +kernel) ?_
      show zq_G _ _ _ _ _ 15 ([(0, .int (zi z)), (1, .int (nI lo)), (2, .int (zi y))], [.int 0], h)
      exact zq_zret (by decide +kernel) rfl (Or.inl rfl) (zb_r (zb_f (by omega))) rfl
    · show zq_G _ _ _ _ _ 10 ([(0, .int (zi z)), (1, .int (nI lo)), (2, .int (zi y))], [], h)
      refine zq_b [zq_k 1, zq_go] [zq_kchk 1, zq_gochk] 15 rfl (by decide +kernel) ?_
      show zq_G _ _ _ _ _ 15 ([(0, .int (zi z)), (1, .int (nI lo)), (2, .int (zi y))], [.int 1], h)
      exact zq_zret (by decide +kernel) rfl (Or.inr rfl) (zb_r (zb_t (by omega))) rfl
set_option maxHeartbeats 4000000 in
set_option maxRecDepth 100000 in
theorem m_isPerson {p : Int32} (ht0 : td 0 = nI P) (hP : P ≤ 6) : zq_P l mX12_isPerson 1 [.ref 41, .int p] (MH c tr tx ty td dr s im kp at_ so sr va wy) (some (.int (zb (0 ≤ p.toInt ∧ p.toInt < (P : Int))))) (MH c tr tx ty td dr s im kp at_ so sr va wy) := by
  refine zq_start (by decide +kernel) rfl (Nat.le_of_ble_eq_true rfl) ?_
  show zq_G _ _ _ _ _ 0 ([(0, .ref 41), (1, .int p)], [], MH c tr tx ty td dr s im kp at_ so sr va wy)
  refine zq_b [zq_il 1, zq_k 0, zq_al 0, zq_get 12 3, zq_k 0, zq_iald 0 (nI P), zq_k 1, zq_isub (zi ((P : Int) - 1))] [zq_ilchk 1, zq_kchk 0, zq_alchk 0, zq_getchk 12 3, zq_kchk 0, zq_is .iaload 1, zq_kchk 1, zq_is .isub 1] 10 rfl (by decide +kernel) ?_
  refine ⟨rfl, (by omega), (by omega), ht0, ((zi_sub P 1).trans rfl), ?_⟩
  show zq_G _ _ _ _ _ 10 ([(0, .ref 41), (1, .int p)], [.int (zi ((P : Int) - 1)), .int 0, .int p], MH c tr tx ty td dr s im kp at_ so sr va wy)
  refine zq_callS (av := [.int p, .int 0, .int (zi ((P : Int) - 1))]) (rest := []) (by decide +kernel) k12_39 (m_inZ (x := p) (lo := 0) (z := ((P : Int) - 1)) (by omega) (by omega) (by omega)) rfl rfl ?_
  show zq_G _ _ _ _ _ 13 ([(0, .ref 41), (1, .int p)], [.int (zb ((0 : Int) ≤ p.toInt ∧ p.toInt ≤ (P : Int) - 1))], MH c tr tx ty td dr s im kp at_ so sr va wy)
  exact zq_zret (by decide +kernel) rfl (zb_01 _) (zb_r (zb_c (by omega))) rfl
set_option maxHeartbeats 4000000 in
set_option maxRecDepth 100000 in
theorem m_isPersonN {p : Nat} (ht0 : td 0 = nI P) (hP : P ≤ 6) (hp : p < 2147483648) : zq_P l mX12_isPerson 1 [.ref 41, .int (nI p)] (MH c tr tx ty td dr s im kp at_ so sr va wy) (some (.int (zb (p < P)))) (MH c tr tx ty td dr s im kp at_ so sr va wy) := by
  refine zq_start (by decide +kernel) rfl (Nat.le_of_ble_eq_true rfl) ?_
  show zq_G _ _ _ _ _ 0 ([(0, .ref 41), (1, .int (nI p))], [], MH c tr tx ty td dr s im kp at_ so sr va wy)
  refine zq_b [zq_il 1, zq_k 0, zq_al 0, zq_get 12 3, zq_k 0, zq_iald 0 (nI P), zq_k 1, zq_isub (zi ((P : Int) - 1))] [zq_ilchk 1, zq_kchk 0, zq_alchk 0, zq_getchk 12 3, zq_kchk 0, zq_is .iaload 1, zq_kchk 1, zq_is .isub 1] 10 rfl (by decide +kernel) ?_
  refine ⟨rfl, (by omega), (by omega), ht0, ((zi_sub P 1).trans rfl), ?_⟩
  show zq_G _ _ _ _ _ 10 ([(0, .ref 41), (1, .int (nI p))], [.int (zi ((P : Int) - 1)), .int 0, .int (nI p)], MH c tr tx ty td dr s im kp at_ so sr va wy)
  refine zq_callS (av := [.int (nI p), .int 0, .int (zi ((P : Int) - 1))]) (rest := []) (by decide +kernel) k12_39 (m_inNZ (x := p) (lo := 0) (z := ((P : Int) - 1)) (by omega) (by omega) (by omega) (by omega)) rfl rfl ?_
  show zq_G _ _ _ _ _ 13 ([(0, .ref 41), (1, .int (nI p))], [.int (zb (0 ≤ p ∧ (p : Int) ≤ (P : Int) - 1))], MH c tr tx ty td dr s im kp at_ so sr va wy)
  exact zq_zret (by decide +kernel) rfl (zb_01 _) (zb_r (zb_c (by omega))) rfl
set_option maxHeartbeats 4000000 in
set_option maxRecDepth 100000 in
theorem m_isDeed {p : Int32} (hs2 : s 2 = nI N) (hN : N ≤ 12) : zq_P l mX12_isDeed 1 [.ref 41, .int p] (MH c tr tx ty td dr s im kp at_ so sr va wy) (some (.int (zb (0 ≤ p.toInt ∧ p.toInt < (N : Int))))) (MH c tr tx ty td dr s im kp at_ so sr va wy) := by
  refine zq_start (by decide +kernel) rfl (Nat.le_of_ble_eq_true rfl) ?_
  show zq_G _ _ _ _ _ 0 ([(0, .ref 41), (1, .int p)], [], MH c tr tx ty td dr s im kp at_ so sr va wy)
  refine zq_b [zq_il 1, zq_k 0, zq_al 0, zq_get 12 5, zq_k 2, zq_iald 2 (nI N), zq_k 1, zq_isub (zi ((N : Int) - 1))] [zq_ilchk 1, zq_kchk 0, zq_alchk 0, zq_getchk 12 5, zq_kchk 2, zq_is .iaload 1, zq_kchk 1, zq_is .isub 1] 10 rfl (by decide +kernel) ?_
  refine ⟨rfl, (by omega), (by omega), hs2, ((zi_sub N 1).trans rfl), ?_⟩
  show zq_G _ _ _ _ _ 10 ([(0, .ref 41), (1, .int p)], [.int (zi ((N : Int) - 1)), .int 0, .int p], MH c tr tx ty td dr s im kp at_ so sr va wy)
  refine zq_callS (av := [.int p, .int 0, .int (zi ((N : Int) - 1))]) (rest := []) (by decide +kernel) k12_39 (m_inZ (x := p) (lo := 0) (z := ((N : Int) - 1)) (by omega) (by omega) (by omega)) rfl rfl ?_
  show zq_G _ _ _ _ _ 13 ([(0, .ref 41), (1, .int p)], [.int (zb ((0 : Int) ≤ p.toInt ∧ p.toInt ≤ (N : Int) - 1))], MH c tr tx ty td dr s im kp at_ so sr va wy)
  exact zq_zret (by decide +kernel) rfl (zb_01 _) (zb_r (zb_c (by omega))) rfl
set_option maxHeartbeats 4000000 in
set_option maxRecDepth 100000 in
theorem m_isDeedN {p : Nat} (hs2 : s 2 = nI N) (hN : N ≤ 12) (hp : p < 2147483648) : zq_P l mX12_isDeed 1 [.ref 41, .int (nI p)] (MH c tr tx ty td dr s im kp at_ so sr va wy) (some (.int (zb (p < N)))) (MH c tr tx ty td dr s im kp at_ so sr va wy) := by
  refine zq_start (by decide +kernel) rfl (Nat.le_of_ble_eq_true rfl) ?_
  show zq_G _ _ _ _ _ 0 ([(0, .ref 41), (1, .int (nI p))], [], MH c tr tx ty td dr s im kp at_ so sr va wy)
  refine zq_b [zq_il 1, zq_k 0, zq_al 0, zq_get 12 5, zq_k 2, zq_iald 2 (nI N), zq_k 1, zq_isub (zi ((N : Int) - 1))] [zq_ilchk 1, zq_kchk 0, zq_alchk 0, zq_getchk 12 5, zq_kchk 2, zq_is .iaload 1, zq_kchk 1, zq_is .isub 1] 10 rfl (by decide +kernel) ?_
  refine ⟨rfl, (by omega), (by omega), hs2, ((zi_sub N 1).trans rfl), ?_⟩
  show zq_G _ _ _ _ _ 10 ([(0, .ref 41), (1, .int (nI p))], [.int (zi ((N : Int) - 1)), .int 0, .int (nI p)], MH c tr tx ty td dr s im kp at_ so sr va wy)
  refine zq_callS (av := [.int (nI p), .int 0, .int (zi ((N : Int) - 1))]) (rest := []) (by decide +kernel) k12_39 (m_inNZ (x := p) (lo := 0) (z := ((N : Int) - 1)) (by omega) (by omega) (by omega) (by omega)) rfl rfl ?_
  show zq_G _ _ _ _ _ 13 ([(0, .ref 41), (1, .int (nI p))], [.int (zb (0 ≤ p ∧ (p : Int) ≤ (N : Int) - 1))], MH c tr tx ty td dr s im kp at_ so sr va wy)
  exact zq_zret (by decide +kernel) rfl (zb_01 _) (zb_r (zb_c (by omega))) rfl
set_option maxHeartbeats 4000000 in
set_option maxRecDepth 100000 in
theorem m_isPeople {x : Int32} (ht0 : td 0 = nI P) (hP : P ≤ 6) : zq_P l mX12_isPeople 1 [.ref 41, .int x] (MH c tr tx ty td dr s im kp at_ so sr va wy) (some (.int (zb (0 ≤ x.toInt ∧ x.toInt < (zp2 P : Int))))) (MH c tr tx ty td dr s im kp at_ so sr va wy) := by
  refine zq_start (by decide +kernel) rfl (Nat.le_of_ble_eq_true rfl) ?_
  show zq_G _ _ _ _ _ 0 ([(0, .ref 41), (1, .int x)], [], MH c tr tx ty td dr s im kp at_ so sr va wy)
  have hp2 := zp2_lt P (by omega)
  refine zq_b [zq_il 1, zq_k 0, zq_k 1, zq_al 0, zq_get 12 3, zq_k 0, zq_iald 0 (nI P), zq_ishl (nI (zp2 P)), zq_k 1, zq_isub (zi ((zp2 P : Int) - 1))] [zq_ilchk 1, zq_kchk 0, zq_kchk 1, zq_alchk 0, zq_getchk 12 3, zq_kchk 0, zq_is .iaload 1, zq_is .ishl 1, zq_kchk 1, zq_is .isub 1] 12 rfl (by decide +kernel) ?_
  refine ⟨rfl, (by omega), (by omega), ht0, (zp2_sh P (by omega)), ((zi_sub (zp2 P) 1).trans rfl), ?_⟩
  show zq_G _ _ _ _ _ 12 ([(0, .ref 41), (1, .int x)], [.int (zi ((zp2 P : Int) - 1)), .int 0, .int x], MH c tr tx ty td dr s im kp at_ so sr va wy)
  refine zq_callS (av := [.int x, .int 0, .int (zi ((zp2 P : Int) - 1))]) (rest := []) (by decide +kernel) k12_39 (m_inZ (x := x) (lo := 0) (z := ((zp2 P : Int) - 1)) (by omega) (by omega) (by omega)) rfl rfl ?_
  show zq_G _ _ _ _ _ 15 ([(0, .ref 41), (1, .int x)], [.int (zb ((0 : Int) ≤ x.toInt ∧ x.toInt ≤ (zp2 P : Int) - 1))], MH c tr tx ty td dr s im kp at_ so sr va wy)
  exact zq_zret (by decide +kernel) rfl (zb_01 _) (zb_r (zb_c (by omega))) rfl
set_option maxHeartbeats 4000000 in
set_option maxRecDepth 100000 in
theorem m_type_bad {x : Int32} (hb : x.toInt < 0 ∨ 255 < x.toInt) : zq_P l mX12_type 1 [.ref 41, .int x] (MH c tr tx (nI Z) td dr s im kp at_ so sr va wy) (some (.int (-1))) (MH c tr tx (nI Z) td dr s im kp at_ so sr va wy) := by
  refine zq_start (by decide +kernel) rfl (Nat.le_of_ble_eq_true rfl) ?_
  show zq_G _ _ _ _ _ 0 ([(0, .ref 41), (1, .int x)], [], MH c tr tx (nI Z) td dr s im kp at_ so sr va wy)
  refine zq_b [zq_il 1, zq_k 0, zq_k 255] [zq_ilchk 1, zq_kchk 0, zq_kchk 255] 5 rfl (by decide +kernel) ?_
  show zq_G _ _ _ _ _ 5 ([(0, .ref 41), (1, .int x)], [.int 255, .int 0, .int x], MH c tr tx (nI Z) td dr s im kp at_ so sr va wy)
  refine zq_callS (av := [.int x, .int 0, .int 255]) (rest := []) (by decide +kernel) k12_39 (m_in (x := x) (lo := 0) (hi := 255) (by omega) (by omega)) rfl rfl ?_
  show zq_G _ _ _ _ _ 8 ([(0, .ref 41), (1, .int x)], [.int (zb ((0 : Int) ≤ x.toInt ∧ x.toInt ≤ (255 : Int)))], MH c tr tx (nI Z) td dr s im kp at_ so sr va wy)
  refine zq_ifz .ne 13 ((0 : Int) ≤ x.toInt ∧ x.toInt ≤ (255 : Int)) (by decide +kernel) (zb_ne _) (fun c8 => ?_) (fun c8 => ?_)
  · show zq_G _ _ _ _ _ 13 ([(0, .ref 41), (1, .int x)], [], MH c tr tx (nI Z) td dr s im kp at_ so sr va wy)
    exact absurd hb (by omega)
  · show zq_G _ _ _ _ _ 11 ([(0, .ref 41), (1, .int x)], [], MH c tr tx (nI Z) td dr s im kp at_ so sr va wy)
    refine zq_b [zq_k (-1)] [zq_kchk (-1)] 12 rfl (by decide +kernel) ?_
    show zq_G _ _ _ _ _ 12 ([(0, .ref 41), (1, .int x)], [.int (-1)], MH c tr tx (nI Z) td dr s im kp at_ so sr va wy)
    exact zq_iret (by decide +kernel) rfl rfl rfl
set_option maxHeartbeats 4000000 in
set_option maxRecDepth 100000 in
theorem m_type_full {a : Nat} (ha : a ≤ 255) (hZ : Z = 200) : zq_P l mX12_type 1 [.ref 41, .int (nI a)] (MH c tr tx (nI Z) td dr s im kp at_ so sr va wy) (some (.int (-3))) (MH c tr tx (nI Z) td dr s im kp at_ so sr va wy) := by
  refine zq_start (by decide +kernel) rfl (Nat.le_of_ble_eq_true rfl) ?_
  show zq_G _ _ _ _ _ 0 ([(0, .ref 41), (1, .int (nI a))], [], MH c tr tx (nI Z) td dr s im kp at_ so sr va wy)
  refine zq_b [zq_il 1, zq_k 0, zq_k 255] [zq_ilchk 1, zq_kchk 0, zq_kchk 255] 5 rfl (by decide +kernel) ?_
  show zq_G _ _ _ _ _ 5 ([(0, .ref 41), (1, .int (nI a))], [.int 255, .int 0, .int (nI a)], MH c tr tx (nI Z) td dr s im kp at_ so sr va wy)
  refine zq_callS (av := [.int (nI a), .int 0, .int 255]) (rest := []) (by decide +kernel) k12_39 (m_inN (x := a) (lo := 0) (hi := 255) (by omega) (by omega) (by omega)) rfl rfl ?_
  show zq_G _ _ _ _ _ 8 ([(0, .ref 41), (1, .int (nI a))], [.int (zb (0 ≤ a ∧ a ≤ 255))], MH c tr tx (nI Z) td dr s im kp at_ so sr va wy)
  refine zq_ifz .ne 13 (0 ≤ a ∧ a ≤ 255) (by decide +kernel) (zb_ne _) (fun c8 => ?_) (fun c8 => absurd (by omega) c8)
  show zq_G _ _ _ _ _ 13 ([(0, .ref 41), (1, .int (nI a))], [], MH c tr tx (nI Z) td dr s im kp at_ so sr va wy)
  refine zq_b [zq_al 0, zq_get 12 2, zq_k 200] [zq_alchk 0, zq_getchk 12 2, zq_kchk 200] 20 rfl (by decide +kernel) ?_
  show zq_G _ _ _ _ _ 20 ([(0, .ref 41), (1, .int (nI a))], [.int 200, .int (nI Z)], MH c tr tx (nI Z) td dr s im kp at_ so sr va wy)
  refine zq_if .ne 26 (¬ Z = 200) (by decide +kernel) (zq_cne (a := Z) (b := 200) (by omega) (by omega)) (fun c20 => absurd c20 (by omega)) (fun c20 => ?_)
  show zq_G _ _ _ _ _ 23 ([(0, .ref 41), (1, .int (nI a))], [], MH c tr tx (nI Z) td dr s im kp at_ so sr va wy)
  refine zq_b [zq_k (-3)] [zq_kchk (-3)] 25 rfl (by decide +kernel) ?_
  show zq_G _ _ _ _ _ 25 ([(0, .ref 41), (1, .int (nI a))], [.int (-3)], MH c tr tx (nI Z) td dr s im kp at_ so sr va wy)
  exact zq_iret (by decide +kernel) rfl rfl rfl
set_option maxHeartbeats 4000000 in
set_option maxRecDepth 100000 in
theorem m_type {a : Nat} (ha : a ≤ 255) (hZ : Z < 200) : zq_P l mX12_type 1 [.ref 41, .int (nI a)] (MH c tr tx (nI Z) td dr s im kp at_ so sr va wy) (some (.int (nI (Z + 1)))) (MH c tr (upd tx Z (nI a)) (nI (Z + 1)) td dr s im kp at_ so sr va wy) := by
  refine zq_start (by decide +kernel) rfl (Nat.le_of_ble_eq_true rfl) ?_
  show zq_G _ _ _ _ _ 0 ([(0, .ref 41), (1, .int (nI a))], [], MH c tr tx (nI Z) td dr s im kp at_ so sr va wy)
  refine zq_b [zq_il 1, zq_k 0, zq_k 255] [zq_ilchk 1, zq_kchk 0, zq_kchk 255] 5 rfl (by decide +kernel) ?_
  show zq_G _ _ _ _ _ 5 ([(0, .ref 41), (1, .int (nI a))], [.int 255, .int 0, .int (nI a)], MH c tr tx (nI Z) td dr s im kp at_ so sr va wy)
  refine zq_callS (av := [.int (nI a), .int 0, .int 255]) (rest := []) (by decide +kernel) k12_39 (m_inN (x := a) (lo := 0) (hi := 255) (by omega) (by omega) (by omega)) rfl rfl ?_
  show zq_G _ _ _ _ _ 8 ([(0, .ref 41), (1, .int (nI a))], [.int (zb (0 ≤ a ∧ a ≤ 255))], MH c tr tx (nI Z) td dr s im kp at_ so sr va wy)
  refine zq_ifz .ne 13 (0 ≤ a ∧ a ≤ 255) (by decide +kernel) (zb_ne _) (fun c8 => ?_) (fun c8 => absurd (by omega) c8)
  show zq_G _ _ _ _ _ 13 ([(0, .ref 41), (1, .int (nI a))], [], MH c tr tx (nI Z) td dr s im kp at_ so sr va wy)
  refine zq_b [zq_al 0, zq_get 12 2, zq_k 200] [zq_alchk 0, zq_getchk 12 2, zq_kchk 200] 20 rfl (by decide +kernel) ?_
  show zq_G _ _ _ _ _ 20 ([(0, .ref 41), (1, .int (nI a))], [.int 200, .int (nI Z)], MH c tr tx (nI Z) td dr s im kp at_ so sr va wy)
  refine zq_if .ne 26 (¬ Z = 200) (by decide +kernel) (zq_cne (a := Z) (b := 200) (by omega) (by omega)) (fun c20 => ?_) (fun c20 => absurd (by omega) c20)
  show zq_G _ _ _ _ _ 26 ([(0, .ref 41), (1, .int (nI a))], [], MH c tr tx (nI Z) td dr s im kp at_ so sr va wy)
  refine zq_b [zq_al 0, zq_get 12 1, zq_al 0, zq_get 12 2, zq_il 1, zq_iast Z, zq_al 0, zq_dup, zq_get 12 2, zq_k 1, zq_iadd (nI (Z + 1)), zq_puti 12 2, zq_al 0, zq_get 12 2] [zq_alchk 0, zq_getchk 12 1, zq_alchk 0, zq_getchk 12 2, zq_ilchk 1, zq_is .iastore 1, zq_alchk 0, zq_is .dup 1, zq_getchk 12 2, zq_kchk 1, zq_is .iadd 1, zq_putchk 12 2 .int, zq_alchk 0, zq_getchk 12 2] 50 rfl (by decide +kernel) ?_
  refine ⟨rfl, (by omega), (by omega), (nI_add Z 1), ?_⟩
  show zq_G _ _ _ _ _ 50 ([(0, .ref 41), (1, .int (nI a))], [.int (nI (Z + 1))], MH c tr (upd tx Z (nI a)) (nI (Z + 1)) td dr s im kp at_ so sr va wy)
  exact zq_iret (by decide +kernel) rfl rfl rfl
set_option maxHeartbeats 4000000 in
set_option maxRecDepth 100000 in
theorem m_clear   : zq_P l mX12_clear 0 [.ref 41] (MH c tr tx (nI Z) td dr s im kp at_ so sr va wy) (some (.int (nI Z))) (MH c tr tx 0 td dr s im kp at_ so sr va wy) := by
  refine zq_start (by decide +kernel) rfl (Nat.le_of_ble_eq_true rfl) ?_
  show zq_G _ _ _ _ _ 0 ([(0, .ref 41)], [], MH c tr tx (nI Z) td dr s im kp at_ so sr va wy)
  refine zq_b [zq_al 0, zq_get 12 2, zq_is1 1, zq_al 0, zq_k 0, zq_puti 12 2, zq_il 1] [zq_alchk 0, zq_getchk 12 2, zq_is1chk 1, zq_alchk 0, zq_kchk 0, zq_putchk 12 2 .int, zq_ilchk 1] 11 rfl (by decide +kernel) ?_
  show zq_G _ _ _ _ _ 11 ([(0, .ref 41), (1, .int (nI Z))], [.int (nI Z)], MH c tr tx 0 td dr s im kp at_ so sr va wy)
  exact zq_iret (by decide +kernel) rfl rfl rfl
set_option maxHeartbeats 4000000 in
set_option maxRecDepth 100000 in
theorem m_isCloud {day : Int32} (ht1 : td 1 = nI C) (hC : C ≤ 8) : zq_P l mX12_isCloud 0 [.ref 41, .int day] (MH c tr tx ty td dr s im kp at_ so sr va wy) (some (.int (zb (zany (fun i => decide (td (18 + i) = day)) C = true)))) (MH c tr tx ty td dr s im kp at_ so sr va wy) := by
  refine zq_start (by decide +kernel) rfl (Nat.le_of_ble_eq_true rfl) ?_
  show zq_G _ _ _ _ _ 0 ([(0, .ref 41), (1, .int day)], [], MH c tr tx ty td dr s im kp at_ so sr va wy)
  refine zq_b [zq_k 0, zq_is1 2, zq_k 0, zq_is1 3] [zq_kchk 0, zq_is1chk 2, zq_kchk 0, zq_is1chk 3] 4 rfl (by decide +kernel) ?_
  show zq_G _ _ _ _ _ 4 ([(0, .ref 41), (1, .int day), (2, .int 0), (3, .int 0)], [], MH c tr tx ty td dr s im kp at_ so sr va wy)
  refine zq_eq (σ2 := ([(0, .ref 41), (1, .int day), (2, .int (zb (zany (fun i => decide (td (18 + i) = day)) (0 : Nat) = true))), (3, .int (nI (0 : Nat)))], [], MH c tr tx ty td dr s im kp at_ so sr va wy)) (rfl) ?_
  refine zq_loop (fun i => ([(0, .ref 41), (1, .int day), (2, .int (zb (zany (fun i => decide (td (18 + i) = day)) i = true))), (3, .int (nI i))], [], MH c tr tx ty td dr s im kp at_ so sr va wy)) (fun i => True) (C) (0) (by omega) (trivial) (fun i hl4 hi4 hI4 ih4 => ?_) (fun hI4 => ?_)
  · show zq_G _ _ _ _ _ 4 ([(0, .ref 41), (1, .int day), (2, .int (zb (zany (fun i => decide (td (18 + i) = day)) i = true))), (3, .int (nI i))], [], MH c tr tx ty td dr s im kp at_ so sr va wy)
    refine zq_b [zq_il 3, zq_al 0, zq_get 12 3, zq_k 1, zq_iald 1 (nI C)] [zq_ilchk 3, zq_alchk 0, zq_getchk 12 3, zq_kchk 1, zq_is .iaload 1] 11 rfl (by decide +kernel) ?_
    refine ⟨rfl, (by omega), (by omega), ht1, ?_⟩
    show zq_G _ _ _ _ _ 11 ([(0, .ref 41), (1, .int day), (2, .int (zb (zany (fun i => decide (td (18 + i) = day)) i = true))), (3, .int (nI i))], [.int (nI C), .int (nI i)], MH c tr tx ty td dr s im kp at_ so sr va wy)
    refine zq_if .ge 43 (C ≤ i) (by decide +kernel) (zq_cge (a := i) (b := C) (by omega) (by omega)) (fun c11 => absurd c11 (by omega)) (fun c11 => ?_)
    show zq_G _ _ _ _ _ 14 ([(0, .ref 41), (1, .int day), (2, .int (zb (zany (fun i => decide (td (18 + i) = day)) i = true))), (3, .int (nI i))], [], MH c tr tx ty td dr s im kp at_ so sr va wy)
    refine zq_b [zq_il 2] [zq_ilchk 2] 15 rfl (by decide +kernel) ?_
    show zq_G _ _ _ _ _ 15 ([(0, .ref 41), (1, .int day), (2, .int (zb (zany (fun i => decide (td (18 + i) = day)) i = true))), (3, .int (nI i))], [.int (zb (zany (fun i => decide (td (18 + i) = day)) i = true))], MH c tr tx ty td dr s im kp at_ so sr va wy)
    refine zq_ifz .ne 31 (zany (fun i => decide (td (18 + i) = day)) i = true) (by decide +kernel) (zb_ne _) (fun c15 => ?_) (fun c15 => ?_)
    · show zq_G _ _ _ _ _ 31 ([(0, .ref 41), (1, .int day), (2, .int (zb (zany (fun i => decide (td (18 + i) = day)) i = true))), (3, .int (nI i))], [], MH c tr tx ty td dr s im kp at_ so sr va wy)
      refine zq_b [zq_k 1, zq_go, zq_is1 2, zq_inc 3 1 (nI (i + 1)), zq_go] [zq_kchk 1, zq_gochk, zq_is1chk 2, zq_incchk 3 1, zq_gochk] 4 rfl (by decide +kernel) ?_
      refine ⟨nI_add i 1, ?_⟩
      show zq_G _ _ _ _ _ 4 ([(0, .ref 41), (1, .int day), (2, .int 1), (3, .int (nI (i + 1)))], [], MH c tr tx ty td dr s im kp at_ so sr va wy)
      exact zq_eq (by rw [← zb_t (P := zany (fun i => decide (td (18 + i) = day)) (i + 1) = true) (by rw [zany, Bool.or_eq_true]; exact Or.inl c15)]) (ih4 trivial)
    · show zq_G _ _ _ _ _ 18 ([(0, .ref 41), (1, .int day), (2, .int (zb (zany (fun i => decide (td (18 + i) = day)) i = true))), (3, .int (nI i))], [], MH c tr tx ty td dr s im kp at_ so sr va wy)
      refine zq_b [zq_al 0, zq_get 12 3, zq_k 18, zq_il 3, zq_iadd (nI (18 + i)), zq_iald (18 + i) (td (18 + i)), zq_il 1] [zq_alchk 0, zq_getchk 12 3, zq_kchk 18, zq_ilchk 3, zq_is .iadd 1, zq_is .iaload 1, zq_ilchk 1] 28 rfl (by decide +kernel) ?_
      refine ⟨(nI_add 18 i), rfl, (by omega), (by omega), rfl, ?_⟩
      show zq_G _ _ _ _ _ 28 ([(0, .ref 41), (1, .int day), (2, .int (zb (zany (fun i => decide (td (18 + i) = day)) i = true))), (3, .int (nI i))], [.int day, .int (td (18 + i))], MH c tr tx ty td dr s im kp at_ so sr va wy)
      refine zq_if .ne 35 (¬ (td (18 + i)) = day) (by decide +kernel) (Iff.rfl) (fun c28 => ?_) (fun c28 => ?_)
      · show zq_G _ _ _ _ _ 35 ([(0, .ref 41), (1, .int day), (2, .int (zb (zany (fun i => decide (td (18 + i) = day)) i = true))), (3, .int (nI i))], [], MH c tr tx ty td dr s im kp at_ so sr va wy)
        refine zq_b [zq_k 0, zq_is1 2, zq_inc 3 1 (nI (i + 1)), zq_go] [zq_kchk 0, zq_is1chk 2, zq_incchk 3 1, zq_gochk] 4 rfl (by decide +kernel) ?_
        refine ⟨nI_add i 1, ?_⟩
        show zq_G _ _ _ _ _ 4 ([(0, .ref 41), (1, .int day), (2, .int 0), (3, .int (nI (i + 1)))], [], MH c tr tx ty td dr s im kp at_ so sr va wy)
        exact zq_eq (by rw [← zb_f (P := zany (fun i => decide (td (18 + i) = day)) (i + 1) = true) (by rw [zany, Bool.or_eq_true]; rintro (q | q); exact c15 q; exact c28 (of_decide_eq_true q))]) (ih4 trivial)
      · show zq_G _ _ _ _ _ 31 ([(0, .ref 41), (1, .int day), (2, .int (zb (zany (fun i => decide (td (18 + i) = day)) i = true))), (3, .int (nI i))], [], MH c tr tx ty td dr s im kp at_ so sr va wy)
        refine zq_b [zq_k 1, zq_go, zq_is1 2, zq_inc 3 1 (nI (i + 1)), zq_go] [zq_kchk 1, zq_gochk, zq_is1chk 2, zq_incchk 3 1, zq_gochk] 4 rfl (by decide +kernel) ?_
        refine ⟨nI_add i 1, ?_⟩
        show zq_G _ _ _ _ _ 4 ([(0, .ref 41), (1, .int day), (2, .int 1), (3, .int (nI (i + 1)))], [], MH c tr tx ty td dr s im kp at_ so sr va wy)
        exact zq_eq (by rw [← zb_t (P := zany (fun i => decide (td (18 + i) = day)) (i + 1) = true) (by rw [zany, Bool.or_eq_true]; exact Or.inr (decide_eq_true (Decidable.not_not.mp c28)))]) (ih4 trivial)
  · show zq_G _ _ _ _ _ 4 ([(0, .ref 41), (1, .int day), (2, .int (zb (zany (fun i => decide (td (18 + i) = day)) C = true))), (3, .int (nI C))], [], MH c tr tx ty td dr s im kp at_ so sr va wy)
    refine zq_b [zq_il 3, zq_al 0, zq_get 12 3, zq_k 1, zq_iald 1 (nI C)] [zq_ilchk 3, zq_alchk 0, zq_getchk 12 3, zq_kchk 1, zq_is .iaload 1] 11 rfl (by decide +kernel) ?_
    refine ⟨rfl, (by omega), (by omega), ht1, ?_⟩
    show zq_G _ _ _ _ _ 11 ([(0, .ref 41), (1, .int day), (2, .int (zb (zany (fun i => decide (td (18 + i) = day)) C = true))), (3, .int (nI C))], [.int (nI C), .int (nI C)], MH c tr tx ty td dr s im kp at_ so sr va wy)
    refine zq_if .ge 43 (C ≤ C) (by decide +kernel) (zq_cge (a := C) (b := C) (by omega) (by omega)) (fun c11 => ?_) (fun c11 => absurd (by omega) c11)
    show zq_G _ _ _ _ _ 43 ([(0, .ref 41), (1, .int day), (2, .int (zb (zany (fun i => decide (td (18 + i) = day)) C = true))), (3, .int (nI C))], [], MH c tr tx ty td dr s im kp at_ so sr va wy)
    refine zq_b [zq_il 2] [zq_ilchk 2] 44 rfl (by decide +kernel) ?_
    show zq_G _ _ _ _ _ 44 ([(0, .ref 41), (1, .int day), (2, .int (zb (zany (fun i => decide (td (18 + i) = day)) C = true))), (3, .int (nI C))], [.int (zb (zany (fun i => decide (td (18 + i) = day)) C = true))], MH c tr tx ty td dr s im kp at_ so sr va wy)
    exact zq_zret (by decide +kernel) rfl (zb_01 _) rfl rfl
set_option maxHeartbeats 4000000 in
set_option maxRecDepth 100000 in
theorem m_bare2 {p wc : Nat} {wv : Int32} {b : Bool} (ht0 : td 0 = nI P) (hP : P ≤ 6) (hce : ∀ j, j < P → s (3 + j) = nI (cn j) ∧ cn j ≤ 26) (hp : p < P) (hwc : wc ≤ 26) (hb25 : b = true → zcm wv wc cn p < 25) : zq_G l mX12_isBare 0 (some (.int (zb (hidB b (gB (fun j => td (6 + j)) (zcm wv wc cn) p) P = true)))) (MH c tr tx ty td dr s im kp at_ so sr va wy) 90 ([(0, .ref 41), (1, .int (nI p)), (2, .int wv), (3, .int (nI wc)), (4, .int (nI (zcm wv wc cn p))), (5, .int (zb (b = true)))], [], MH c tr tx ty td dr s im kp at_ so sr va wy) := by
  have hz : ∀ q, q < P → zcm wv wc cn q ≤ 26 := fun q hq => zcm_le hwc (hce q hq).2
  have hzp := hz p hp
  refine zq_b [zq_k 0, zq_is1 6] [zq_kchk 0, zq_is1chk 6] 93 rfl (by decide +kernel) ?_
  show zq_G _ _ _ _ _ 93 ([(0, .ref 41), (1, .int (nI p)), (2, .int wv), (3, .int (nI wc)), (4, .int (nI (zcm wv wc cn p))), (5, .int (zb (b = true))), (6, .int 0)], [], MH c tr tx ty td dr s im kp at_ so sr va wy)
  refine zq_eq (σ2 := ([(0, .ref 41), (1, .int (nI p)), (2, .int wv), (3, .int (nI wc)), (4, .int (nI (zcm wv wc cn p))), (5, .int (zb (hidB b (gB (fun j => td (6 + j)) (zcm wv wc cn) p) (0 : Nat) = true))), (6, .int (nI (0 : Nat)))], [], MH c tr tx ty td dr s im kp at_ so sr va wy)) (by rw [zb_c (P := b = true) (Q := hidB b (gB (fun j => td (6 + j)) (zcm wv wc cn) p) 0 = true) (by unfold hidB; simp [zany])]; rfl) ?_
  refine zq_loop (fun i => ([(0, .ref 41), (1, .int (nI p)), (2, .int wv), (3, .int (nI wc)), (4, .int (nI (zcm wv wc cn p))), (5, .int (zb (hidB b (gB (fun j => td (6 + j)) (zcm wv wc cn) p) i = true))), (6, .int (nI i))], [], MH c tr tx ty td dr s im kp at_ so sr va wy)) (fun i => True) (P) (0) (by omega) (trivial) (fun i hl93 hi93 hI93 ih93 => ?_) (fun hI93 => ?_)
  · show zq_G _ _ _ _ _ 93 ([(0, .ref 41), (1, .int (nI p)), (2, .int wv), (3, .int (nI wc)), (4, .int (nI (zcm wv wc cn p))), (5, .int (zb (hidB b (gB (fun j => td (6 + j)) (zcm wv wc cn) p) i = true))), (6, .int (nI i))], [], MH c tr tx ty td dr s im kp at_ so sr va wy)
    have hzi := hz i hi93
    refine zq_b [zq_il 6, zq_al 0, zq_get 12 3, zq_k 0, zq_iald 0 (nI P)] [zq_ilchk 6, zq_alchk 0, zq_getchk 12 3, zq_kchk 0, zq_is .iaload 1] 101 rfl (by decide +kernel) ?_
    refine ⟨rfl, (by omega), (by omega), ht0, ?_⟩
    show zq_G _ _ _ _ _ 101 ([(0, .ref 41), (1, .int (nI p)), (2, .int wv), (3, .int (nI wc)), (4, .int (nI (zcm wv wc cn p))), (5, .int (zb (hidB b (gB (fun j => td (6 + j)) (zcm wv wc cn) p) i = true))), (6, .int (nI i))], [.int (nI P), .int (nI i)], MH c tr tx ty td dr s im kp at_ so sr va wy)
    refine zq_if .ge 200 (P ≤ i) (by decide +kernel) (zq_cge (a := i) (b := P) (by omega) (by omega)) (fun c101 => absurd c101 (by omega)) (fun c101 => ?_)
    show zq_G _ _ _ _ _ 104 ([(0, .ref 41), (1, .int (nI p)), (2, .int wv), (3, .int (nI wc)), (4, .int (nI (zcm wv wc cn p))), (5, .int (zb (hidB b (gB (fun j => td (6 + j)) (zcm wv wc cn) p) i = true))), (6, .int (nI i))], [], MH c tr tx ty td dr s im kp at_ so sr va wy)
    refine zq_b [zq_il 6, zq_il 2] [zq_ilchk 6, zq_ilchk 2] 107 rfl (by decide +kernel) ?_
    show zq_G _ _ _ _ _ 107 ([(0, .ref 41), (1, .int (nI p)), (2, .int wv), (3, .int (nI wc)), (4, .int (nI (zcm wv wc cn p))), (5, .int (zb (hidB b (gB (fun j => td (6 + j)) (zcm wv wc cn) p) i = true))), (6, .int (nI i))], [.int wv, .int (nI i)], MH c tr tx ty td dr s im kp at_ so sr va wy)
    refine zq_if .ne 114 (¬ (nI i) = wv) (by decide +kernel) (Iff.rfl) (fun c107 => ?_) (fun c107 => ?_)
    · show zq_G _ _ _ _ _ 114 ([(0, .ref 41), (1, .int (nI p)), (2, .int wv), (3, .int (nI wc)), (4, .int (nI (zcm wv wc cn p))), (5, .int (zb (hidB b (gB (fun j => td (6 + j)) (zcm wv wc cn) p) i = true))), (6, .int (nI i))], [], MH c tr tx ty td dr s im kp at_ so sr va wy)
      refine zq_b [zq_al 0, zq_get 12 5, zq_k 3, zq_il 6, zq_iadd (nI (3 + i)), zq_iald (3 + i) (nI (cn i))] [zq_alchk 0, zq_getchk 12 5, zq_kchk 3, zq_ilchk 6, zq_is .iadd 1, zq_is .iaload 1] 123 rfl (by decide +kernel) ?_
      refine ⟨(nI_add 3 i), rfl, (by omega), (by omega), (hce _ (by omega)).1, ?_⟩
      show zq_G _ _ _ _ _ 123 ([(0, .ref 41), (1, .int (nI p)), (2, .int wv), (3, .int (nI wc)), (4, .int (nI (zcm wv wc cn p))), (5, .int (zb (hidB b (gB (fun j => td (6 + j)) (zcm wv wc cn) p) i = true))), (6, .int (nI i))], [.int (nI (cn i))], MH c tr tx ty td dr s im kp at_ so sr va wy)
      refine zq_eq (σ2 := ([(0, .ref 41), (1, .int (nI p)), (2, .int wv), (3, .int (nI wc)), (4, .int (nI (zcm wv wc cn p))), (5, .int (zb (hidB b (gB (fun j => td (6 + j)) (zcm wv wc cn) p) i = true))), (6, .int (nI i))], [.int (nI (zcm wv wc cn i))], MH c tr tx ty td dr s im kp at_ so sr va wy)) (by rw [zcm_f c107]) ?_
      refine zq_b [zq_is1 7, zq_il 5] [zq_is1chk 7, zq_ilchk 5] 127 rfl (by decide +kernel) ?_
      show zq_G _ _ _ _ _ 127 ([(0, .ref 41), (1, .int (nI p)), (2, .int wv), (3, .int (nI wc)), (4, .int (nI (zcm wv wc cn p))), (5, .int (zb (hidB b (gB (fun j => td (6 + j)) (zcm wv wc cn) p) i = true))), (6, .int (nI i)), (7, .int (nI (zcm wv wc cn i)))], [.int (zb (hidB b (gB (fun j => td (6 + j)) (zcm wv wc cn) p) i = true))], MH c tr tx ty td dr s im kp at_ so sr va wy)
      refine zq_ifz .eq 191 (¬ (hidB b (gB (fun j => td (6 + j)) (zcm wv wc cn) p) i = true)) (by decide +kernel) (zb_eq _) (fun c127 => ?_) (fun c127 => ?_)
      · show zq_G _ _ _ _ _ 191 ([(0, .ref 41), (1, .int (nI p)), (2, .int wv), (3, .int (nI wc)), (4, .int (nI (zcm wv wc cn p))), (5, .int (zb (hidB b (gB (fun j => td (6 + j)) (zcm wv wc cn) p) i = true))), (6, .int (nI i)), (7, .int (nI (zcm wv wc cn i)))], [], MH c tr tx ty td dr s im kp at_ so sr va wy)
        refine zq_b [zq_k 0, zq_is1 5, zq_inc 6 1 (nI (i + 1)), zq_go] [zq_kchk 0, zq_is1chk 5, zq_incchk 6 1, zq_gochk] 93 rfl (by decide +kernel) ?_
        refine ⟨nI_add i 1, ?_⟩
        show zq_G _ _ _ _ _ 93 ([(0, .ref 41), (1, .int (nI p)), (2, .int wv), (3, .int (nI wc)), (4, .int (nI (zcm wv wc cn p))), (5, .int 0), (6, .int (nI (i + 1))), (7, .int (nI (zcm wv wc cn i)))], [], MH c tr tx ty td dr s im kp at_ so sr va wy)
        refine zq_pick [0, 1, 2, 3, 4, 5, 6] rfl ?_
        show zq_G _ _ _ _ _ 93 ([(0, .ref 41), (1, .int (nI p)), (2, .int wv), (3, .int (nI wc)), (4, .int (nI (zcm wv wc cn p))), (5, .int 0), (6, .int (nI (i + 1)))], [], MH c tr tx ty td dr s im kp at_ so sr va wy)
        exact zq_eq (by rw [← zb_f (P := hidB b (gB (fun j => td (6 + j)) (zcm wv wc cn) p) (i + 1) = true) (hidB_f c127)]) (ih93 trivial)
      · show zq_G _ _ _ _ _ 130 ([(0, .ref 41), (1, .int (nI p)), (2, .int wv), (3, .int (nI wc)), (4, .int (nI (zcm wv wc cn p))), (5, .int (zb (hidB b (gB (fun j => td (6 + j)) (zcm wv wc cn) p) i = true))), (6, .int (nI i)), (7, .int (nI (zcm wv wc cn i)))], [], MH c tr tx ty td dr s im kp at_ so sr va wy)
        refine zq_b [zq_il 6, zq_il 1] [zq_ilchk 6, zq_ilchk 1] 133 rfl (by decide +kernel) ?_
        show zq_G _ _ _ _ _ 133 ([(0, .ref 41), (1, .int (nI p)), (2, .int wv), (3, .int (nI wc)), (4, .int (nI (zcm wv wc cn p))), (5, .int (zb (hidB b (gB (fun j => td (6 + j)) (zcm wv wc cn) p) i = true))), (6, .int (nI i)), (7, .int (nI (zcm wv wc cn i)))], [.int (nI p), .int (nI i)], MH c tr tx ty td dr s im kp at_ so sr va wy)
        refine zq_if .eq 187 (i = p) (by decide +kernel) (zq_ceq (a := i) (b := p) (by omega) (by omega)) (fun c133 => ?_) (fun c133 => ?_)
        · show zq_G _ _ _ _ _ 187 ([(0, .ref 41), (1, .int (nI p)), (2, .int wv), (3, .int (nI wc)), (4, .int (nI (zcm wv wc cn p))), (5, .int (zb (hidB b (gB (fun j => td (6 + j)) (zcm wv wc cn) p) i = true))), (6, .int (nI i)), (7, .int (nI (zcm wv wc cn i)))], [], MH c tr tx ty td dr s im kp at_ so sr va wy)
          refine zq_b [zq_k 1, zq_go, zq_is1 5, zq_inc 6 1 (nI (i + 1)), zq_go] [zq_kchk 1, zq_gochk, zq_is1chk 5, zq_incchk 6 1, zq_gochk] 93 rfl (by decide +kernel) ?_
          refine ⟨nI_add i 1, ?_⟩
          show zq_G _ _ _ _ _ 93 ([(0, .ref 41), (1, .int (nI p)), (2, .int wv), (3, .int (nI wc)), (4, .int (nI (zcm wv wc cn p))), (5, .int 1), (6, .int (nI (i + 1))), (7, .int (nI (zcm wv wc cn i)))], [], MH c tr tx ty td dr s im kp at_ so sr va wy)
          refine zq_pick [0, 1, 2, 3, 4, 5, 6] rfl ?_
          show zq_G _ _ _ _ _ 93 ([(0, .ref 41), (1, .int (nI p)), (2, .int wv), (3, .int (nI wc)), (4, .int (nI (zcm wv wc cn p))), (5, .int 1), (6, .int (nI (i + 1)))], [], MH c tr tx ty td dr s im kp at_ so sr va wy)
          exact zq_eq (by rw [← zb_t (P := hidB b (gB (fun j => td (6 + j)) (zcm wv wc cn) p) (i + 1) = true) (hidB_t (Decidable.not_not.mp c127) (gB_f (hs := (fun j => td (6 + j))) (cc := (zcm wv wc cn)) (fun q => by rw [c133] at q; omega)))]) (ih93 trivial)
        · show zq_G _ _ _ _ _ 136 ([(0, .ref 41), (1, .int (nI p)), (2, .int wv), (3, .int (nI wc)), (4, .int (nI (zcm wv wc cn p))), (5, .int (zb (hidB b (gB (fun j => td (6 + j)) (zcm wv wc cn) p) i = true))), (6, .int (nI i)), (7, .int (nI (zcm wv wc cn i)))], [], MH c tr tx ty td dr s im kp at_ so sr va wy)
          refine zq_b [zq_il 7, zq_k 25] [zq_ilchk 7, zq_kchk 25] 140 rfl (by decide +kernel) ?_
          show zq_G _ _ _ _ _ 140 ([(0, .ref 41), (1, .int (nI p)), (2, .int wv), (3, .int (nI wc)), (4, .int (nI (zcm wv wc cn p))), (5, .int (zb (hidB b (gB (fun j => td (6 + j)) (zcm wv wc cn) p) i = true))), (6, .int (nI i)), (7, .int (nI (zcm wv wc cn i)))], [.int 25, .int (nI (zcm wv wc cn i))], MH c tr tx ty td dr s im kp at_ so sr va wy)
          refine zq_if .ge 187 (25 ≤ (zcm wv wc cn i)) (by decide +kernel) (zq_cge (a := zcm wv wc cn i) (b := 25) (by omega) (by omega)) (fun c140 => ?_) (fun c140 => ?_)
          · show zq_G _ _ _ _ _ 187 ([(0, .ref 41), (1, .int (nI p)), (2, .int wv), (3, .int (nI wc)), (4, .int (nI (zcm wv wc cn p))), (5, .int (zb (hidB b (gB (fun j => td (6 + j)) (zcm wv wc cn) p) i = true))), (6, .int (nI i)), (7, .int (nI (zcm wv wc cn i)))], [], MH c tr tx ty td dr s im kp at_ so sr va wy)
            refine zq_b [zq_k 1, zq_go, zq_is1 5, zq_inc 6 1 (nI (i + 1)), zq_go] [zq_kchk 1, zq_gochk, zq_is1chk 5, zq_incchk 6 1, zq_gochk] 93 rfl (by decide +kernel) ?_
            refine ⟨nI_add i 1, ?_⟩
            show zq_G _ _ _ _ _ 93 ([(0, .ref 41), (1, .int (nI p)), (2, .int wv), (3, .int (nI wc)), (4, .int (nI (zcm wv wc cn p))), (5, .int 1), (6, .int (nI (i + 1))), (7, .int (nI (zcm wv wc cn i)))], [], MH c tr tx ty td dr s im kp at_ so sr va wy)
            refine zq_pick [0, 1, 2, 3, 4, 5, 6] rfl ?_
            show zq_G _ _ _ _ _ 93 ([(0, .ref 41), (1, .int (nI p)), (2, .int wv), (3, .int (nI wc)), (4, .int (nI (zcm wv wc cn p))), (5, .int 1), (6, .int (nI (i + 1)))], [], MH c tr tx ty td dr s im kp at_ so sr va wy)
            exact zq_eq (by rw [← zb_t (P := hidB b (gB (fun j => td (6 + j)) (zcm wv wc cn) p) (i + 1) = true) (hidB_t (Decidable.not_not.mp c127) (gB_f (hs := (fun j => td (6 + j))) (cc := (zcm wv wc cn)) (fun q => by have := hb25 (hidB_b (Decidable.not_not.mp c127)); omega)))]) (ih93 trivial)
          · show zq_G _ _ _ _ _ 143 ([(0, .ref 41), (1, .int (nI p)), (2, .int wv), (3, .int (nI wc)), (4, .int (nI (zcm wv wc cn p))), (5, .int (zb (hidB b (gB (fun j => td (6 + j)) (zcm wv wc cn) p) i = true))), (6, .int (nI i)), (7, .int (nI (zcm wv wc cn i)))], [], MH c tr tx ty td dr s im kp at_ so sr va wy)
            refine zq_b [zq_il 7, zq_k 5, zq_irem (nI ((zcm wv wc cn i) % 5)), zq_il 4, zq_k 5, zq_irem (nI ((zcm wv wc cn p) % 5))] [zq_ilchk 7, zq_kchk 5, zq_is .irem 1, zq_ilchk 4, zq_kchk 5, zq_is .irem 1] 151 rfl (by decide +kernel) ?_
            refine ⟨(by decide), (zq_rem (a := zcm wv wc cn i) (b := 5) (by omega) (by omega) (by omega)), (by decide), (zq_rem (a := zcm wv wc cn p) (b := 5) (by omega) (by omega) (by omega)), ?_⟩
            show zq_G _ _ _ _ _ 151 ([(0, .ref 41), (1, .int (nI p)), (2, .int wv), (3, .int (nI wc)), (4, .int (nI (zcm wv wc cn p))), (5, .int (zb (hidB b (gB (fun j => td (6 + j)) (zcm wv wc cn) p) i = true))), (6, .int (nI i)), (7, .int (nI (zcm wv wc cn i)))], [.int (nI ((zcm wv wc cn p) % 5)), .int (nI ((zcm wv wc cn i) % 5))], MH c tr tx ty td dr s im kp at_ so sr va wy)
            refine zq_if .ne 187 (¬ ((zcm wv wc cn i) % 5) = ((zcm wv wc cn p) % 5)) (by decide +kernel) (zq_cne (a := (zcm wv wc cn i) % 5) (b := (zcm wv wc cn p) % 5) (by omega) (by omega)) (fun c151 => ?_) (fun c151 => ?_)
            · show zq_G _ _ _ _ _ 187 ([(0, .ref 41), (1, .int (nI p)), (2, .int wv), (3, .int (nI wc)), (4, .int (nI (zcm wv wc cn p))), (5, .int (zb (hidB b (gB (fun j => td (6 + j)) (zcm wv wc cn) p) i = true))), (6, .int (nI i)), (7, .int (nI (zcm wv wc cn i)))], [], MH c tr tx ty td dr s im kp at_ so sr va wy)
              refine zq_b [zq_k 1, zq_go, zq_is1 5, zq_inc 6 1 (nI (i + 1)), zq_go] [zq_kchk 1, zq_gochk, zq_is1chk 5, zq_incchk 6 1, zq_gochk] 93 rfl (by decide +kernel) ?_
              refine ⟨nI_add i 1, ?_⟩
              show zq_G _ _ _ _ _ 93 ([(0, .ref 41), (1, .int (nI p)), (2, .int wv), (3, .int (nI wc)), (4, .int (nI (zcm wv wc cn p))), (5, .int 1), (6, .int (nI (i + 1))), (7, .int (nI (zcm wv wc cn i)))], [], MH c tr tx ty td dr s im kp at_ so sr va wy)
              refine zq_pick [0, 1, 2, 3, 4, 5, 6] rfl ?_
              show zq_G _ _ _ _ _ 93 ([(0, .ref 41), (1, .int (nI p)), (2, .int wv), (3, .int (nI wc)), (4, .int (nI (zcm wv wc cn p))), (5, .int 1), (6, .int (nI (i + 1)))], [], MH c tr tx ty td dr s im kp at_ so sr va wy)
              exact zq_eq (by rw [← zb_t (P := hidB b (gB (fun j => td (6 + j)) (zcm wv wc cn) p) (i + 1) = true) (hidB_t (Decidable.not_not.mp c127) (gB_f (hs := (fun j => td (6 + j))) (cc := (zcm wv wc cn)) (fun q => c151 q.2.2)))]) (ih93 trivial)
            · show zq_G _ _ _ _ _ 154 ([(0, .ref 41), (1, .int (nI p)), (2, .int wv), (3, .int (nI wc)), (4, .int (nI (zcm wv wc cn p))), (5, .int (zb (hidB b (gB (fun j => td (6 + j)) (zcm wv wc cn) p) i = true))), (6, .int (nI i)), (7, .int (nI (zcm wv wc cn i)))], [], MH c tr tx ty td dr s im kp at_ so sr va wy)
              refine zq_b [zq_il 7, zq_k 5, zq_idiv (nI ((zcm wv wc cn i) / 5)), zq_il 4, zq_k 5, zq_idiv (nI ((zcm wv wc cn p) / 5))] [zq_ilchk 7, zq_kchk 5, zq_is .idiv 1, zq_ilchk 4, zq_kchk 5, zq_is .idiv 1] 162 rfl (by decide +kernel) ?_
              refine ⟨(by decide), (zq_div (a := zcm wv wc cn i) (b := 5) (by omega) (by omega) (by omega)), (by decide), (zq_div (a := zcm wv wc cn p) (b := 5) (by omega) (by omega) (by omega)), ?_⟩
              show zq_G _ _ _ _ _ 162 ([(0, .ref 41), (1, .int (nI p)), (2, .int wv), (3, .int (nI wc)), (4, .int (nI (zcm wv wc cn p))), (5, .int (zb (hidB b (gB (fun j => td (6 + j)) (zcm wv wc cn) p) i = true))), (6, .int (nI i)), (7, .int (nI (zcm wv wc cn i)))], [.int (nI ((zcm wv wc cn p) / 5)), .int (nI ((zcm wv wc cn i) / 5))], MH c tr tx ty td dr s im kp at_ so sr va wy)
              refine zq_if .ge 187 (((zcm wv wc cn p) / 5) ≤ ((zcm wv wc cn i) / 5)) (by decide +kernel) (zq_cge (a := (zcm wv wc cn i) / 5) (b := (zcm wv wc cn p) / 5) (by omega) (by omega)) (fun c162 => ?_) (fun c162 => ?_)
              · show zq_G _ _ _ _ _ 187 ([(0, .ref 41), (1, .int (nI p)), (2, .int wv), (3, .int (nI wc)), (4, .int (nI (zcm wv wc cn p))), (5, .int (zb (hidB b (gB (fun j => td (6 + j)) (zcm wv wc cn) p) i = true))), (6, .int (nI i)), (7, .int (nI (zcm wv wc cn i)))], [], MH c tr tx ty td dr s im kp at_ so sr va wy)
                refine zq_b [zq_k 1, zq_go, zq_is1 5, zq_inc 6 1 (nI (i + 1)), zq_go] [zq_kchk 1, zq_gochk, zq_is1chk 5, zq_incchk 6 1, zq_gochk] 93 rfl (by decide +kernel) ?_
                refine ⟨nI_add i 1, ?_⟩
                show zq_G _ _ _ _ _ 93 ([(0, .ref 41), (1, .int (nI p)), (2, .int wv), (3, .int (nI wc)), (4, .int (nI (zcm wv wc cn p))), (5, .int 1), (6, .int (nI (i + 1))), (7, .int (nI (zcm wv wc cn i)))], [], MH c tr tx ty td dr s im kp at_ so sr va wy)
                refine zq_pick [0, 1, 2, 3, 4, 5, 6] rfl ?_
                show zq_G _ _ _ _ _ 93 ([(0, .ref 41), (1, .int (nI p)), (2, .int wv), (3, .int (nI wc)), (4, .int (nI (zcm wv wc cn p))), (5, .int 1), (6, .int (nI (i + 1)))], [], MH c tr tx ty td dr s im kp at_ so sr va wy)
                exact zq_eq (by rw [← zb_t (P := hidB b (gB (fun j => td (6 + j)) (zcm wv wc cn) p) (i + 1) = true) (hidB_t (Decidable.not_not.mp c127) (gB_f (hs := (fun j => td (6 + j))) (cc := (zcm wv wc cn)) (fun q => by omega)))]) (ih93 trivial)
              · show zq_G _ _ _ _ _ 165 ([(0, .ref 41), (1, .int (nI p)), (2, .int wv), (3, .int (nI wc)), (4, .int (nI (zcm wv wc cn p))), (5, .int (zb (hidB b (gB (fun j => td (6 + j)) (zcm wv wc cn) p) i = true))), (6, .int (nI i)), (7, .int (nI (zcm wv wc cn i)))], [], MH c tr tx ty td dr s im kp at_ so sr va wy)
                refine zq_b [zq_al 0, zq_get 12 3, zq_k 6, zq_il 6, zq_iadd (nI (6 + i)), zq_iald (6 + i) (td (6 + i)), zq_al 0, zq_get 12 3, zq_k 6, zq_il 1, zq_iadd (nI (6 + p)), zq_iald (6 + p) (td (6 + p))] [zq_alchk 0, zq_getchk 12 3, zq_kchk 6, zq_ilchk 6, zq_is .iadd 1, zq_is .iaload 1, zq_alchk 0, zq_getchk 12 3, zq_kchk 6, zq_ilchk 1, zq_is .iadd 1, zq_is .iaload 1] 184 rfl (by decide +kernel) ?_
                refine ⟨(nI_add 6 i), rfl, (by omega), (by omega), rfl, (nI_add 6 p), rfl, (by omega), (by omega), rfl, ?_⟩
                show zq_G _ _ _ _ _ 184 ([(0, .ref 41), (1, .int (nI p)), (2, .int wv), (3, .int (nI wc)), (4, .int (nI (zcm wv wc cn p))), (5, .int (zb (hidB b (gB (fun j => td (6 + j)) (zcm wv wc cn) p) i = true))), (6, .int (nI i)), (7, .int (nI (zcm wv wc cn i)))], [.int (td (6 + p)), .int (td (6 + i))], MH c tr tx ty td dr s im kp at_ so sr va wy)
                refine zq_if .ge 191 ((td (6 + p)) ≤ (td (6 + i))) (by decide +kernel) (Iff.rfl) (fun c184 => ?_) (fun c184 => ?_)
                · show zq_G _ _ _ _ _ 191 ([(0, .ref 41), (1, .int (nI p)), (2, .int wv), (3, .int (nI wc)), (4, .int (nI (zcm wv wc cn p))), (5, .int (zb (hidB b (gB (fun j => td (6 + j)) (zcm wv wc cn) p) i = true))), (6, .int (nI i)), (7, .int (nI (zcm wv wc cn i)))], [], MH c tr tx ty td dr s im kp at_ so sr va wy)
                  refine zq_b [zq_k 0, zq_is1 5, zq_inc 6 1 (nI (i + 1)), zq_go] [zq_kchk 0, zq_is1chk 5, zq_incchk 6 1, zq_gochk] 93 rfl (by decide +kernel) ?_
                  refine ⟨nI_add i 1, ?_⟩
                  show zq_G _ _ _ _ _ 93 ([(0, .ref 41), (1, .int (nI p)), (2, .int wv), (3, .int (nI wc)), (4, .int (nI (zcm wv wc cn p))), (5, .int 0), (6, .int (nI (i + 1))), (7, .int (nI (zcm wv wc cn i)))], [], MH c tr tx ty td dr s im kp at_ so sr va wy)
                  refine zq_pick [0, 1, 2, 3, 4, 5, 6] rfl ?_
                  show zq_G _ _ _ _ _ 93 ([(0, .ref 41), (1, .int (nI p)), (2, .int wv), (3, .int (nI wc)), (4, .int (nI (zcm wv wc cn p))), (5, .int 0), (6, .int (nI (i + 1)))], [], MH c tr tx ty td dr s im kp at_ so sr va wy)
                  exact zq_eq (by rw [← zb_f (P := hidB b (gB (fun j => td (6 + j)) (zcm wv wc cn) p) (i + 1) = true) (hidB_g (gB_t (hs := (fun j => td (6 + j))) (cc := (zcm wv wc cn)) ⟨c184, by omega, by omega⟩))]) (ih93 trivial)
                · show zq_G _ _ _ _ _ 187 ([(0, .ref 41), (1, .int (nI p)), (2, .int wv), (3, .int (nI wc)), (4, .int (nI (zcm wv wc cn p))), (5, .int (zb (hidB b (gB (fun j => td (6 + j)) (zcm wv wc cn) p) i = true))), (6, .int (nI i)), (7, .int (nI (zcm wv wc cn i)))], [], MH c tr tx ty td dr s im kp at_ so sr va wy)
                  refine zq_b [zq_k 1, zq_go, zq_is1 5, zq_inc 6 1 (nI (i + 1)), zq_go] [zq_kchk 1, zq_gochk, zq_is1chk 5, zq_incchk 6 1, zq_gochk] 93 rfl (by decide +kernel) ?_
                  refine ⟨nI_add i 1, ?_⟩
                  show zq_G _ _ _ _ _ 93 ([(0, .ref 41), (1, .int (nI p)), (2, .int wv), (3, .int (nI wc)), (4, .int (nI (zcm wv wc cn p))), (5, .int 1), (6, .int (nI (i + 1))), (7, .int (nI (zcm wv wc cn i)))], [], MH c tr tx ty td dr s im kp at_ so sr va wy)
                  refine zq_pick [0, 1, 2, 3, 4, 5, 6] rfl ?_
                  show zq_G _ _ _ _ _ 93 ([(0, .ref 41), (1, .int (nI p)), (2, .int wv), (3, .int (nI wc)), (4, .int (nI (zcm wv wc cn p))), (5, .int 1), (6, .int (nI (i + 1)))], [], MH c tr tx ty td dr s im kp at_ so sr va wy)
                  exact zq_eq (by rw [← zb_t (P := hidB b (gB (fun j => td (6 + j)) (zcm wv wc cn) p) (i + 1) = true) (hidB_t (Decidable.not_not.mp c127) (gB_f (hs := (fun j => td (6 + j))) (cc := (zcm wv wc cn)) (fun q => c184 q.1)))]) (ih93 trivial)
    · show zq_G _ _ _ _ _ 110 ([(0, .ref 41), (1, .int (nI p)), (2, .int wv), (3, .int (nI wc)), (4, .int (nI (zcm wv wc cn p))), (5, .int (zb (hidB b (gB (fun j => td (6 + j)) (zcm wv wc cn) p) i = true))), (6, .int (nI i))], [], MH c tr tx ty td dr s im kp at_ so sr va wy)
      refine zq_b [zq_il 3, zq_go] [zq_ilchk 3, zq_gochk] 123 rfl (by decide +kernel) ?_
      show zq_G _ _ _ _ _ 123 ([(0, .ref 41), (1, .int (nI p)), (2, .int wv), (3, .int (nI wc)), (4, .int (nI (zcm wv wc cn p))), (5, .int (zb (hidB b (gB (fun j => td (6 + j)) (zcm wv wc cn) p) i = true))), (6, .int (nI i))], [.int (nI wc)], MH c tr tx ty td dr s im kp at_ so sr va wy)
      refine zq_eq (σ2 := ([(0, .ref 41), (1, .int (nI p)), (2, .int wv), (3, .int (nI wc)), (4, .int (nI (zcm wv wc cn p))), (5, .int (zb (hidB b (gB (fun j => td (6 + j)) (zcm wv wc cn) p) i = true))), (6, .int (nI i))], [.int (nI (zcm wv wc cn i))], MH c tr tx ty td dr s im kp at_ so sr va wy)) (by rw [zcm_t (Decidable.not_not.mp c107)]) ?_
      refine zq_b [zq_is1 7, zq_il 5] [zq_is1chk 7, zq_ilchk 5] 127 rfl (by decide +kernel) ?_
      show zq_G _ _ _ _ _ 127 ([(0, .ref 41), (1, .int (nI p)), (2, .int wv), (3, .int (nI wc)), (4, .int (nI (zcm wv wc cn p))), (5, .int (zb (hidB b (gB (fun j => td (6 + j)) (zcm wv wc cn) p) i = true))), (6, .int (nI i)), (7, .int (nI (zcm wv wc cn i)))], [.int (zb (hidB b (gB (fun j => td (6 + j)) (zcm wv wc cn) p) i = true))], MH c tr tx ty td dr s im kp at_ so sr va wy)
      refine zq_ifz .eq 191 (¬ (hidB b (gB (fun j => td (6 + j)) (zcm wv wc cn) p) i = true)) (by decide +kernel) (zb_eq _) (fun c127 => ?_) (fun c127 => ?_)
      · show zq_G _ _ _ _ _ 191 ([(0, .ref 41), (1, .int (nI p)), (2, .int wv), (3, .int (nI wc)), (4, .int (nI (zcm wv wc cn p))), (5, .int (zb (hidB b (gB (fun j => td (6 + j)) (zcm wv wc cn) p) i = true))), (6, .int (nI i)), (7, .int (nI (zcm wv wc cn i)))], [], MH c tr tx ty td dr s im kp at_ so sr va wy)
        refine zq_b [zq_k 0, zq_is1 5, zq_inc 6 1 (nI (i + 1)), zq_go] [zq_kchk 0, zq_is1chk 5, zq_incchk 6 1, zq_gochk] 93 rfl (by decide +kernel) ?_
        refine ⟨nI_add i 1, ?_⟩
        show zq_G _ _ _ _ _ 93 ([(0, .ref 41), (1, .int (nI p)), (2, .int wv), (3, .int (nI wc)), (4, .int (nI (zcm wv wc cn p))), (5, .int 0), (6, .int (nI (i + 1))), (7, .int (nI (zcm wv wc cn i)))], [], MH c tr tx ty td dr s im kp at_ so sr va wy)
        refine zq_pick [0, 1, 2, 3, 4, 5, 6] rfl ?_
        show zq_G _ _ _ _ _ 93 ([(0, .ref 41), (1, .int (nI p)), (2, .int wv), (3, .int (nI wc)), (4, .int (nI (zcm wv wc cn p))), (5, .int 0), (6, .int (nI (i + 1)))], [], MH c tr tx ty td dr s im kp at_ so sr va wy)
        exact zq_eq (by rw [← zb_f (P := hidB b (gB (fun j => td (6 + j)) (zcm wv wc cn) p) (i + 1) = true) (hidB_f c127)]) (ih93 trivial)
      · show zq_G _ _ _ _ _ 130 ([(0, .ref 41), (1, .int (nI p)), (2, .int wv), (3, .int (nI wc)), (4, .int (nI (zcm wv wc cn p))), (5, .int (zb (hidB b (gB (fun j => td (6 + j)) (zcm wv wc cn) p) i = true))), (6, .int (nI i)), (7, .int (nI (zcm wv wc cn i)))], [], MH c tr tx ty td dr s im kp at_ so sr va wy)
        refine zq_b [zq_il 6, zq_il 1] [zq_ilchk 6, zq_ilchk 1] 133 rfl (by decide +kernel) ?_
        show zq_G _ _ _ _ _ 133 ([(0, .ref 41), (1, .int (nI p)), (2, .int wv), (3, .int (nI wc)), (4, .int (nI (zcm wv wc cn p))), (5, .int (zb (hidB b (gB (fun j => td (6 + j)) (zcm wv wc cn) p) i = true))), (6, .int (nI i)), (7, .int (nI (zcm wv wc cn i)))], [.int (nI p), .int (nI i)], MH c tr tx ty td dr s im kp at_ so sr va wy)
        refine zq_if .eq 187 (i = p) (by decide +kernel) (zq_ceq (a := i) (b := p) (by omega) (by omega)) (fun c133 => ?_) (fun c133 => ?_)
        · show zq_G _ _ _ _ _ 187 ([(0, .ref 41), (1, .int (nI p)), (2, .int wv), (3, .int (nI wc)), (4, .int (nI (zcm wv wc cn p))), (5, .int (zb (hidB b (gB (fun j => td (6 + j)) (zcm wv wc cn) p) i = true))), (6, .int (nI i)), (7, .int (nI (zcm wv wc cn i)))], [], MH c tr tx ty td dr s im kp at_ so sr va wy)
          refine zq_b [zq_k 1, zq_go, zq_is1 5, zq_inc 6 1 (nI (i + 1)), zq_go] [zq_kchk 1, zq_gochk, zq_is1chk 5, zq_incchk 6 1, zq_gochk] 93 rfl (by decide +kernel) ?_
          refine ⟨nI_add i 1, ?_⟩
          show zq_G _ _ _ _ _ 93 ([(0, .ref 41), (1, .int (nI p)), (2, .int wv), (3, .int (nI wc)), (4, .int (nI (zcm wv wc cn p))), (5, .int 1), (6, .int (nI (i + 1))), (7, .int (nI (zcm wv wc cn i)))], [], MH c tr tx ty td dr s im kp at_ so sr va wy)
          refine zq_pick [0, 1, 2, 3, 4, 5, 6] rfl ?_
          show zq_G _ _ _ _ _ 93 ([(0, .ref 41), (1, .int (nI p)), (2, .int wv), (3, .int (nI wc)), (4, .int (nI (zcm wv wc cn p))), (5, .int 1), (6, .int (nI (i + 1)))], [], MH c tr tx ty td dr s im kp at_ so sr va wy)
          exact zq_eq (by rw [← zb_t (P := hidB b (gB (fun j => td (6 + j)) (zcm wv wc cn) p) (i + 1) = true) (hidB_t (Decidable.not_not.mp c127) (gB_f (hs := (fun j => td (6 + j))) (cc := (zcm wv wc cn)) (fun q => by rw [c133] at q; omega)))]) (ih93 trivial)
        · show zq_G _ _ _ _ _ 136 ([(0, .ref 41), (1, .int (nI p)), (2, .int wv), (3, .int (nI wc)), (4, .int (nI (zcm wv wc cn p))), (5, .int (zb (hidB b (gB (fun j => td (6 + j)) (zcm wv wc cn) p) i = true))), (6, .int (nI i)), (7, .int (nI (zcm wv wc cn i)))], [], MH c tr tx ty td dr s im kp at_ so sr va wy)
          refine zq_b [zq_il 7, zq_k 25] [zq_ilchk 7, zq_kchk 25] 140 rfl (by decide +kernel) ?_
          show zq_G _ _ _ _ _ 140 ([(0, .ref 41), (1, .int (nI p)), (2, .int wv), (3, .int (nI wc)), (4, .int (nI (zcm wv wc cn p))), (5, .int (zb (hidB b (gB (fun j => td (6 + j)) (zcm wv wc cn) p) i = true))), (6, .int (nI i)), (7, .int (nI (zcm wv wc cn i)))], [.int 25, .int (nI (zcm wv wc cn i))], MH c tr tx ty td dr s im kp at_ so sr va wy)
          refine zq_if .ge 187 (25 ≤ (zcm wv wc cn i)) (by decide +kernel) (zq_cge (a := zcm wv wc cn i) (b := 25) (by omega) (by omega)) (fun c140 => ?_) (fun c140 => ?_)
          · show zq_G _ _ _ _ _ 187 ([(0, .ref 41), (1, .int (nI p)), (2, .int wv), (3, .int (nI wc)), (4, .int (nI (zcm wv wc cn p))), (5, .int (zb (hidB b (gB (fun j => td (6 + j)) (zcm wv wc cn) p) i = true))), (6, .int (nI i)), (7, .int (nI (zcm wv wc cn i)))], [], MH c tr tx ty td dr s im kp at_ so sr va wy)
            refine zq_b [zq_k 1, zq_go, zq_is1 5, zq_inc 6 1 (nI (i + 1)), zq_go] [zq_kchk 1, zq_gochk, zq_is1chk 5, zq_incchk 6 1, zq_gochk] 93 rfl (by decide +kernel) ?_
            refine ⟨nI_add i 1, ?_⟩
            show zq_G _ _ _ _ _ 93 ([(0, .ref 41), (1, .int (nI p)), (2, .int wv), (3, .int (nI wc)), (4, .int (nI (zcm wv wc cn p))), (5, .int 1), (6, .int (nI (i + 1))), (7, .int (nI (zcm wv wc cn i)))], [], MH c tr tx ty td dr s im kp at_ so sr va wy)
            refine zq_pick [0, 1, 2, 3, 4, 5, 6] rfl ?_
            show zq_G _ _ _ _ _ 93 ([(0, .ref 41), (1, .int (nI p)), (2, .int wv), (3, .int (nI wc)), (4, .int (nI (zcm wv wc cn p))), (5, .int 1), (6, .int (nI (i + 1)))], [], MH c tr tx ty td dr s im kp at_ so sr va wy)
            exact zq_eq (by rw [← zb_t (P := hidB b (gB (fun j => td (6 + j)) (zcm wv wc cn) p) (i + 1) = true) (hidB_t (Decidable.not_not.mp c127) (gB_f (hs := (fun j => td (6 + j))) (cc := (zcm wv wc cn)) (fun q => by have := hb25 (hidB_b (Decidable.not_not.mp c127)); omega)))]) (ih93 trivial)
          · show zq_G _ _ _ _ _ 143 ([(0, .ref 41), (1, .int (nI p)), (2, .int wv), (3, .int (nI wc)), (4, .int (nI (zcm wv wc cn p))), (5, .int (zb (hidB b (gB (fun j => td (6 + j)) (zcm wv wc cn) p) i = true))), (6, .int (nI i)), (7, .int (nI (zcm wv wc cn i)))], [], MH c tr tx ty td dr s im kp at_ so sr va wy)
            refine zq_b [zq_il 7, zq_k 5, zq_irem (nI ((zcm wv wc cn i) % 5)), zq_il 4, zq_k 5, zq_irem (nI ((zcm wv wc cn p) % 5))] [zq_ilchk 7, zq_kchk 5, zq_is .irem 1, zq_ilchk 4, zq_kchk 5, zq_is .irem 1] 151 rfl (by decide +kernel) ?_
            refine ⟨(by decide), (zq_rem (a := zcm wv wc cn i) (b := 5) (by omega) (by omega) (by omega)), (by decide), (zq_rem (a := zcm wv wc cn p) (b := 5) (by omega) (by omega) (by omega)), ?_⟩
            show zq_G _ _ _ _ _ 151 ([(0, .ref 41), (1, .int (nI p)), (2, .int wv), (3, .int (nI wc)), (4, .int (nI (zcm wv wc cn p))), (5, .int (zb (hidB b (gB (fun j => td (6 + j)) (zcm wv wc cn) p) i = true))), (6, .int (nI i)), (7, .int (nI (zcm wv wc cn i)))], [.int (nI ((zcm wv wc cn p) % 5)), .int (nI ((zcm wv wc cn i) % 5))], MH c tr tx ty td dr s im kp at_ so sr va wy)
            refine zq_if .ne 187 (¬ ((zcm wv wc cn i) % 5) = ((zcm wv wc cn p) % 5)) (by decide +kernel) (zq_cne (a := (zcm wv wc cn i) % 5) (b := (zcm wv wc cn p) % 5) (by omega) (by omega)) (fun c151 => ?_) (fun c151 => ?_)
            · show zq_G _ _ _ _ _ 187 ([(0, .ref 41), (1, .int (nI p)), (2, .int wv), (3, .int (nI wc)), (4, .int (nI (zcm wv wc cn p))), (5, .int (zb (hidB b (gB (fun j => td (6 + j)) (zcm wv wc cn) p) i = true))), (6, .int (nI i)), (7, .int (nI (zcm wv wc cn i)))], [], MH c tr tx ty td dr s im kp at_ so sr va wy)
              refine zq_b [zq_k 1, zq_go, zq_is1 5, zq_inc 6 1 (nI (i + 1)), zq_go] [zq_kchk 1, zq_gochk, zq_is1chk 5, zq_incchk 6 1, zq_gochk] 93 rfl (by decide +kernel) ?_
              refine ⟨nI_add i 1, ?_⟩
              show zq_G _ _ _ _ _ 93 ([(0, .ref 41), (1, .int (nI p)), (2, .int wv), (3, .int (nI wc)), (4, .int (nI (zcm wv wc cn p))), (5, .int 1), (6, .int (nI (i + 1))), (7, .int (nI (zcm wv wc cn i)))], [], MH c tr tx ty td dr s im kp at_ so sr va wy)
              refine zq_pick [0, 1, 2, 3, 4, 5, 6] rfl ?_
              show zq_G _ _ _ _ _ 93 ([(0, .ref 41), (1, .int (nI p)), (2, .int wv), (3, .int (nI wc)), (4, .int (nI (zcm wv wc cn p))), (5, .int 1), (6, .int (nI (i + 1)))], [], MH c tr tx ty td dr s im kp at_ so sr va wy)
              exact zq_eq (by rw [← zb_t (P := hidB b (gB (fun j => td (6 + j)) (zcm wv wc cn) p) (i + 1) = true) (hidB_t (Decidable.not_not.mp c127) (gB_f (hs := (fun j => td (6 + j))) (cc := (zcm wv wc cn)) (fun q => c151 q.2.2)))]) (ih93 trivial)
            · show zq_G _ _ _ _ _ 154 ([(0, .ref 41), (1, .int (nI p)), (2, .int wv), (3, .int (nI wc)), (4, .int (nI (zcm wv wc cn p))), (5, .int (zb (hidB b (gB (fun j => td (6 + j)) (zcm wv wc cn) p) i = true))), (6, .int (nI i)), (7, .int (nI (zcm wv wc cn i)))], [], MH c tr tx ty td dr s im kp at_ so sr va wy)
              refine zq_b [zq_il 7, zq_k 5, zq_idiv (nI ((zcm wv wc cn i) / 5)), zq_il 4, zq_k 5, zq_idiv (nI ((zcm wv wc cn p) / 5))] [zq_ilchk 7, zq_kchk 5, zq_is .idiv 1, zq_ilchk 4, zq_kchk 5, zq_is .idiv 1] 162 rfl (by decide +kernel) ?_
              refine ⟨(by decide), (zq_div (a := zcm wv wc cn i) (b := 5) (by omega) (by omega) (by omega)), (by decide), (zq_div (a := zcm wv wc cn p) (b := 5) (by omega) (by omega) (by omega)), ?_⟩
              show zq_G _ _ _ _ _ 162 ([(0, .ref 41), (1, .int (nI p)), (2, .int wv), (3, .int (nI wc)), (4, .int (nI (zcm wv wc cn p))), (5, .int (zb (hidB b (gB (fun j => td (6 + j)) (zcm wv wc cn) p) i = true))), (6, .int (nI i)), (7, .int (nI (zcm wv wc cn i)))], [.int (nI ((zcm wv wc cn p) / 5)), .int (nI ((zcm wv wc cn i) / 5))], MH c tr tx ty td dr s im kp at_ so sr va wy)
              refine zq_if .ge 187 (((zcm wv wc cn p) / 5) ≤ ((zcm wv wc cn i) / 5)) (by decide +kernel) (zq_cge (a := (zcm wv wc cn i) / 5) (b := (zcm wv wc cn p) / 5) (by omega) (by omega)) (fun c162 => ?_) (fun c162 => ?_)
              · show zq_G _ _ _ _ _ 187 ([(0, .ref 41), (1, .int (nI p)), (2, .int wv), (3, .int (nI wc)), (4, .int (nI (zcm wv wc cn p))), (5, .int (zb (hidB b (gB (fun j => td (6 + j)) (zcm wv wc cn) p) i = true))), (6, .int (nI i)), (7, .int (nI (zcm wv wc cn i)))], [], MH c tr tx ty td dr s im kp at_ so sr va wy)
                refine zq_b [zq_k 1, zq_go, zq_is1 5, zq_inc 6 1 (nI (i + 1)), zq_go] [zq_kchk 1, zq_gochk, zq_is1chk 5, zq_incchk 6 1, zq_gochk] 93 rfl (by decide +kernel) ?_
                refine ⟨nI_add i 1, ?_⟩
                show zq_G _ _ _ _ _ 93 ([(0, .ref 41), (1, .int (nI p)), (2, .int wv), (3, .int (nI wc)), (4, .int (nI (zcm wv wc cn p))), (5, .int 1), (6, .int (nI (i + 1))), (7, .int (nI (zcm wv wc cn i)))], [], MH c tr tx ty td dr s im kp at_ so sr va wy)
                refine zq_pick [0, 1, 2, 3, 4, 5, 6] rfl ?_
                show zq_G _ _ _ _ _ 93 ([(0, .ref 41), (1, .int (nI p)), (2, .int wv), (3, .int (nI wc)), (4, .int (nI (zcm wv wc cn p))), (5, .int 1), (6, .int (nI (i + 1)))], [], MH c tr tx ty td dr s im kp at_ so sr va wy)
                exact zq_eq (by rw [← zb_t (P := hidB b (gB (fun j => td (6 + j)) (zcm wv wc cn) p) (i + 1) = true) (hidB_t (Decidable.not_not.mp c127) (gB_f (hs := (fun j => td (6 + j))) (cc := (zcm wv wc cn)) (fun q => by omega)))]) (ih93 trivial)
              · show zq_G _ _ _ _ _ 165 ([(0, .ref 41), (1, .int (nI p)), (2, .int wv), (3, .int (nI wc)), (4, .int (nI (zcm wv wc cn p))), (5, .int (zb (hidB b (gB (fun j => td (6 + j)) (zcm wv wc cn) p) i = true))), (6, .int (nI i)), (7, .int (nI (zcm wv wc cn i)))], [], MH c tr tx ty td dr s im kp at_ so sr va wy)
                refine zq_b [zq_al 0, zq_get 12 3, zq_k 6, zq_il 6, zq_iadd (nI (6 + i)), zq_iald (6 + i) (td (6 + i)), zq_al 0, zq_get 12 3, zq_k 6, zq_il 1, zq_iadd (nI (6 + p)), zq_iald (6 + p) (td (6 + p))] [zq_alchk 0, zq_getchk 12 3, zq_kchk 6, zq_ilchk 6, zq_is .iadd 1, zq_is .iaload 1, zq_alchk 0, zq_getchk 12 3, zq_kchk 6, zq_ilchk 1, zq_is .iadd 1, zq_is .iaload 1] 184 rfl (by decide +kernel) ?_
                refine ⟨(nI_add 6 i), rfl, (by omega), (by omega), rfl, (nI_add 6 p), rfl, (by omega), (by omega), rfl, ?_⟩
                show zq_G _ _ _ _ _ 184 ([(0, .ref 41), (1, .int (nI p)), (2, .int wv), (3, .int (nI wc)), (4, .int (nI (zcm wv wc cn p))), (5, .int (zb (hidB b (gB (fun j => td (6 + j)) (zcm wv wc cn) p) i = true))), (6, .int (nI i)), (7, .int (nI (zcm wv wc cn i)))], [.int (td (6 + p)), .int (td (6 + i))], MH c tr tx ty td dr s im kp at_ so sr va wy)
                refine zq_if .ge 191 ((td (6 + p)) ≤ (td (6 + i))) (by decide +kernel) (Iff.rfl) (fun c184 => ?_) (fun c184 => ?_)
                · show zq_G _ _ _ _ _ 191 ([(0, .ref 41), (1, .int (nI p)), (2, .int wv), (3, .int (nI wc)), (4, .int (nI (zcm wv wc cn p))), (5, .int (zb (hidB b (gB (fun j => td (6 + j)) (zcm wv wc cn) p) i = true))), (6, .int (nI i)), (7, .int (nI (zcm wv wc cn i)))], [], MH c tr tx ty td dr s im kp at_ so sr va wy)
                  refine zq_b [zq_k 0, zq_is1 5, zq_inc 6 1 (nI (i + 1)), zq_go] [zq_kchk 0, zq_is1chk 5, zq_incchk 6 1, zq_gochk] 93 rfl (by decide +kernel) ?_
                  refine ⟨nI_add i 1, ?_⟩
                  show zq_G _ _ _ _ _ 93 ([(0, .ref 41), (1, .int (nI p)), (2, .int wv), (3, .int (nI wc)), (4, .int (nI (zcm wv wc cn p))), (5, .int 0), (6, .int (nI (i + 1))), (7, .int (nI (zcm wv wc cn i)))], [], MH c tr tx ty td dr s im kp at_ so sr va wy)
                  refine zq_pick [0, 1, 2, 3, 4, 5, 6] rfl ?_
                  show zq_G _ _ _ _ _ 93 ([(0, .ref 41), (1, .int (nI p)), (2, .int wv), (3, .int (nI wc)), (4, .int (nI (zcm wv wc cn p))), (5, .int 0), (6, .int (nI (i + 1)))], [], MH c tr tx ty td dr s im kp at_ so sr va wy)
                  exact zq_eq (by rw [← zb_f (P := hidB b (gB (fun j => td (6 + j)) (zcm wv wc cn) p) (i + 1) = true) (hidB_g (gB_t (hs := (fun j => td (6 + j))) (cc := (zcm wv wc cn)) ⟨c184, by omega, by omega⟩))]) (ih93 trivial)
                · show zq_G _ _ _ _ _ 187 ([(0, .ref 41), (1, .int (nI p)), (2, .int wv), (3, .int (nI wc)), (4, .int (nI (zcm wv wc cn p))), (5, .int (zb (hidB b (gB (fun j => td (6 + j)) (zcm wv wc cn) p) i = true))), (6, .int (nI i)), (7, .int (nI (zcm wv wc cn i)))], [], MH c tr tx ty td dr s im kp at_ so sr va wy)
                  refine zq_b [zq_k 1, zq_go, zq_is1 5, zq_inc 6 1 (nI (i + 1)), zq_go] [zq_kchk 1, zq_gochk, zq_is1chk 5, zq_incchk 6 1, zq_gochk] 93 rfl (by decide +kernel) ?_
                  refine ⟨nI_add i 1, ?_⟩
                  show zq_G _ _ _ _ _ 93 ([(0, .ref 41), (1, .int (nI p)), (2, .int wv), (3, .int (nI wc)), (4, .int (nI (zcm wv wc cn p))), (5, .int 1), (6, .int (nI (i + 1))), (7, .int (nI (zcm wv wc cn i)))], [], MH c tr tx ty td dr s im kp at_ so sr va wy)
                  refine zq_pick [0, 1, 2, 3, 4, 5, 6] rfl ?_
                  show zq_G _ _ _ _ _ 93 ([(0, .ref 41), (1, .int (nI p)), (2, .int wv), (3, .int (nI wc)), (4, .int (nI (zcm wv wc cn p))), (5, .int 1), (6, .int (nI (i + 1)))], [], MH c tr tx ty td dr s im kp at_ so sr va wy)
                  exact zq_eq (by rw [← zb_t (P := hidB b (gB (fun j => td (6 + j)) (zcm wv wc cn) p) (i + 1) = true) (hidB_t (Decidable.not_not.mp c127) (gB_f (hs := (fun j => td (6 + j))) (cc := (zcm wv wc cn)) (fun q => c184 q.1)))]) (ih93 trivial)
  · show zq_G _ _ _ _ _ 93 ([(0, .ref 41), (1, .int (nI p)), (2, .int wv), (3, .int (nI wc)), (4, .int (nI (zcm wv wc cn p))), (5, .int (zb (hidB b (gB (fun j => td (6 + j)) (zcm wv wc cn) p) P = true))), (6, .int (nI P))], [], MH c tr tx ty td dr s im kp at_ so sr va wy)
    refine zq_b [zq_il 6, zq_al 0, zq_get 12 3, zq_k 0, zq_iald 0 (nI P)] [zq_ilchk 6, zq_alchk 0, zq_getchk 12 3, zq_kchk 0, zq_is .iaload 1] 101 rfl (by decide +kernel) ?_
    refine ⟨rfl, (by omega), (by omega), ht0, ?_⟩
    show zq_G _ _ _ _ _ 101 ([(0, .ref 41), (1, .int (nI p)), (2, .int wv), (3, .int (nI wc)), (4, .int (nI (zcm wv wc cn p))), (5, .int (zb (hidB b (gB (fun j => td (6 + j)) (zcm wv wc cn) p) P = true))), (6, .int (nI P))], [.int (nI P), .int (nI P)], MH c tr tx ty td dr s im kp at_ so sr va wy)
    refine zq_if .ge 200 (P ≤ P) (by decide +kernel) (zq_cge (a := P) (b := P) (by omega) (by omega)) (fun c101 => ?_) (fun c101 => absurd (by omega) c101)
    show zq_G _ _ _ _ _ 200 ([(0, .ref 41), (1, .int (nI p)), (2, .int wv), (3, .int (nI wc)), (4, .int (nI (zcm wv wc cn p))), (5, .int (zb (hidB b (gB (fun j => td (6 + j)) (zcm wv wc cn) p) P = true))), (6, .int (nI P))], [], MH c tr tx ty td dr s im kp at_ so sr va wy)
    refine zq_b [zq_il 5] [zq_ilchk 5] 202 rfl (by decide +kernel) ?_
    show zq_G _ _ _ _ _ 202 ([(0, .ref 41), (1, .int (nI p)), (2, .int wv), (3, .int (nI wc)), (4, .int (nI (zcm wv wc cn p))), (5, .int (zb (hidB b (gB (fun j => td (6 + j)) (zcm wv wc cn) p) P = true))), (6, .int (nI P))], [.int (zb (hidB b (gB (fun j => td (6 + j)) (zcm wv wc cn) p) P = true))], MH c tr tx ty td dr s im kp at_ so sr va wy)
    exact zq_zret (by decide +kernel) rfl (zb_01 _) rfl rfl
set_option maxHeartbeats 4000000 in
set_option maxRecDepth 100000 in
theorem m_isBare {p : Nat} {wv : Int32} {wc : Nat} (ht0 : td 0 = nI P) (hs1 : s 1 = sm) (hP : P ≤ 6) (hce : ∀ j, j < P → s (3 + j) = nI (cn j) ∧ cn j ≤ 26) (hp : p < P) (hwc : wc ≤ 26) : zq_P l mX12_isBare 0 [.ref 41, .int (nI p), .int wv, .int (nI wc)] (MH c tr tx ty td dr s im kp at_ so sr va wy) (some (.int (zb (bareB P (fun j => td (6 + j)) sm (zcm wv wc cn) p = true)))) (MH c tr tx ty td dr s im kp at_ so sr va wy) := by
  refine zq_start (by decide +kernel) rfl (Nat.le_of_ble_eq_true rfl) ?_
  show zq_G _ _ _ _ _ 0 ([(0, .ref 41), (1, .int (nI p)), (2, .int wv), (3, .int (nI wc))], [], MH c tr tx ty td dr s im kp at_ so sr va wy)
  have hz : ∀ q, q < P → zcm wv wc cn q ≤ 26 := fun q hq => zcm_le hwc (hce q hq).2
  have hzp := hz p hp
  refine zq_b [zq_il 1, zq_il 2] [zq_ilchk 1, zq_ilchk 2] 2 rfl (by decide +kernel) ?_
  show zq_G _ _ _ _ _ 2 ([(0, .ref 41), (1, .int (nI p)), (2, .int wv), (3, .int (nI wc))], [.int wv, .int (nI p)], MH c tr tx ty td dr s im kp at_ so sr va wy)
  refine zq_if .ne 9 (¬ (nI p) = wv) (by decide +kernel) (Iff.rfl) (fun c2 => ?_) (fun c2 => ?_)
  · show zq_G _ _ _ _ _ 9 ([(0, .ref 41), (1, .int (nI p)), (2, .int wv), (3, .int (nI wc))], [], MH c tr tx ty td dr s im kp at_ so sr va wy)
    refine zq_b [zq_al 0, zq_get 12 5, zq_k 3, zq_il 1, zq_iadd (nI (3 + p)), zq_iald (3 + p) (nI (cn p))] [zq_alchk 0, zq_getchk 12 5, zq_kchk 3, zq_ilchk 1, zq_is .iadd 1, zq_is .iaload 1] 17 rfl (by decide +kernel) ?_
    refine ⟨(nI_add 3 p), rfl, (by omega), (by omega), (hce _ (by omega)).1, ?_⟩
    show zq_G _ _ _ _ _ 17 ([(0, .ref 41), (1, .int (nI p)), (2, .int wv), (3, .int (nI wc))], [.int (nI (cn p))], MH c tr tx ty td dr s im kp at_ so sr va wy)
    refine zq_eq (σ2 := ([(0, .ref 41), (1, .int (nI p)), (2, .int wv), (3, .int (nI wc))], [.int (nI (zcm wv wc cn p))], MH c tr tx ty td dr s im kp at_ so sr va wy)) (by rw [zcm_f c2]) ?_
    refine zq_b [zq_is1 4, zq_il 4, zq_k 25] [zq_is1chk 4, zq_ilchk 4, zq_kchk 25] 23 rfl (by decide +kernel) ?_
    show zq_G _ _ _ _ _ 23 ([(0, .ref 41), (1, .int (nI p)), (2, .int wv), (3, .int (nI wc)), (4, .int (nI (zcm wv wc cn p)))], [.int 25, .int (nI (zcm wv wc cn p))], MH c tr tx ty td dr s im kp at_ so sr va wy)
    refine zq_if .ge 30 (25 ≤ (zcm wv wc cn p)) (by decide +kernel) (zq_cge (a := zcm wv wc cn p) (b := 25) (by omega) (by omega)) (fun c23 => ?_) (fun c23 => ?_)
    · show zq_G _ _ _ _ _ 30 ([(0, .ref 41), (1, .int (nI p)), (2, .int wv), (3, .int (nI wc)), (4, .int (nI (zcm wv wc cn p)))], [], MH c tr tx ty td dr s im kp at_ so sr va wy)
      refine zq_b [zq_k 0, zq_is1 5] [zq_kchk 0, zq_is1chk 5] 33 rfl (by decide +kernel) ?_
      show zq_G _ _ _ _ _ 33 ([(0, .ref 41), (1, .int (nI p)), (2, .int wv), (3, .int (nI wc)), (4, .int (nI (zcm wv wc cn p))), (5, .int 0)], [], MH c tr tx ty td dr s im kp at_ so sr va wy)
      refine zq_eq (σ2 := ([(0, .ref 41), (1, .int (nI p)), (2, .int wv), (3, .int (nI wc)), (4, .int (nI (zcm wv wc cn p))), (5, .int (zb (rowB sm (zcm wv wc cn p) 0 = true)))], [], MH c tr tx ty td dr s im kp at_ so sr va wy)) (by rw [← zb_f (P := rowB sm (zcm wv wc cn p) 0 = true) (by unfold rowB; rw [decide_eq_false (by omega)]; simp)]) ?_
      refine zq_b [zq_k 0, zq_is1 6] [zq_kchk 0, zq_is1chk 6] 36 rfl (by decide +kernel) ?_
      show zq_G _ _ _ _ _ 36 ([(0, .ref 41), (1, .int (nI p)), (2, .int wv), (3, .int (nI wc)), (4, .int (nI (zcm wv wc cn p))), (5, .int (zb (rowB sm (zcm wv wc cn p) 0 = true))), (6, .int 0)], [], MH c tr tx ty td dr s im kp at_ so sr va wy)
      refine zq_eq (σ2 := ([(0, .ref 41), (1, .int (nI p)), (2, .int wv), (3, .int (nI wc)), (4, .int (nI (zcm wv wc cn p))), (5, .int (zb (rowB sm (zcm wv wc cn p) (0 : Nat) = true))), (6, .int (nI (0 : Nat)))], [], MH c tr tx ty td dr s im kp at_ so sr va wy)) (rfl) ?_
      refine zq_loop (fun i => ([(0, .ref 41), (1, .int (nI p)), (2, .int wv), (3, .int (nI wc)), (4, .int (nI (zcm wv wc cn p))), (5, .int (zb (rowB sm (zcm wv wc cn p) i = true))), (6, .int (nI i))], [], MH c tr tx ty td dr s im kp at_ so sr va wy)) (fun i => True) (5) (0) (by omega) (trivial) (fun i hl36 hi36 hI36 ih36 => ?_) (fun hI36 => ?_)
      · show zq_G _ _ _ _ _ 36 ([(0, .ref 41), (1, .int (nI p)), (2, .int wv), (3, .int (nI wc)), (4, .int (nI (zcm wv wc cn p))), (5, .int (zb (rowB sm (zcm wv wc cn p) i = true))), (6, .int (nI i))], [], MH c tr tx ty td dr s im kp at_ so sr va wy)
        refine zq_b [zq_il 6, zq_k 5] [zq_ilchk 6, zq_kchk 5] 39 rfl (by decide +kernel) ?_
        show zq_G _ _ _ _ _ 39 ([(0, .ref 41), (1, .int (nI p)), (2, .int wv), (3, .int (nI wc)), (4, .int (nI (zcm wv wc cn p))), (5, .int (zb (rowB sm (zcm wv wc cn p) i = true))), (6, .int (nI i))], [.int 5, .int (nI i)], MH c tr tx ty td dr s im kp at_ so sr va wy)
        refine zq_if .ge 90 (5 ≤ i) (by decide +kernel) (zq_cge (a := i) (b := 5) (by omega) (by omega)) (fun c39 => absurd c39 (by omega)) (fun c39 => ?_)
        show zq_G _ _ _ _ _ 42 ([(0, .ref 41), (1, .int (nI p)), (2, .int wv), (3, .int (nI wc)), (4, .int (nI (zcm wv wc cn p))), (5, .int (zb (rowB sm (zcm wv wc cn p) i = true))), (6, .int (nI i))], [], MH c tr tx ty td dr s im kp at_ so sr va wy)
        refine zq_b [zq_il 5] [zq_ilchk 5] 44 rfl (by decide +kernel) ?_
        show zq_G _ _ _ _ _ 44 ([(0, .ref 41), (1, .int (nI p)), (2, .int wv), (3, .int (nI wc)), (4, .int (nI (zcm wv wc cn p))), (5, .int (zb (rowB sm (zcm wv wc cn p) i = true))), (6, .int (nI i))], [.int (zb (rowB sm (zcm wv wc cn p) i = true))], MH c tr tx ty td dr s im kp at_ so sr va wy)
        refine zq_ifz .eq 90 (¬ (rowB sm (zcm wv wc cn p) i = true)) (by decide +kernel) (zb_eq _) (fun c44 => ?_) (fun c44 => ?_)
        · show zq_G _ _ _ _ _ 90 ([(0, .ref 41), (1, .int (nI p)), (2, .int wv), (3, .int (nI wc)), (4, .int (nI (zcm wv wc cn p))), (5, .int (zb (rowB sm (zcm wv wc cn p) i = true))), (6, .int (nI i))], [], MH c tr tx ty td dr s im kp at_ so sr va wy)
          refine zq_eq (σ2 := ([(0, .ref 41), (1, .int (nI p)), (2, .int wv), (3, .int (nI wc)), (4, .int (nI (zcm wv wc cn p))), (5, .int (zb (rowB sm (zcm wv wc cn p) 5 = true))), (6, .int (nI i))], [], MH c tr tx ty td dr s im kp at_ so sr va wy)) (by rw [zb_0 c44, zb_0 (rowB_mono (by omega) c44)]) ?_
          refine zq_pick [0, 1, 2, 3, 4, 5] rfl ?_
          show zq_G _ _ _ _ _ 90 ([(0, .ref 41), (1, .int (nI p)), (2, .int wv), (3, .int (nI wc)), (4, .int (nI (zcm wv wc cn p))), (5, .int (zb (rowB sm (zcm wv wc cn p) 5 = true)))], [], MH c tr tx ty td dr s im kp at_ so sr va wy)
          rw [← bare_eq]
          exact m_bare2 ht0 hP hce hp hwc (fun q => rowB_25 q)
        · show zq_G _ _ _ _ _ 47 ([(0, .ref 41), (1, .int (nI p)), (2, .int wv), (3, .int (nI wc)), (4, .int (nI (zcm wv wc cn p))), (5, .int (zb (rowB sm (zcm wv wc cn p) i = true))), (6, .int (nI i))], [], MH c tr tx ty td dr s im kp at_ so sr va wy)
          refine zq_b [zq_il 6, zq_il 4, zq_k 5, zq_idiv (nI ((zcm wv wc cn p) / 5))] [zq_ilchk 6, zq_ilchk 4, zq_kchk 5, zq_is .idiv 1] 53 rfl (by decide +kernel) ?_
          refine ⟨(by decide), (zq_div (a := zcm wv wc cn p) (b := 5) (by omega) (by omega) (by omega)), ?_⟩
          show zq_G _ _ _ _ _ 53 ([(0, .ref 41), (1, .int (nI p)), (2, .int wv), (3, .int (nI wc)), (4, .int (nI (zcm wv wc cn p))), (5, .int (zb (rowB sm (zcm wv wc cn p) i = true))), (6, .int (nI i))], [.int (nI ((zcm wv wc cn p) / 5)), .int (nI i)], MH c tr tx ty td dr s im kp at_ so sr va wy)
          refine zq_if .gt 77 (((zcm wv wc cn p) / 5) < i) (by decide +kernel) (zq_cgt (a := i) (b := (zcm wv wc cn p) / 5) (by omega) (by omega)) (fun c53 => ?_) (fun c53 => ?_)
          · show zq_G _ _ _ _ _ 77 ([(0, .ref 41), (1, .int (nI p)), (2, .int wv), (3, .int (nI wc)), (4, .int (nI (zcm wv wc cn p))), (5, .int (zb (rowB sm (zcm wv wc cn p) i = true))), (6, .int (nI i))], [], MH c tr tx ty td dr s im kp at_ so sr va wy)
            refine zq_b [zq_k 1, zq_go, zq_is1 5, zq_inc 6 1 (nI (i + 1)), zq_go] [zq_kchk 1, zq_gochk, zq_is1chk 5, zq_incchk 6 1, zq_gochk] 36 rfl (by decide +kernel) ?_
            refine ⟨nI_add i 1, ?_⟩
            show zq_G _ _ _ _ _ 36 ([(0, .ref 41), (1, .int (nI p)), (2, .int wv), (3, .int (nI wc)), (4, .int (nI (zcm wv wc cn p))), (5, .int 1), (6, .int (nI (i + 1)))], [], MH c tr tx ty td dr s im kp at_ so sr va wy)
            exact zq_eq (by rw [← zb_t (P := rowB sm (zcm wv wc cn p) (i + 1) = true) (rowB_s (Decidable.not_not.mp c44) (by rw [decide_eq_false (by omega), Bool.false_and]))]) (ih36 trivial)
          · show zq_G _ _ _ _ _ 56 ([(0, .ref 41), (1, .int (nI p)), (2, .int wv), (3, .int (nI wc)), (4, .int (nI (zcm wv wc cn p))), (5, .int (zb (rowB sm (zcm wv wc cn p) i = true))), (6, .int (nI i))], [], MH c tr tx ty td dr s im kp at_ so sr va wy)
            refine zq_b [zq_al 0, zq_get 12 5, zq_k 1, zq_iald 1 sm, zq_k 5, zq_il 6, zq_imul (nI (5 * i)), zq_il 4, zq_k 5, zq_irem (nI ((zcm wv wc cn p) % 5)), zq_iadd (nI (5 * i + ((zcm wv wc cn p) % 5))), zq_ishr (sm >>> (nI (5 * i + zcm wv wc cn p % 5) &&& 31)), zq_k 1, zq_iand (zbit sm (nI (5 * i + zcm wv wc cn p % 5)))] [zq_alchk 0, zq_getchk 12 5, zq_kchk 1, zq_is .iaload 1, zq_kchk 5, zq_ilchk 6, zq_is .imul 1, zq_ilchk 4, zq_kchk 5, zq_is .irem 1, zq_is .iadd 1, zq_is .ishr 1, zq_kchk 1, zq_is .iand 1] 74 rfl (by decide +kernel) ?_
            refine ⟨rfl, (by omega), (by omega), hs1, (pk_mul 5 i), (by decide), (zq_rem (a := zcm wv wc cn p) (b := 5) (by omega) (by omega) (by omega)), (nI_add (5 * i) ((zcm wv wc cn p) % 5)), rfl, rfl, ?_⟩
            show zq_G _ _ _ _ _ 74 ([(0, .ref 41), (1, .int (nI p)), (2, .int wv), (3, .int (nI wc)), (4, .int (nI (zcm wv wc cn p))), (5, .int (zb (rowB sm (zcm wv wc cn p) i = true))), (6, .int (nI i))], [.int (zbit sm (nI (5 * i + zcm wv wc cn p % 5)))], MH c tr tx ty td dr s im kp at_ so sr va wy)
            refine zq_ifz .ne 81 (¬ zbit sm (nI (5 * i + zcm wv wc cn p % 5)) = 0) (by decide +kernel) (Iff.rfl) (fun c74 => ?_) (fun c74 => ?_)
            · show zq_G _ _ _ _ _ 81 ([(0, .ref 41), (1, .int (nI p)), (2, .int wv), (3, .int (nI wc)), (4, .int (nI (zcm wv wc cn p))), (5, .int (zb (rowB sm (zcm wv wc cn p) i = true))), (6, .int (nI i))], [], MH c tr tx ty td dr s im kp at_ so sr va wy)
              refine zq_b [zq_k 0, zq_is1 5, zq_inc 6 1 (nI (i + 1)), zq_go] [zq_kchk 0, zq_is1chk 5, zq_incchk 6 1, zq_gochk] 36 rfl (by decide +kernel) ?_
              refine ⟨nI_add i 1, ?_⟩
              show zq_G _ _ _ _ _ 36 ([(0, .ref 41), (1, .int (nI p)), (2, .int wv), (3, .int (nI wc)), (4, .int (nI (zcm wv wc cn p))), (5, .int 0), (6, .int (nI (i + 1)))], [], MH c tr tx ty td dr s im kp at_ so sr va wy)
              exact zq_eq (by rw [← zb_f (P := rowB sm (zcm wv wc cn p) (i + 1) = true) (rowB_n (by omega) c74)]) (ih36 trivial)
            · show zq_G _ _ _ _ _ 77 ([(0, .ref 41), (1, .int (nI p)), (2, .int wv), (3, .int (nI wc)), (4, .int (nI (zcm wv wc cn p))), (5, .int (zb (rowB sm (zcm wv wc cn p) i = true))), (6, .int (nI i))], [], MH c tr tx ty td dr s im kp at_ so sr va wy)
              refine zq_b [zq_k 1, zq_go, zq_is1 5, zq_inc 6 1 (nI (i + 1)), zq_go] [zq_kchk 1, zq_gochk, zq_is1chk 5, zq_incchk 6 1, zq_gochk] 36 rfl (by decide +kernel) ?_
              refine ⟨nI_add i 1, ?_⟩
              show zq_G _ _ _ _ _ 36 ([(0, .ref 41), (1, .int (nI p)), (2, .int wv), (3, .int (nI wc)), (4, .int (nI (zcm wv wc cn p))), (5, .int 1), (6, .int (nI (i + 1)))], [], MH c tr tx ty td dr s im kp at_ so sr va wy)
              exact zq_eq (by rw [← zb_t (P := rowB sm (zcm wv wc cn p) (i + 1) = true) (rowB_s (Decidable.not_not.mp c44) (by rw [decide_eq_false (p := ¬ zbit sm (nI (5 * i + zcm wv wc cn p % 5)) = 0) c74, Bool.and_false]))]) (ih36 trivial)
      · show zq_G _ _ _ _ _ 36 ([(0, .ref 41), (1, .int (nI p)), (2, .int wv), (3, .int (nI wc)), (4, .int (nI (zcm wv wc cn p))), (5, .int (zb (rowB sm (zcm wv wc cn p) 5 = true))), (6, .int 5)], [], MH c tr tx ty td dr s im kp at_ so sr va wy)
        refine zq_b [zq_il 6, zq_k 5] [zq_ilchk 6, zq_kchk 5] 39 rfl (by decide +kernel) ?_
        show zq_G _ _ _ _ _ 39 ([(0, .ref 41), (1, .int (nI p)), (2, .int wv), (3, .int (nI wc)), (4, .int (nI (zcm wv wc cn p))), (5, .int (zb (rowB sm (zcm wv wc cn p) 5 = true))), (6, .int 5)], [.int 5, .int 5], MH c tr tx ty td dr s im kp at_ so sr va wy)
        refine zq_if .ge 90 (5 ≤ 5) (by decide +kernel) (zq_cge (a := 5) (b := 5) (by omega) (by omega)) (fun c39 => ?_) (fun c39 => absurd (by omega) c39)
        show zq_G _ _ _ _ _ 90 ([(0, .ref 41), (1, .int (nI p)), (2, .int wv), (3, .int (nI wc)), (4, .int (nI (zcm wv wc cn p))), (5, .int (zb (rowB sm (zcm wv wc cn p) 5 = true))), (6, .int 5)], [], MH c tr tx ty td dr s im kp at_ so sr va wy)
        refine zq_eq (σ2 := ([(0, .ref 41), (1, .int (nI p)), (2, .int wv), (3, .int (nI wc)), (4, .int (nI (zcm wv wc cn p))), (5, .int (zb (rowB sm (zcm wv wc cn p) 5 = true))), (6, .int 5)], [], MH c tr tx ty td dr s im kp at_ so sr va wy)) (rfl) ?_
        refine zq_pick [0, 1, 2, 3, 4, 5] rfl ?_
        show zq_G _ _ _ _ _ 90 ([(0, .ref 41), (1, .int (nI p)), (2, .int wv), (3, .int (nI wc)), (4, .int (nI (zcm wv wc cn p))), (5, .int (zb (rowB sm (zcm wv wc cn p) 5 = true)))], [], MH c tr tx ty td dr s im kp at_ so sr va wy)
        rw [← bare_eq]
        exact m_bare2 ht0 hP hce hp hwc (fun q => rowB_25 q)
    · show zq_G _ _ _ _ _ 26 ([(0, .ref 41), (1, .int (nI p)), (2, .int wv), (3, .int (nI wc)), (4, .int (nI (zcm wv wc cn p)))], [], MH c tr tx ty td dr s im kp at_ so sr va wy)
      refine zq_b [zq_k 1, zq_go, zq_is1 5] [zq_kchk 1, zq_gochk, zq_is1chk 5] 33 rfl (by decide +kernel) ?_
      show zq_G _ _ _ _ _ 33 ([(0, .ref 41), (1, .int (nI p)), (2, .int wv), (3, .int (nI wc)), (4, .int (nI (zcm wv wc cn p))), (5, .int 1)], [], MH c tr tx ty td dr s im kp at_ so sr va wy)
      refine zq_eq (σ2 := ([(0, .ref 41), (1, .int (nI p)), (2, .int wv), (3, .int (nI wc)), (4, .int (nI (zcm wv wc cn p))), (5, .int (zb (rowB sm (zcm wv wc cn p) 0 = true)))], [], MH c tr tx ty td dr s im kp at_ so sr va wy)) (by rw [← zb_t (P := rowB sm (zcm wv wc cn p) 0 = true) (by unfold rowB smR; simp only [zany, Bool.not_false, Bool.and_true]; exact decide_eq_true (by omega))]) ?_
      refine zq_b [zq_k 0, zq_is1 6] [zq_kchk 0, zq_is1chk 6] 36 rfl (by decide +kernel) ?_
      show zq_G _ _ _ _ _ 36 ([(0, .ref 41), (1, .int (nI p)), (2, .int wv), (3, .int (nI wc)), (4, .int (nI (zcm wv wc cn p))), (5, .int (zb (rowB sm (zcm wv wc cn p) 0 = true))), (6, .int 0)], [], MH c tr tx ty td dr s im kp at_ so sr va wy)
      refine zq_eq (σ2 := ([(0, .ref 41), (1, .int (nI p)), (2, .int wv), (3, .int (nI wc)), (4, .int (nI (zcm wv wc cn p))), (5, .int (zb (rowB sm (zcm wv wc cn p) (0 : Nat) = true))), (6, .int (nI (0 : Nat)))], [], MH c tr tx ty td dr s im kp at_ so sr va wy)) (rfl) ?_
      refine zq_loop (fun i => ([(0, .ref 41), (1, .int (nI p)), (2, .int wv), (3, .int (nI wc)), (4, .int (nI (zcm wv wc cn p))), (5, .int (zb (rowB sm (zcm wv wc cn p) i = true))), (6, .int (nI i))], [], MH c tr tx ty td dr s im kp at_ so sr va wy)) (fun i => True) (5) (0) (by omega) (trivial) (fun i hl36 hi36 hI36 ih36 => ?_) (fun hI36 => ?_)
      · show zq_G _ _ _ _ _ 36 ([(0, .ref 41), (1, .int (nI p)), (2, .int wv), (3, .int (nI wc)), (4, .int (nI (zcm wv wc cn p))), (5, .int (zb (rowB sm (zcm wv wc cn p) i = true))), (6, .int (nI i))], [], MH c tr tx ty td dr s im kp at_ so sr va wy)
        refine zq_b [zq_il 6, zq_k 5] [zq_ilchk 6, zq_kchk 5] 39 rfl (by decide +kernel) ?_
        show zq_G _ _ _ _ _ 39 ([(0, .ref 41), (1, .int (nI p)), (2, .int wv), (3, .int (nI wc)), (4, .int (nI (zcm wv wc cn p))), (5, .int (zb (rowB sm (zcm wv wc cn p) i = true))), (6, .int (nI i))], [.int 5, .int (nI i)], MH c tr tx ty td dr s im kp at_ so sr va wy)
        refine zq_if .ge 90 (5 ≤ i) (by decide +kernel) (zq_cge (a := i) (b := 5) (by omega) (by omega)) (fun c39 => absurd c39 (by omega)) (fun c39 => ?_)
        show zq_G _ _ _ _ _ 42 ([(0, .ref 41), (1, .int (nI p)), (2, .int wv), (3, .int (nI wc)), (4, .int (nI (zcm wv wc cn p))), (5, .int (zb (rowB sm (zcm wv wc cn p) i = true))), (6, .int (nI i))], [], MH c tr tx ty td dr s im kp at_ so sr va wy)
        refine zq_b [zq_il 5] [zq_ilchk 5] 44 rfl (by decide +kernel) ?_
        show zq_G _ _ _ _ _ 44 ([(0, .ref 41), (1, .int (nI p)), (2, .int wv), (3, .int (nI wc)), (4, .int (nI (zcm wv wc cn p))), (5, .int (zb (rowB sm (zcm wv wc cn p) i = true))), (6, .int (nI i))], [.int (zb (rowB sm (zcm wv wc cn p) i = true))], MH c tr tx ty td dr s im kp at_ so sr va wy)
        refine zq_ifz .eq 90 (¬ (rowB sm (zcm wv wc cn p) i = true)) (by decide +kernel) (zb_eq _) (fun c44 => ?_) (fun c44 => ?_)
        · show zq_G _ _ _ _ _ 90 ([(0, .ref 41), (1, .int (nI p)), (2, .int wv), (3, .int (nI wc)), (4, .int (nI (zcm wv wc cn p))), (5, .int (zb (rowB sm (zcm wv wc cn p) i = true))), (6, .int (nI i))], [], MH c tr tx ty td dr s im kp at_ so sr va wy)
          refine zq_eq (σ2 := ([(0, .ref 41), (1, .int (nI p)), (2, .int wv), (3, .int (nI wc)), (4, .int (nI (zcm wv wc cn p))), (5, .int (zb (rowB sm (zcm wv wc cn p) 5 = true))), (6, .int (nI i))], [], MH c tr tx ty td dr s im kp at_ so sr va wy)) (by rw [zb_0 c44, zb_0 (rowB_mono (by omega) c44)]) ?_
          refine zq_pick [0, 1, 2, 3, 4, 5] rfl ?_
          show zq_G _ _ _ _ _ 90 ([(0, .ref 41), (1, .int (nI p)), (2, .int wv), (3, .int (nI wc)), (4, .int (nI (zcm wv wc cn p))), (5, .int (zb (rowB sm (zcm wv wc cn p) 5 = true)))], [], MH c tr tx ty td dr s im kp at_ so sr va wy)
          rw [← bare_eq]
          exact m_bare2 ht0 hP hce hp hwc (fun q => rowB_25 q)
        · show zq_G _ _ _ _ _ 47 ([(0, .ref 41), (1, .int (nI p)), (2, .int wv), (3, .int (nI wc)), (4, .int (nI (zcm wv wc cn p))), (5, .int (zb (rowB sm (zcm wv wc cn p) i = true))), (6, .int (nI i))], [], MH c tr tx ty td dr s im kp at_ so sr va wy)
          refine zq_b [zq_il 6, zq_il 4, zq_k 5, zq_idiv (nI ((zcm wv wc cn p) / 5))] [zq_ilchk 6, zq_ilchk 4, zq_kchk 5, zq_is .idiv 1] 53 rfl (by decide +kernel) ?_
          refine ⟨(by decide), (zq_div (a := zcm wv wc cn p) (b := 5) (by omega) (by omega) (by omega)), ?_⟩
          show zq_G _ _ _ _ _ 53 ([(0, .ref 41), (1, .int (nI p)), (2, .int wv), (3, .int (nI wc)), (4, .int (nI (zcm wv wc cn p))), (5, .int (zb (rowB sm (zcm wv wc cn p) i = true))), (6, .int (nI i))], [.int (nI ((zcm wv wc cn p) / 5)), .int (nI i)], MH c tr tx ty td dr s im kp at_ so sr va wy)
          refine zq_if .gt 77 (((zcm wv wc cn p) / 5) < i) (by decide +kernel) (zq_cgt (a := i) (b := (zcm wv wc cn p) / 5) (by omega) (by omega)) (fun c53 => ?_) (fun c53 => ?_)
          · show zq_G _ _ _ _ _ 77 ([(0, .ref 41), (1, .int (nI p)), (2, .int wv), (3, .int (nI wc)), (4, .int (nI (zcm wv wc cn p))), (5, .int (zb (rowB sm (zcm wv wc cn p) i = true))), (6, .int (nI i))], [], MH c tr tx ty td dr s im kp at_ so sr va wy)
            refine zq_b [zq_k 1, zq_go, zq_is1 5, zq_inc 6 1 (nI (i + 1)), zq_go] [zq_kchk 1, zq_gochk, zq_is1chk 5, zq_incchk 6 1, zq_gochk] 36 rfl (by decide +kernel) ?_
            refine ⟨nI_add i 1, ?_⟩
            show zq_G _ _ _ _ _ 36 ([(0, .ref 41), (1, .int (nI p)), (2, .int wv), (3, .int (nI wc)), (4, .int (nI (zcm wv wc cn p))), (5, .int 1), (6, .int (nI (i + 1)))], [], MH c tr tx ty td dr s im kp at_ so sr va wy)
            exact zq_eq (by rw [← zb_t (P := rowB sm (zcm wv wc cn p) (i + 1) = true) (rowB_s (Decidable.not_not.mp c44) (by rw [decide_eq_false (by omega), Bool.false_and]))]) (ih36 trivial)
          · show zq_G _ _ _ _ _ 56 ([(0, .ref 41), (1, .int (nI p)), (2, .int wv), (3, .int (nI wc)), (4, .int (nI (zcm wv wc cn p))), (5, .int (zb (rowB sm (zcm wv wc cn p) i = true))), (6, .int (nI i))], [], MH c tr tx ty td dr s im kp at_ so sr va wy)
            refine zq_b [zq_al 0, zq_get 12 5, zq_k 1, zq_iald 1 sm, zq_k 5, zq_il 6, zq_imul (nI (5 * i)), zq_il 4, zq_k 5, zq_irem (nI ((zcm wv wc cn p) % 5)), zq_iadd (nI (5 * i + ((zcm wv wc cn p) % 5))), zq_ishr (sm >>> (nI (5 * i + zcm wv wc cn p % 5) &&& 31)), zq_k 1, zq_iand (zbit sm (nI (5 * i + zcm wv wc cn p % 5)))] [zq_alchk 0, zq_getchk 12 5, zq_kchk 1, zq_is .iaload 1, zq_kchk 5, zq_ilchk 6, zq_is .imul 1, zq_ilchk 4, zq_kchk 5, zq_is .irem 1, zq_is .iadd 1, zq_is .ishr 1, zq_kchk 1, zq_is .iand 1] 74 rfl (by decide +kernel) ?_
            refine ⟨rfl, (by omega), (by omega), hs1, (pk_mul 5 i), (by decide), (zq_rem (a := zcm wv wc cn p) (b := 5) (by omega) (by omega) (by omega)), (nI_add (5 * i) ((zcm wv wc cn p) % 5)), rfl, rfl, ?_⟩
            show zq_G _ _ _ _ _ 74 ([(0, .ref 41), (1, .int (nI p)), (2, .int wv), (3, .int (nI wc)), (4, .int (nI (zcm wv wc cn p))), (5, .int (zb (rowB sm (zcm wv wc cn p) i = true))), (6, .int (nI i))], [.int (zbit sm (nI (5 * i + zcm wv wc cn p % 5)))], MH c tr tx ty td dr s im kp at_ so sr va wy)
            refine zq_ifz .ne 81 (¬ zbit sm (nI (5 * i + zcm wv wc cn p % 5)) = 0) (by decide +kernel) (Iff.rfl) (fun c74 => ?_) (fun c74 => ?_)
            · show zq_G _ _ _ _ _ 81 ([(0, .ref 41), (1, .int (nI p)), (2, .int wv), (3, .int (nI wc)), (4, .int (nI (zcm wv wc cn p))), (5, .int (zb (rowB sm (zcm wv wc cn p) i = true))), (6, .int (nI i))], [], MH c tr tx ty td dr s im kp at_ so sr va wy)
              refine zq_b [zq_k 0, zq_is1 5, zq_inc 6 1 (nI (i + 1)), zq_go] [zq_kchk 0, zq_is1chk 5, zq_incchk 6 1, zq_gochk] 36 rfl (by decide +kernel) ?_
              refine ⟨nI_add i 1, ?_⟩
              show zq_G _ _ _ _ _ 36 ([(0, .ref 41), (1, .int (nI p)), (2, .int wv), (3, .int (nI wc)), (4, .int (nI (zcm wv wc cn p))), (5, .int 0), (6, .int (nI (i + 1)))], [], MH c tr tx ty td dr s im kp at_ so sr va wy)
              exact zq_eq (by rw [← zb_f (P := rowB sm (zcm wv wc cn p) (i + 1) = true) (rowB_n (by omega) c74)]) (ih36 trivial)
            · show zq_G _ _ _ _ _ 77 ([(0, .ref 41), (1, .int (nI p)), (2, .int wv), (3, .int (nI wc)), (4, .int (nI (zcm wv wc cn p))), (5, .int (zb (rowB sm (zcm wv wc cn p) i = true))), (6, .int (nI i))], [], MH c tr tx ty td dr s im kp at_ so sr va wy)
              refine zq_b [zq_k 1, zq_go, zq_is1 5, zq_inc 6 1 (nI (i + 1)), zq_go] [zq_kchk 1, zq_gochk, zq_is1chk 5, zq_incchk 6 1, zq_gochk] 36 rfl (by decide +kernel) ?_
              refine ⟨nI_add i 1, ?_⟩
              show zq_G _ _ _ _ _ 36 ([(0, .ref 41), (1, .int (nI p)), (2, .int wv), (3, .int (nI wc)), (4, .int (nI (zcm wv wc cn p))), (5, .int 1), (6, .int (nI (i + 1)))], [], MH c tr tx ty td dr s im kp at_ so sr va wy)
              exact zq_eq (by rw [← zb_t (P := rowB sm (zcm wv wc cn p) (i + 1) = true) (rowB_s (Decidable.not_not.mp c44) (by rw [decide_eq_false (p := ¬ zbit sm (nI (5 * i + zcm wv wc cn p % 5)) = 0) c74, Bool.and_false]))]) (ih36 trivial)
      · show zq_G _ _ _ _ _ 36 ([(0, .ref 41), (1, .int (nI p)), (2, .int wv), (3, .int (nI wc)), (4, .int (nI (zcm wv wc cn p))), (5, .int (zb (rowB sm (zcm wv wc cn p) 5 = true))), (6, .int 5)], [], MH c tr tx ty td dr s im kp at_ so sr va wy)
        refine zq_b [zq_il 6, zq_k 5] [zq_ilchk 6, zq_kchk 5] 39 rfl (by decide +kernel) ?_
        show zq_G _ _ _ _ _ 39 ([(0, .ref 41), (1, .int (nI p)), (2, .int wv), (3, .int (nI wc)), (4, .int (nI (zcm wv wc cn p))), (5, .int (zb (rowB sm (zcm wv wc cn p) 5 = true))), (6, .int 5)], [.int 5, .int 5], MH c tr tx ty td dr s im kp at_ so sr va wy)
        refine zq_if .ge 90 (5 ≤ 5) (by decide +kernel) (zq_cge (a := 5) (b := 5) (by omega) (by omega)) (fun c39 => ?_) (fun c39 => absurd (by omega) c39)
        show zq_G _ _ _ _ _ 90 ([(0, .ref 41), (1, .int (nI p)), (2, .int wv), (3, .int (nI wc)), (4, .int (nI (zcm wv wc cn p))), (5, .int (zb (rowB sm (zcm wv wc cn p) 5 = true))), (6, .int 5)], [], MH c tr tx ty td dr s im kp at_ so sr va wy)
        refine zq_eq (σ2 := ([(0, .ref 41), (1, .int (nI p)), (2, .int wv), (3, .int (nI wc)), (4, .int (nI (zcm wv wc cn p))), (5, .int (zb (rowB sm (zcm wv wc cn p) 5 = true))), (6, .int 5)], [], MH c tr tx ty td dr s im kp at_ so sr va wy)) (rfl) ?_
        refine zq_pick [0, 1, 2, 3, 4, 5] rfl ?_
        show zq_G _ _ _ _ _ 90 ([(0, .ref 41), (1, .int (nI p)), (2, .int wv), (3, .int (nI wc)), (4, .int (nI (zcm wv wc cn p))), (5, .int (zb (rowB sm (zcm wv wc cn p) 5 = true)))], [], MH c tr tx ty td dr s im kp at_ so sr va wy)
        rw [← bare_eq]
        exact m_bare2 ht0 hP hce hp hwc (fun q => rowB_25 q)
  · show zq_G _ _ _ _ _ 5 ([(0, .ref 41), (1, .int (nI p)), (2, .int wv), (3, .int (nI wc))], [], MH c tr tx ty td dr s im kp at_ so sr va wy)
    refine zq_b [zq_il 3, zq_go] [zq_ilchk 3, zq_gochk] 17 rfl (by decide +kernel) ?_
    show zq_G _ _ _ _ _ 17 ([(0, .ref 41), (1, .int (nI p)), (2, .int wv), (3, .int (nI wc))], [.int (nI wc)], MH c tr tx ty td dr s im kp at_ so sr va wy)
    refine zq_eq (σ2 := ([(0, .ref 41), (1, .int (nI p)), (2, .int wv), (3, .int (nI wc))], [.int (nI (zcm wv wc cn p))], MH c tr tx ty td dr s im kp at_ so sr va wy)) (by rw [zcm_t (Decidable.not_not.mp c2)]) ?_
    refine zq_b [zq_is1 4, zq_il 4, zq_k 25] [zq_is1chk 4, zq_ilchk 4, zq_kchk 25] 23 rfl (by decide +kernel) ?_
    show zq_G _ _ _ _ _ 23 ([(0, .ref 41), (1, .int (nI p)), (2, .int wv), (3, .int (nI wc)), (4, .int (nI (zcm wv wc cn p)))], [.int 25, .int (nI (zcm wv wc cn p))], MH c tr tx ty td dr s im kp at_ so sr va wy)
    refine zq_if .ge 30 (25 ≤ (zcm wv wc cn p)) (by decide +kernel) (zq_cge (a := zcm wv wc cn p) (b := 25) (by omega) (by omega)) (fun c23 => ?_) (fun c23 => ?_)
    · show zq_G _ _ _ _ _ 30 ([(0, .ref 41), (1, .int (nI p)), (2, .int wv), (3, .int (nI wc)), (4, .int (nI (zcm wv wc cn p)))], [], MH c tr tx ty td dr s im kp at_ so sr va wy)
      refine zq_b [zq_k 0, zq_is1 5] [zq_kchk 0, zq_is1chk 5] 33 rfl (by decide +kernel) ?_
      show zq_G _ _ _ _ _ 33 ([(0, .ref 41), (1, .int (nI p)), (2, .int wv), (3, .int (nI wc)), (4, .int (nI (zcm wv wc cn p))), (5, .int 0)], [], MH c tr tx ty td dr s im kp at_ so sr va wy)
      refine zq_eq (σ2 := ([(0, .ref 41), (1, .int (nI p)), (2, .int wv), (3, .int (nI wc)), (4, .int (nI (zcm wv wc cn p))), (5, .int (zb (rowB sm (zcm wv wc cn p) 0 = true)))], [], MH c tr tx ty td dr s im kp at_ so sr va wy)) (by rw [← zb_f (P := rowB sm (zcm wv wc cn p) 0 = true) (by unfold rowB; rw [decide_eq_false (by omega)]; simp)]) ?_
      refine zq_b [zq_k 0, zq_is1 6] [zq_kchk 0, zq_is1chk 6] 36 rfl (by decide +kernel) ?_
      show zq_G _ _ _ _ _ 36 ([(0, .ref 41), (1, .int (nI p)), (2, .int wv), (3, .int (nI wc)), (4, .int (nI (zcm wv wc cn p))), (5, .int (zb (rowB sm (zcm wv wc cn p) 0 = true))), (6, .int 0)], [], MH c tr tx ty td dr s im kp at_ so sr va wy)
      refine zq_eq (σ2 := ([(0, .ref 41), (1, .int (nI p)), (2, .int wv), (3, .int (nI wc)), (4, .int (nI (zcm wv wc cn p))), (5, .int (zb (rowB sm (zcm wv wc cn p) (0 : Nat) = true))), (6, .int (nI (0 : Nat)))], [], MH c tr tx ty td dr s im kp at_ so sr va wy)) (rfl) ?_
      refine zq_loop (fun i => ([(0, .ref 41), (1, .int (nI p)), (2, .int wv), (3, .int (nI wc)), (4, .int (nI (zcm wv wc cn p))), (5, .int (zb (rowB sm (zcm wv wc cn p) i = true))), (6, .int (nI i))], [], MH c tr tx ty td dr s im kp at_ so sr va wy)) (fun i => True) (5) (0) (by omega) (trivial) (fun i hl36 hi36 hI36 ih36 => ?_) (fun hI36 => ?_)
      · show zq_G _ _ _ _ _ 36 ([(0, .ref 41), (1, .int (nI p)), (2, .int wv), (3, .int (nI wc)), (4, .int (nI (zcm wv wc cn p))), (5, .int (zb (rowB sm (zcm wv wc cn p) i = true))), (6, .int (nI i))], [], MH c tr tx ty td dr s im kp at_ so sr va wy)
        refine zq_b [zq_il 6, zq_k 5] [zq_ilchk 6, zq_kchk 5] 39 rfl (by decide +kernel) ?_
        show zq_G _ _ _ _ _ 39 ([(0, .ref 41), (1, .int (nI p)), (2, .int wv), (3, .int (nI wc)), (4, .int (nI (zcm wv wc cn p))), (5, .int (zb (rowB sm (zcm wv wc cn p) i = true))), (6, .int (nI i))], [.int 5, .int (nI i)], MH c tr tx ty td dr s im kp at_ so sr va wy)
        refine zq_if .ge 90 (5 ≤ i) (by decide +kernel) (zq_cge (a := i) (b := 5) (by omega) (by omega)) (fun c39 => absurd c39 (by omega)) (fun c39 => ?_)
        show zq_G _ _ _ _ _ 42 ([(0, .ref 41), (1, .int (nI p)), (2, .int wv), (3, .int (nI wc)), (4, .int (nI (zcm wv wc cn p))), (5, .int (zb (rowB sm (zcm wv wc cn p) i = true))), (6, .int (nI i))], [], MH c tr tx ty td dr s im kp at_ so sr va wy)
        refine zq_b [zq_il 5] [zq_ilchk 5] 44 rfl (by decide +kernel) ?_
        show zq_G _ _ _ _ _ 44 ([(0, .ref 41), (1, .int (nI p)), (2, .int wv), (3, .int (nI wc)), (4, .int (nI (zcm wv wc cn p))), (5, .int (zb (rowB sm (zcm wv wc cn p) i = true))), (6, .int (nI i))], [.int (zb (rowB sm (zcm wv wc cn p) i = true))], MH c tr tx ty td dr s im kp at_ so sr va wy)
        refine zq_ifz .eq 90 (¬ (rowB sm (zcm wv wc cn p) i = true)) (by decide +kernel) (zb_eq _) (fun c44 => ?_) (fun c44 => ?_)
        · show zq_G _ _ _ _ _ 90 ([(0, .ref 41), (1, .int (nI p)), (2, .int wv), (3, .int (nI wc)), (4, .int (nI (zcm wv wc cn p))), (5, .int (zb (rowB sm (zcm wv wc cn p) i = true))), (6, .int (nI i))], [], MH c tr tx ty td dr s im kp at_ so sr va wy)
          refine zq_eq (σ2 := ([(0, .ref 41), (1, .int (nI p)), (2, .int wv), (3, .int (nI wc)), (4, .int (nI (zcm wv wc cn p))), (5, .int (zb (rowB sm (zcm wv wc cn p) 5 = true))), (6, .int (nI i))], [], MH c tr tx ty td dr s im kp at_ so sr va wy)) (by rw [zb_0 c44, zb_0 (rowB_mono (by omega) c44)]) ?_
          refine zq_pick [0, 1, 2, 3, 4, 5] rfl ?_
          show zq_G _ _ _ _ _ 90 ([(0, .ref 41), (1, .int (nI p)), (2, .int wv), (3, .int (nI wc)), (4, .int (nI (zcm wv wc cn p))), (5, .int (zb (rowB sm (zcm wv wc cn p) 5 = true)))], [], MH c tr tx ty td dr s im kp at_ so sr va wy)
          rw [← bare_eq]
          exact m_bare2 ht0 hP hce hp hwc (fun q => rowB_25 q)
        · show zq_G _ _ _ _ _ 47 ([(0, .ref 41), (1, .int (nI p)), (2, .int wv), (3, .int (nI wc)), (4, .int (nI (zcm wv wc cn p))), (5, .int (zb (rowB sm (zcm wv wc cn p) i = true))), (6, .int (nI i))], [], MH c tr tx ty td dr s im kp at_ so sr va wy)
          refine zq_b [zq_il 6, zq_il 4, zq_k 5, zq_idiv (nI ((zcm wv wc cn p) / 5))] [zq_ilchk 6, zq_ilchk 4, zq_kchk 5, zq_is .idiv 1] 53 rfl (by decide +kernel) ?_
          refine ⟨(by decide), (zq_div (a := zcm wv wc cn p) (b := 5) (by omega) (by omega) (by omega)), ?_⟩
          show zq_G _ _ _ _ _ 53 ([(0, .ref 41), (1, .int (nI p)), (2, .int wv), (3, .int (nI wc)), (4, .int (nI (zcm wv wc cn p))), (5, .int (zb (rowB sm (zcm wv wc cn p) i = true))), (6, .int (nI i))], [.int (nI ((zcm wv wc cn p) / 5)), .int (nI i)], MH c tr tx ty td dr s im kp at_ so sr va wy)
          refine zq_if .gt 77 (((zcm wv wc cn p) / 5) < i) (by decide +kernel) (zq_cgt (a := i) (b := (zcm wv wc cn p) / 5) (by omega) (by omega)) (fun c53 => ?_) (fun c53 => ?_)
          · show zq_G _ _ _ _ _ 77 ([(0, .ref 41), (1, .int (nI p)), (2, .int wv), (3, .int (nI wc)), (4, .int (nI (zcm wv wc cn p))), (5, .int (zb (rowB sm (zcm wv wc cn p) i = true))), (6, .int (nI i))], [], MH c tr tx ty td dr s im kp at_ so sr va wy)
            refine zq_b [zq_k 1, zq_go, zq_is1 5, zq_inc 6 1 (nI (i + 1)), zq_go] [zq_kchk 1, zq_gochk, zq_is1chk 5, zq_incchk 6 1, zq_gochk] 36 rfl (by decide +kernel) ?_
            refine ⟨nI_add i 1, ?_⟩
            show zq_G _ _ _ _ _ 36 ([(0, .ref 41), (1, .int (nI p)), (2, .int wv), (3, .int (nI wc)), (4, .int (nI (zcm wv wc cn p))), (5, .int 1), (6, .int (nI (i + 1)))], [], MH c tr tx ty td dr s im kp at_ so sr va wy)
            exact zq_eq (by rw [← zb_t (P := rowB sm (zcm wv wc cn p) (i + 1) = true) (rowB_s (Decidable.not_not.mp c44) (by rw [decide_eq_false (by omega), Bool.false_and]))]) (ih36 trivial)
          · show zq_G _ _ _ _ _ 56 ([(0, .ref 41), (1, .int (nI p)), (2, .int wv), (3, .int (nI wc)), (4, .int (nI (zcm wv wc cn p))), (5, .int (zb (rowB sm (zcm wv wc cn p) i = true))), (6, .int (nI i))], [], MH c tr tx ty td dr s im kp at_ so sr va wy)
            refine zq_b [zq_al 0, zq_get 12 5, zq_k 1, zq_iald 1 sm, zq_k 5, zq_il 6, zq_imul (nI (5 * i)), zq_il 4, zq_k 5, zq_irem (nI ((zcm wv wc cn p) % 5)), zq_iadd (nI (5 * i + ((zcm wv wc cn p) % 5))), zq_ishr (sm >>> (nI (5 * i + zcm wv wc cn p % 5) &&& 31)), zq_k 1, zq_iand (zbit sm (nI (5 * i + zcm wv wc cn p % 5)))] [zq_alchk 0, zq_getchk 12 5, zq_kchk 1, zq_is .iaload 1, zq_kchk 5, zq_ilchk 6, zq_is .imul 1, zq_ilchk 4, zq_kchk 5, zq_is .irem 1, zq_is .iadd 1, zq_is .ishr 1, zq_kchk 1, zq_is .iand 1] 74 rfl (by decide +kernel) ?_
            refine ⟨rfl, (by omega), (by omega), hs1, (pk_mul 5 i), (by decide), (zq_rem (a := zcm wv wc cn p) (b := 5) (by omega) (by omega) (by omega)), (nI_add (5 * i) ((zcm wv wc cn p) % 5)), rfl, rfl, ?_⟩
            show zq_G _ _ _ _ _ 74 ([(0, .ref 41), (1, .int (nI p)), (2, .int wv), (3, .int (nI wc)), (4, .int (nI (zcm wv wc cn p))), (5, .int (zb (rowB sm (zcm wv wc cn p) i = true))), (6, .int (nI i))], [.int (zbit sm (nI (5 * i + zcm wv wc cn p % 5)))], MH c tr tx ty td dr s im kp at_ so sr va wy)
            refine zq_ifz .ne 81 (¬ zbit sm (nI (5 * i + zcm wv wc cn p % 5)) = 0) (by decide +kernel) (Iff.rfl) (fun c74 => ?_) (fun c74 => ?_)
            · show zq_G _ _ _ _ _ 81 ([(0, .ref 41), (1, .int (nI p)), (2, .int wv), (3, .int (nI wc)), (4, .int (nI (zcm wv wc cn p))), (5, .int (zb (rowB sm (zcm wv wc cn p) i = true))), (6, .int (nI i))], [], MH c tr tx ty td dr s im kp at_ so sr va wy)
              refine zq_b [zq_k 0, zq_is1 5, zq_inc 6 1 (nI (i + 1)), zq_go] [zq_kchk 0, zq_is1chk 5, zq_incchk 6 1, zq_gochk] 36 rfl (by decide +kernel) ?_
              refine ⟨nI_add i 1, ?_⟩
              show zq_G _ _ _ _ _ 36 ([(0, .ref 41), (1, .int (nI p)), (2, .int wv), (3, .int (nI wc)), (4, .int (nI (zcm wv wc cn p))), (5, .int 0), (6, .int (nI (i + 1)))], [], MH c tr tx ty td dr s im kp at_ so sr va wy)
              exact zq_eq (by rw [← zb_f (P := rowB sm (zcm wv wc cn p) (i + 1) = true) (rowB_n (by omega) c74)]) (ih36 trivial)
            · show zq_G _ _ _ _ _ 77 ([(0, .ref 41), (1, .int (nI p)), (2, .int wv), (3, .int (nI wc)), (4, .int (nI (zcm wv wc cn p))), (5, .int (zb (rowB sm (zcm wv wc cn p) i = true))), (6, .int (nI i))], [], MH c tr tx ty td dr s im kp at_ so sr va wy)
              refine zq_b [zq_k 1, zq_go, zq_is1 5, zq_inc 6 1 (nI (i + 1)), zq_go] [zq_kchk 1, zq_gochk, zq_is1chk 5, zq_incchk 6 1, zq_gochk] 36 rfl (by decide +kernel) ?_
              refine ⟨nI_add i 1, ?_⟩
              show zq_G _ _ _ _ _ 36 ([(0, .ref 41), (1, .int (nI p)), (2, .int wv), (3, .int (nI wc)), (4, .int (nI (zcm wv wc cn p))), (5, .int 1), (6, .int (nI (i + 1)))], [], MH c tr tx ty td dr s im kp at_ so sr va wy)
              exact zq_eq (by rw [← zb_t (P := rowB sm (zcm wv wc cn p) (i + 1) = true) (rowB_s (Decidable.not_not.mp c44) (by rw [decide_eq_false (p := ¬ zbit sm (nI (5 * i + zcm wv wc cn p % 5)) = 0) c74, Bool.and_false]))]) (ih36 trivial)
      · show zq_G _ _ _ _ _ 36 ([(0, .ref 41), (1, .int (nI p)), (2, .int wv), (3, .int (nI wc)), (4, .int (nI (zcm wv wc cn p))), (5, .int (zb (rowB sm (zcm wv wc cn p) 5 = true))), (6, .int 5)], [], MH c tr tx ty td dr s im kp at_ so sr va wy)
        refine zq_b [zq_il 6, zq_k 5] [zq_ilchk 6, zq_kchk 5] 39 rfl (by decide +kernel) ?_
        show zq_G _ _ _ _ _ 39 ([(0, .ref 41), (1, .int (nI p)), (2, .int wv), (3, .int (nI wc)), (4, .int (nI (zcm wv wc cn p))), (5, .int (zb (rowB sm (zcm wv wc cn p) 5 = true))), (6, .int 5)], [.int 5, .int 5], MH c tr tx ty td dr s im kp at_ so sr va wy)
        refine zq_if .ge 90 (5 ≤ 5) (by decide +kernel) (zq_cge (a := 5) (b := 5) (by omega) (by omega)) (fun c39 => ?_) (fun c39 => absurd (by omega) c39)
        show zq_G _ _ _ _ _ 90 ([(0, .ref 41), (1, .int (nI p)), (2, .int wv), (3, .int (nI wc)), (4, .int (nI (zcm wv wc cn p))), (5, .int (zb (rowB sm (zcm wv wc cn p) 5 = true))), (6, .int 5)], [], MH c tr tx ty td dr s im kp at_ so sr va wy)
        refine zq_eq (σ2 := ([(0, .ref 41), (1, .int (nI p)), (2, .int wv), (3, .int (nI wc)), (4, .int (nI (zcm wv wc cn p))), (5, .int (zb (rowB sm (zcm wv wc cn p) 5 = true))), (6, .int 5)], [], MH c tr tx ty td dr s im kp at_ so sr va wy)) (rfl) ?_
        refine zq_pick [0, 1, 2, 3, 4, 5] rfl ?_
        show zq_G _ _ _ _ _ 90 ([(0, .ref 41), (1, .int (nI p)), (2, .int wv), (3, .int (nI wc)), (4, .int (nI (zcm wv wc cn p))), (5, .int (zb (rowB sm (zcm wv wc cn p) 5 = true)))], [], MH c tr tx ty td dr s im kp at_ so sr va wy)
        rw [← bare_eq]
        exact m_bare2 ht0 hP hce hp hwc (fun q => rowB_25 q)
    · show zq_G _ _ _ _ _ 26 ([(0, .ref 41), (1, .int (nI p)), (2, .int wv), (3, .int (nI wc)), (4, .int (nI (zcm wv wc cn p)))], [], MH c tr tx ty td dr s im kp at_ so sr va wy)
      refine zq_b [zq_k 1, zq_go, zq_is1 5] [zq_kchk 1, zq_gochk, zq_is1chk 5] 33 rfl (by decide +kernel) ?_
      show zq_G _ _ _ _ _ 33 ([(0, .ref 41), (1, .int (nI p)), (2, .int wv), (3, .int (nI wc)), (4, .int (nI (zcm wv wc cn p))), (5, .int 1)], [], MH c tr tx ty td dr s im kp at_ so sr va wy)
      refine zq_eq (σ2 := ([(0, .ref 41), (1, .int (nI p)), (2, .int wv), (3, .int (nI wc)), (4, .int (nI (zcm wv wc cn p))), (5, .int (zb (rowB sm (zcm wv wc cn p) 0 = true)))], [], MH c tr tx ty td dr s im kp at_ so sr va wy)) (by rw [← zb_t (P := rowB sm (zcm wv wc cn p) 0 = true) (by unfold rowB smR; simp only [zany, Bool.not_false, Bool.and_true]; exact decide_eq_true (by omega))]) ?_
      refine zq_b [zq_k 0, zq_is1 6] [zq_kchk 0, zq_is1chk 6] 36 rfl (by decide +kernel) ?_
      show zq_G _ _ _ _ _ 36 ([(0, .ref 41), (1, .int (nI p)), (2, .int wv), (3, .int (nI wc)), (4, .int (nI (zcm wv wc cn p))), (5, .int (zb (rowB sm (zcm wv wc cn p) 0 = true))), (6, .int 0)], [], MH c tr tx ty td dr s im kp at_ so sr va wy)
      refine zq_eq (σ2 := ([(0, .ref 41), (1, .int (nI p)), (2, .int wv), (3, .int (nI wc)), (4, .int (nI (zcm wv wc cn p))), (5, .int (zb (rowB sm (zcm wv wc cn p) (0 : Nat) = true))), (6, .int (nI (0 : Nat)))], [], MH c tr tx ty td dr s im kp at_ so sr va wy)) (rfl) ?_
      refine zq_loop (fun i => ([(0, .ref 41), (1, .int (nI p)), (2, .int wv), (3, .int (nI wc)), (4, .int (nI (zcm wv wc cn p))), (5, .int (zb (rowB sm (zcm wv wc cn p) i = true))), (6, .int (nI i))], [], MH c tr tx ty td dr s im kp at_ so sr va wy)) (fun i => True) (5) (0) (by omega) (trivial) (fun i hl36 hi36 hI36 ih36 => ?_) (fun hI36 => ?_)
      · show zq_G _ _ _ _ _ 36 ([(0, .ref 41), (1, .int (nI p)), (2, .int wv), (3, .int (nI wc)), (4, .int (nI (zcm wv wc cn p))), (5, .int (zb (rowB sm (zcm wv wc cn p) i = true))), (6, .int (nI i))], [], MH c tr tx ty td dr s im kp at_ so sr va wy)
        refine zq_b [zq_il 6, zq_k 5] [zq_ilchk 6, zq_kchk 5] 39 rfl (by decide +kernel) ?_
        show zq_G _ _ _ _ _ 39 ([(0, .ref 41), (1, .int (nI p)), (2, .int wv), (3, .int (nI wc)), (4, .int (nI (zcm wv wc cn p))), (5, .int (zb (rowB sm (zcm wv wc cn p) i = true))), (6, .int (nI i))], [.int 5, .int (nI i)], MH c tr tx ty td dr s im kp at_ so sr va wy)
        refine zq_if .ge 90 (5 ≤ i) (by decide +kernel) (zq_cge (a := i) (b := 5) (by omega) (by omega)) (fun c39 => absurd c39 (by omega)) (fun c39 => ?_)
        show zq_G _ _ _ _ _ 42 ([(0, .ref 41), (1, .int (nI p)), (2, .int wv), (3, .int (nI wc)), (4, .int (nI (zcm wv wc cn p))), (5, .int (zb (rowB sm (zcm wv wc cn p) i = true))), (6, .int (nI i))], [], MH c tr tx ty td dr s im kp at_ so sr va wy)
        refine zq_b [zq_il 5] [zq_ilchk 5] 44 rfl (by decide +kernel) ?_
        show zq_G _ _ _ _ _ 44 ([(0, .ref 41), (1, .int (nI p)), (2, .int wv), (3, .int (nI wc)), (4, .int (nI (zcm wv wc cn p))), (5, .int (zb (rowB sm (zcm wv wc cn p) i = true))), (6, .int (nI i))], [.int (zb (rowB sm (zcm wv wc cn p) i = true))], MH c tr tx ty td dr s im kp at_ so sr va wy)
        refine zq_ifz .eq 90 (¬ (rowB sm (zcm wv wc cn p) i = true)) (by decide +kernel) (zb_eq _) (fun c44 => ?_) (fun c44 => ?_)
        · show zq_G _ _ _ _ _ 90 ([(0, .ref 41), (1, .int (nI p)), (2, .int wv), (3, .int (nI wc)), (4, .int (nI (zcm wv wc cn p))), (5, .int (zb (rowB sm (zcm wv wc cn p) i = true))), (6, .int (nI i))], [], MH c tr tx ty td dr s im kp at_ so sr va wy)
          refine zq_eq (σ2 := ([(0, .ref 41), (1, .int (nI p)), (2, .int wv), (3, .int (nI wc)), (4, .int (nI (zcm wv wc cn p))), (5, .int (zb (rowB sm (zcm wv wc cn p) 5 = true))), (6, .int (nI i))], [], MH c tr tx ty td dr s im kp at_ so sr va wy)) (by rw [zb_0 c44, zb_0 (rowB_mono (by omega) c44)]) ?_
          refine zq_pick [0, 1, 2, 3, 4, 5] rfl ?_
          show zq_G _ _ _ _ _ 90 ([(0, .ref 41), (1, .int (nI p)), (2, .int wv), (3, .int (nI wc)), (4, .int (nI (zcm wv wc cn p))), (5, .int (zb (rowB sm (zcm wv wc cn p) 5 = true)))], [], MH c tr tx ty td dr s im kp at_ so sr va wy)
          rw [← bare_eq]
          exact m_bare2 ht0 hP hce hp hwc (fun q => rowB_25 q)
        · show zq_G _ _ _ _ _ 47 ([(0, .ref 41), (1, .int (nI p)), (2, .int wv), (3, .int (nI wc)), (4, .int (nI (zcm wv wc cn p))), (5, .int (zb (rowB sm (zcm wv wc cn p) i = true))), (6, .int (nI i))], [], MH c tr tx ty td dr s im kp at_ so sr va wy)
          refine zq_b [zq_il 6, zq_il 4, zq_k 5, zq_idiv (nI ((zcm wv wc cn p) / 5))] [zq_ilchk 6, zq_ilchk 4, zq_kchk 5, zq_is .idiv 1] 53 rfl (by decide +kernel) ?_
          refine ⟨(by decide), (zq_div (a := zcm wv wc cn p) (b := 5) (by omega) (by omega) (by omega)), ?_⟩
          show zq_G _ _ _ _ _ 53 ([(0, .ref 41), (1, .int (nI p)), (2, .int wv), (3, .int (nI wc)), (4, .int (nI (zcm wv wc cn p))), (5, .int (zb (rowB sm (zcm wv wc cn p) i = true))), (6, .int (nI i))], [.int (nI ((zcm wv wc cn p) / 5)), .int (nI i)], MH c tr tx ty td dr s im kp at_ so sr va wy)
          refine zq_if .gt 77 (((zcm wv wc cn p) / 5) < i) (by decide +kernel) (zq_cgt (a := i) (b := (zcm wv wc cn p) / 5) (by omega) (by omega)) (fun c53 => ?_) (fun c53 => ?_)
          · show zq_G _ _ _ _ _ 77 ([(0, .ref 41), (1, .int (nI p)), (2, .int wv), (3, .int (nI wc)), (4, .int (nI (zcm wv wc cn p))), (5, .int (zb (rowB sm (zcm wv wc cn p) i = true))), (6, .int (nI i))], [], MH c tr tx ty td dr s im kp at_ so sr va wy)
            refine zq_b [zq_k 1, zq_go, zq_is1 5, zq_inc 6 1 (nI (i + 1)), zq_go] [zq_kchk 1, zq_gochk, zq_is1chk 5, zq_incchk 6 1, zq_gochk] 36 rfl (by decide +kernel) ?_
            refine ⟨nI_add i 1, ?_⟩
            show zq_G _ _ _ _ _ 36 ([(0, .ref 41), (1, .int (nI p)), (2, .int wv), (3, .int (nI wc)), (4, .int (nI (zcm wv wc cn p))), (5, .int 1), (6, .int (nI (i + 1)))], [], MH c tr tx ty td dr s im kp at_ so sr va wy)
            exact zq_eq (by rw [← zb_t (P := rowB sm (zcm wv wc cn p) (i + 1) = true) (rowB_s (Decidable.not_not.mp c44) (by rw [decide_eq_false (by omega), Bool.false_and]))]) (ih36 trivial)
          · show zq_G _ _ _ _ _ 56 ([(0, .ref 41), (1, .int (nI p)), (2, .int wv), (3, .int (nI wc)), (4, .int (nI (zcm wv wc cn p))), (5, .int (zb (rowB sm (zcm wv wc cn p) i = true))), (6, .int (nI i))], [], MH c tr tx ty td dr s im kp at_ so sr va wy)
            refine zq_b [zq_al 0, zq_get 12 5, zq_k 1, zq_iald 1 sm, zq_k 5, zq_il 6, zq_imul (nI (5 * i)), zq_il 4, zq_k 5, zq_irem (nI ((zcm wv wc cn p) % 5)), zq_iadd (nI (5 * i + ((zcm wv wc cn p) % 5))), zq_ishr (sm >>> (nI (5 * i + zcm wv wc cn p % 5) &&& 31)), zq_k 1, zq_iand (zbit sm (nI (5 * i + zcm wv wc cn p % 5)))] [zq_alchk 0, zq_getchk 12 5, zq_kchk 1, zq_is .iaload 1, zq_kchk 5, zq_ilchk 6, zq_is .imul 1, zq_ilchk 4, zq_kchk 5, zq_is .irem 1, zq_is .iadd 1, zq_is .ishr 1, zq_kchk 1, zq_is .iand 1] 74 rfl (by decide +kernel) ?_
            refine ⟨rfl, (by omega), (by omega), hs1, (pk_mul 5 i), (by decide), (zq_rem (a := zcm wv wc cn p) (b := 5) (by omega) (by omega) (by omega)), (nI_add (5 * i) ((zcm wv wc cn p) % 5)), rfl, rfl, ?_⟩
            show zq_G _ _ _ _ _ 74 ([(0, .ref 41), (1, .int (nI p)), (2, .int wv), (3, .int (nI wc)), (4, .int (nI (zcm wv wc cn p))), (5, .int (zb (rowB sm (zcm wv wc cn p) i = true))), (6, .int (nI i))], [.int (zbit sm (nI (5 * i + zcm wv wc cn p % 5)))], MH c tr tx ty td dr s im kp at_ so sr va wy)
            refine zq_ifz .ne 81 (¬ zbit sm (nI (5 * i + zcm wv wc cn p % 5)) = 0) (by decide +kernel) (Iff.rfl) (fun c74 => ?_) (fun c74 => ?_)
            · show zq_G _ _ _ _ _ 81 ([(0, .ref 41), (1, .int (nI p)), (2, .int wv), (3, .int (nI wc)), (4, .int (nI (zcm wv wc cn p))), (5, .int (zb (rowB sm (zcm wv wc cn p) i = true))), (6, .int (nI i))], [], MH c tr tx ty td dr s im kp at_ so sr va wy)
              refine zq_b [zq_k 0, zq_is1 5, zq_inc 6 1 (nI (i + 1)), zq_go] [zq_kchk 0, zq_is1chk 5, zq_incchk 6 1, zq_gochk] 36 rfl (by decide +kernel) ?_
              refine ⟨nI_add i 1, ?_⟩
              show zq_G _ _ _ _ _ 36 ([(0, .ref 41), (1, .int (nI p)), (2, .int wv), (3, .int (nI wc)), (4, .int (nI (zcm wv wc cn p))), (5, .int 0), (6, .int (nI (i + 1)))], [], MH c tr tx ty td dr s im kp at_ so sr va wy)
              exact zq_eq (by rw [← zb_f (P := rowB sm (zcm wv wc cn p) (i + 1) = true) (rowB_n (by omega) c74)]) (ih36 trivial)
            · show zq_G _ _ _ _ _ 77 ([(0, .ref 41), (1, .int (nI p)), (2, .int wv), (3, .int (nI wc)), (4, .int (nI (zcm wv wc cn p))), (5, .int (zb (rowB sm (zcm wv wc cn p) i = true))), (6, .int (nI i))], [], MH c tr tx ty td dr s im kp at_ so sr va wy)
              refine zq_b [zq_k 1, zq_go, zq_is1 5, zq_inc 6 1 (nI (i + 1)), zq_go] [zq_kchk 1, zq_gochk, zq_is1chk 5, zq_incchk 6 1, zq_gochk] 36 rfl (by decide +kernel) ?_
              refine ⟨nI_add i 1, ?_⟩
              show zq_G _ _ _ _ _ 36 ([(0, .ref 41), (1, .int (nI p)), (2, .int wv), (3, .int (nI wc)), (4, .int (nI (zcm wv wc cn p))), (5, .int 1), (6, .int (nI (i + 1)))], [], MH c tr tx ty td dr s im kp at_ so sr va wy)
              exact zq_eq (by rw [← zb_t (P := rowB sm (zcm wv wc cn p) (i + 1) = true) (rowB_s (Decidable.not_not.mp c44) (by rw [decide_eq_false (p := ¬ zbit sm (nI (5 * i + zcm wv wc cn p % 5)) = 0) c74, Bool.and_false]))]) (ih36 trivial)
      · show zq_G _ _ _ _ _ 36 ([(0, .ref 41), (1, .int (nI p)), (2, .int wv), (3, .int (nI wc)), (4, .int (nI (zcm wv wc cn p))), (5, .int (zb (rowB sm (zcm wv wc cn p) 5 = true))), (6, .int 5)], [], MH c tr tx ty td dr s im kp at_ so sr va wy)
        refine zq_b [zq_il 6, zq_k 5] [zq_ilchk 6, zq_kchk 5] 39 rfl (by decide +kernel) ?_
        show zq_G _ _ _ _ _ 39 ([(0, .ref 41), (1, .int (nI p)), (2, .int wv), (3, .int (nI wc)), (4, .int (nI (zcm wv wc cn p))), (5, .int (zb (rowB sm (zcm wv wc cn p) 5 = true))), (6, .int 5)], [.int 5, .int 5], MH c tr tx ty td dr s im kp at_ so sr va wy)
        refine zq_if .ge 90 (5 ≤ 5) (by decide +kernel) (zq_cge (a := 5) (b := 5) (by omega) (by omega)) (fun c39 => ?_) (fun c39 => absurd (by omega) c39)
        show zq_G _ _ _ _ _ 90 ([(0, .ref 41), (1, .int (nI p)), (2, .int wv), (3, .int (nI wc)), (4, .int (nI (zcm wv wc cn p))), (5, .int (zb (rowB sm (zcm wv wc cn p) 5 = true))), (6, .int 5)], [], MH c tr tx ty td dr s im kp at_ so sr va wy)
        refine zq_eq (σ2 := ([(0, .ref 41), (1, .int (nI p)), (2, .int wv), (3, .int (nI wc)), (4, .int (nI (zcm wv wc cn p))), (5, .int (zb (rowB sm (zcm wv wc cn p) 5 = true))), (6, .int 5)], [], MH c tr tx ty td dr s im kp at_ so sr va wy)) (rfl) ?_
        refine zq_pick [0, 1, 2, 3, 4, 5] rfl ?_
        show zq_G _ _ _ _ _ 90 ([(0, .ref 41), (1, .int (nI p)), (2, .int wv), (3, .int (nI wc)), (4, .int (nI (zcm wv wc cn p))), (5, .int (zb (rowB sm (zcm wv wc cn p) 5 = true)))], [], MH c tr tx ty td dr s im kp at_ so sr va wy)
        rw [← bare_eq]
        exact m_bare2 ht0 hP hce hp hwc (fun q => rowB_25 q)
end MV1
