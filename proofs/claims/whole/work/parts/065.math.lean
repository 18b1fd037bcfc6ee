/-! plain functions that both sides are tied to -/
def zany (f : Nat → Bool) : Nat → Bool
  | 0 => false
  | n + 1 => zany f n || f n
theorem zany_t {f : Nat → Bool} {n : Nat} : zany f n = true ↔ ∃ i, i < n ∧ f i = true := by
  induction n with
  | zero => simp [zany]
  | succ n ih =>
    rw [zany, Bool.or_eq_true, ih]
    constructor
    · rintro (⟨i, h1, h2⟩ | h)
      · exact ⟨i, by omega, h2⟩
      · exact ⟨n, by omega, h⟩
    · rintro ⟨i, h1, h2⟩
      by_cases e : i = n
      · subst e; exact Or.inr h2
      · exact Or.inl ⟨i, by omega, h2⟩
theorem zany_i {f : Nat → Bool} {n i : Nat} (h : i < n) (hf : f i = true) : zany f n = true := zany_t.mpr ⟨i, h, hf⟩
theorem zany_f {f : Nat → Bool} {n : Nat} (h : ∀ i, i < n → f i = false) : zany f n = false := by
  cases hz : zany f n with
  | false => rfl
  | true =>
    obtain ⟨i, h1, h2⟩ := zany_t.mp hz
    rw [h i h1] at h2; cases h2
theorem zany_n {f : Nat → Bool} {n : Nat} (h : zany f n = false) {i : Nat} (hi : i < n) : f i = false := by
  cases hz : f i with
  | false => rfl
  | true => rw [zany_i hi hz] at h; cases h
theorem zany_c {f g : Nat → Bool} {n : Nat} (h : ∀ i, i < n → f i = g i) : zany f n = zany g n := by
  induction n with
  | zero => rfl
  | succ n ih => rw [zany, zany, ih (fun i hi => h i (by omega)), h n (by omega)]
def orB (f : Nat → Bool) : Nat → Int32
  | 0 => 0
  | n + 1 => if f n = true then orB f n ||| ((1 : Int32) <<< (nI n &&& 31)) else orB f n
theorem orB_t {f : Nat → Bool} {n : Nat} (h : f n = true) : orB f (n + 1) = orB f n ||| ((1 : Int32) <<< (nI n &&& 31)) := by rw [orB, if_pos h]
theorem orB_f {f : Nat → Bool} {n : Nat} (h : f n = false) : orB f (n + 1) = orB f n := by rw [orB, if_neg (by rw [h]; exact Bool.false_ne_true)]
theorem orB_c {f g : Nat → Bool} {n : Nat} (h : ∀ i, i < n → f i = g i) : orB f n = orB g n := by
  induction n with
  | zero => rfl
  | succ n ih => rw [orB, orB, ih (fun i hi => h i (by omega)), h n (by omega)]
def zct (f : Nat → Bool) : Nat → Nat
  | 0 => 0
  | n + 1 => if f n = true then zct f n + 1 else zct f n
theorem zct_t {f : Nat → Bool} {n : Nat} (h : f n = true) : zct f (n + 1) = zct f n + 1 := by rw [zct, if_pos h]
theorem zct_f {f : Nat → Bool} {n : Nat} (h : f n = false) : zct f (n + 1) = zct f n := by rw [zct, if_neg (by rw [h]; exact Bool.false_ne_true)]
theorem zct_le (f : Nat → Bool) (n : Nat) : zct f n ≤ n := by
  induction n with
  | zero => exact Nat.le_refl 0
  | succ n ih => rw [zct]; split <;> omega
theorem zct_c {f g : Nat → Bool} {n : Nat} (h : ∀ i, i < n → f i = g i) : zct f n = zct g n := by
  induction n with
  | zero => rfl
  | succ n ih => rw [zct, zct, ih (fun i hi => h i (by omega)), h n (by omega)]
/-- the last one of which f holds: its v, or -9 -/
def zls (f : Nat → Bool) (v : Nat → Int32) : Nat → Int32
  | 0 => -9
  | n + 1 => if f n = true then v n else zls f v n
theorem zls_t {f : Nat → Bool} {v : Nat → Int32} {n : Nat} (h : f n = true) : zls f v (n + 1) = v n := by rw [zls, if_pos h]
theorem zls_f {f : Nat → Bool} {v : Nat → Int32} {n : Nat} (h : f n = false) : zls f v (n + 1) = zls f v n := by rw [zls, if_neg (by rw [h]; exact Bool.false_ne_true)]
theorem zls_at {f : Nat → Bool} {v : Nat → Int32} {n i : Nat} (hi : i < n) (h : f i = true) (hn : ∀ j, i < j → j < n → f j = false) : zls f v n = v i := by
  induction n with
  | zero => omega
  | succ n ih =>
    by_cases e : i = n
    · subst e; exact zls_t h
    · rw [zls_f (hn n (by omega) (by omega))]
      exact ih (by omega) (fun j h1 h2 => hn j h1 (by omega))
theorem zls_no {f : Nat → Bool} {v : Nat → Int32} {n : Nat} (h : ∀ j, j < n → f j = false) : zls f v n = -9 := by
  induction n with
  | zero => rfl
  | succ n ih => rw [zls_f (h n (by omega))]; exact ih (fun j hj => h j (by omega))
theorem zls_c {f g : Nat → Bool} {u v : Nat → Int32} {n : Nat} (h : ∀ i, i < n → f i = g i ∧ u i = v i) : zls f u n = zls g v n := by
  induction n with
  | zero => rfl
  | succ n ih => rw [zls, zls, ih (fun i hi => h i (by omega)), (h n (by omega)).1, (h n (by omega)).2]
/-- the first one of which f holds: its v, or -9 -/
def zfs (f : Nat → Bool) (v : Nat → Int32) : Nat → Int32
  | 0 => -9
  | n + 1 => if zany f n = true then zfs f v n else if f n = true then v n else -9
theorem zfs_at {f : Nat → Bool} {v : Nat → Int32} {n i : Nat} (hi : i < n) (h : f i = true) (hn : ∀ j, j < i → f j = false) : zfs f v n = v i := by
  induction n with
  | zero => omega
  | succ n ih =>
    by_cases e : i = n
    · subst e
      rw [zfs, zany_f hn, if_neg Bool.false_ne_true, if_pos h]
    · rw [zfs, zany_i (show i < n by omega) h, if_pos rfl]
      exact ih (by omega)
theorem zfs_no {f : Nat → Bool} {v : Nat → Int32} {n : Nat} (h : ∀ j, j < n → f j = false) : zfs f v n = -9 := by
  cases n with
  | zero => rfl
  | succ n => rw [zfs, zany_f (fun j hj => h j (by omega)), if_neg Bool.false_ne_true, h n (by omega), if_neg Bool.false_ne_true]
theorem zfs_c {f g : Nat → Bool} {u v : Nat → Int32} {n : Nat} (h : ∀ i, i < n → f i = g i ∧ u i = v i) : zfs f u n = zfs g v n := by
  induction n with
  | zero => rfl
  | succ n ih => rw [zfs, zfs, ih (fun i hi => h i (by omega)), zany_c (fun i hi => (h i (by omega)).1), (h n (by omega)).1, (h n (by omega)).2]
theorem lt_ext {p : Nat → Prop} {i : Nat} (h : ∀ j, j < i → p j) (hi : p i) : ∀ j, j < i + 1 → p j := fun j hj => by
  by_cases e : j = i
  · subst e; exact hi
  · exact h j (by omega)
def zi (z : Int) : Int32 := Int32.ofInt z
theorem zi_toInt {z : Int} (h1 : -2147483648 ≤ z) (h2 : z < 2147483648) : (zi z).toInt = z := by
  unfold zi
  rw [Int32.toInt_ofInt]
  have e : (Int32.size : Int) = 4294967296 := rfl
  exact Int.bmod_eq_of_le (by omega) (by omega)
theorem zi_nat {z : Int} {n : Nat} (h : z = n) : zi z = nI n := by
  subst h
  unfold zi nI
  exact Int32.ofInt_eq_ofNat
theorem zi_add (a b : Int) : zi a + Int32.ofInt b = zi (a + b) := by
  unfold zi
  exact (Int32.ofInt_add a b).symm
theorem zi_sub (a b : Nat) : nI a - nI b = zi ((a : Int) - b) := by
  rw [← zi_nat (z := (a : Int)) rfl, ← zi_nat (z := (b : Int)) rfl]
  unfold zi
  exact (Int32.ofInt_sub a b).symm
theorem zi_lt0 {z : Int} (h1 : -2147483648 ≤ z) (h2 : z < 2147483648) : zq_cc .lt (zi z) 0 ↔ z < 0 := by
  show zi z < 0 ↔ _
  rw [Int32.lt_iff_toInt_lt, zi_toInt h1 h2]; exact Iff.rfl
theorem zi_ge {z : Int} {n : Nat} (h1 : -2147483648 ≤ z) (h2 : z < 2147483648) (hn : n < 2147483648) : zq_cc .ge (zi z) (nI n) ↔ (n : Int) ≤ z := by
  show nI n ≤ zi z ↔ _
  rw [Int32.le_iff_toInt_le, zi_toInt h1 h2, nI_toInt hn]
theorem zi_self (x : Int32) : zi x.toInt = x := Int32.ofInt_toInt x
theorem zi_in (x : Int32) : -2147483648 ≤ x.toInt ∧ x.toInt < 2147483648 := ⟨Int32.le_toInt x, Int32.toInt_lt x⟩
def zbit (x p : Int32) : Int32 := x >>> (p &&& 31) &&& 1
def zcm (mv : Int32) (wc : Nat) (cn : Nat → Nat) (q : Nat) : Nat := if nI q = mv then wc else cn q
def smk (sm : Int32) (k : Nat) : Bool := zany (fun i => decide (zbit sm (zi ((k : Int) - 5 * (i : Int))) = 1)) (k / 5 + 1)
def aheadB (a b : Nat) : Bool := decide (a < b) && decide (a % 5 = b % 5)
def bareB (P : Nat) (hs : Nat → Int32) (sm : Int32) (cc : Nat → Nat) (p : Nat) : Bool := decide (cc p < 25) && !smk sm (cc p) && !zany (fun q => decide (hs p ≤ hs q) && aheadB (cc q) (cc p)) P
def zkept (ke : Nat → Int32) (D : Nat) (z : Int) : Int32 := if 0 ≤ z ∧ z < D then ke z.toNat else 0
theorem zq_tz (cc : ClassFile.Cond) (x : Int32) {z : Int} (h1 : -2147483648 ≤ z) (h2 : z < 2147483648) : zq_cc cc x (zi z) ↔ zq_ci cc x.toInt z := by
  rw [zq_tt, zi_toInt h1 h2]
theorem zq_zz (cc : ClassFile.Cond) {y z : Int} (h1 : -2147483648 ≤ y) (h2 : y < 2147483648) (h3 : -2147483648 ≤ z) (h4 : z < 2147483648) : zq_cc cc (zi y) (zi z) ↔ zq_ci cc y z := by
  rw [zq_tt, zi_toInt h1 h2, zi_toInt h3 h4]
theorem zq_nzi (cc : ClassFile.Cond) {n : Nat} {z : Int} (hn : n < 2147483648) (h1 : -2147483648 ≤ z) (h2 : z < 2147483648) : zq_cc cc (nI n) (zi z) ↔ zq_ci cc n z := by
  rw [zq_tt, zi_toInt h1 h2, nI_toInt hn]
theorem zq_zni (cc : ClassFile.Cond) {n : Nat} {z : Int} (h1 : -2147483648 ≤ z) (h2 : z < 2147483648) (hn : n < 2147483648) : zq_cc cc (zi z) (nI n) ↔ zq_ci cc z n := by
  rw [zq_tt, zi_toInt h1 h2, nI_toInt hn]
