/-! tokens of a text of Z bytes bt, from a place a on -/
def zrun (p : Nat → Bool) (Z : Nat) : Nat → Nat → Nat
  | 0, a => a
  | n + 1, a => if a < Z ∧ p a = true then zrun p Z n (a + 1) else a
theorem zrun_le (p : Nat → Bool) (Z n a : Nat) : a ≤ zrun p Z n a := by
  induction n generalizing a with
  | zero => exact Nat.le_refl _
  | succ n ih =>
    rw [zrun]; split
    · have := ih (a + 1); omega
    · exact Nat.le_refl _
theorem zrun_in (p : Nat → Bool) (Z n a : Nat) : ∀ j, a ≤ j → j < zrun p Z n a → j < Z ∧ p j = true := by
  induction n generalizing a with
  | zero => intro j h1 h2; rw [zrun] at h2; omega
  | succ n ih =>
    intro j h1 h2
    rw [zrun] at h2
    split at h2
    · rename_i hq
      by_cases e : j = a
      · subst e; exact hq
      · exact ih (a + 1) j (by omega) h2
    · omega
theorem zrun_end (p : Nat → Bool) (Z n a : Nat) (h : Z ≤ a + n) : ¬ (zrun p Z n a < Z ∧ p (zrun p Z n a) = true) := by
  induction n generalizing a with
  | zero => rw [zrun]; omega
  | succ n ih =>
    rw [zrun]; split
    · exact ih (a + 1) (by omega)
    · rename_i hq; exact hq
theorem zrun_max (p : Nat → Bool) (Z n a : Nat) (h : a ≤ Z) : zrun p Z n a ≤ Z := by
  induction n generalizing a with
  | zero => rw [zrun]; exact h
  | succ n ih =>
    rw [zrun]; split
    · rename_i hq; exact ih (a + 1) (by omega)
    · exact h
theorem zrun_one {p : Nat → Bool} {Z e a : Nat} (n : Nat) (hn : Z ≤ a + n) (h1 : a ≤ e) (h2 : ∀ j, a ≤ j → j < e → j < Z ∧ p j = true) (h3 : ¬ (e < Z ∧ p e = true)) : zrun p Z n a = e := by
  have g1 := zrun_le p Z n a
  have g2 := zrun_in p Z n a
  have g3 := zrun_end p Z n a hn
  rcases Nat.lt_trichotomy (zrun p Z n a) e with h | h | h
  · exact absurd (h2 _ g1 h) g3
  · exact h
  · exact absurd (g2 _ h1 h) h3
def blkB (bt : Nat → Nat) : Nat → Bool := fun j => decide (bt j = 32)
def letB (bt : Nat → Nat) : Nat → Bool := fun j => decide (97 ≤ bt j ∧ bt j ≤ 122)
def digB (bt : Nat → Nat) : Nat → Bool := fun j => decide (48 ≤ bt j ∧ bt j ≤ 57)
def tkS (bt : Nat → Nat) (Z a : Nat) : Nat := zrun (blkB bt) Z Z a
def dvN (bt : Nat → Nat) (s : Nat) : Nat → Nat
  | 0 => 0
  | i + 1 => min (dvN bt s i * 10 + bt (s + i) - 48) 100
def tkE (bt : Nat → Nat) (Z a : Nat) : Nat := if Z ≤ tkS bt Z a then tkS bt Z a else if letB bt (tkS bt Z a) = true then zrun (letB bt) Z Z (tkS bt Z a + 1) else if digB bt (tkS bt Z a) = true then zrun (digB bt) Z Z (tkS bt Z a) else tkS bt Z a + 1
def tkK (bt : Nat → Nat) (Z a : Nat) : Nat := if Z ≤ tkS bt Z a then 0 else if letB bt (tkS bt Z a) = true then 1 else if digB bt (tkS bt Z a) = true then (if 99 < dvN bt (tkS bt Z a) (tkE bt Z a - tkS bt Z a) ∨ (bt (tkS bt Z a) = 48 ∧ 1 < tkE bt Z a - tkS bt Z a) then 4 else 2) else if bt (tkS bt Z a) = 59 then 3 else 4
def tkV (bt : Nat → Nat) (Z a : Nat) : Nat := if letB bt (tkS bt Z a) = true then (if tkE bt Z a = tkS bt Z a + 1 then bt (tkS bt Z a) else 0) else dvN bt (tkS bt Z a) (tkE bt Z a - tkS bt Z a)
def nxV (bt : Nat → Nat) (Z : Nat) (old : Int32) (a : Nat) : Int32 := if Z ≤ tkS bt Z a then old else if letB bt (tkS bt Z a) = true ∨ digB bt (tkS bt Z a) = true then nI (tkV bt Z a) else old
theorem dvN_le (bt : Nat → Nat) (s i : Nat) : dvN bt s i ≤ 100 := by
  cases i with
  | zero => exact Nat.zero_le _
  | succ i => rw [dvN]; omega
theorem digB_let {bt : Nat → Nat} {s : Nat} (h : digB bt s = true) : letB bt s = false := by
  unfold digB at h; unfold letB
  have := of_decide_eq_true h
  exact decide_eq_false (by omega)
theorem nxV_2 {bt : Nat → Nat} {Z a : Nat} (old : Int32) (h : tkK bt Z a = 2) : nxV bt Z old a = nI (tkV bt Z a) := by
  unfold tkK at h; unfold nxV
  split at h
  · cases h
  · rename_i h1
    rw [if_neg h1]
    split at h
    · cases h
    · split at h
      · rename_i h3; rw [if_pos (Or.inr h3)]
      · split at h <;> cases h
theorem nxV_1 {bt : Nat → Nat} {Z a : Nat} (old : Int32) (h : tkK bt Z a = 1) : nxV bt Z old a = nI (tkV bt Z a) := by
  unfold tkK at h; unfold nxV
  split at h
  · cases h
  · rename_i h1
    rw [if_neg h1]
    split at h
    · rename_i h2; rw [if_pos (Or.inl h2)]
    · split at h
      · split at h <;> cases h
      · split at h <;> cases h
theorem tkK_le (bt : Nat → Nat) (Z a : Nat) : tkK bt Z a ≤ 4 := by
  unfold tkK
  repeat' split
  all_goals omega
theorem tkS_le (bt : Nat → Nat) (Z a : Nat) : a ≤ tkS bt Z a := zrun_le _ _ _ _
theorem tkS_max {bt : Nat → Nat} {Z a : Nat} (h : a ≤ Z) : tkS bt Z a ≤ Z := zrun_max _ _ _ _ h
theorem tkE_max {bt : Nat → Nat} {Z a : Nat} (h : a ≤ Z) : tkE bt Z a ≤ Z := by
  have h1 := tkS_max (bt := bt) h
  unfold tkE
  split
  · exact h1
  · split
    · exact zrun_max _ _ _ _ (by omega)
    · split
      · exact zrun_max _ _ _ _ (by omega)
      · omega
theorem tkE_lt {bt : Nat → Nat} {Z a : Nat} (h : ¬ tkK bt Z a = 0) : tkS bt Z a < tkE bt Z a := by
  unfold tkK at h; unfold tkE
  split at h
  · exact absurd rfl h
  · rename_i h1
    rw [if_neg h1]
    split
    · have := zrun_le (letB bt) Z Z (tkS bt Z a + 1); omega
    · split
      · rename_i h2 h3
        have hz : ∀ n, 0 < n → tkS bt Z a < zrun (digB bt) Z n (tkS bt Z a) := by
          intro n hn
          cases n with
          | zero => omega
          | succ n =>
            rw [zrun, if_pos ⟨by omega, h3⟩]
            have := zrun_le (digB bt) Z n (tkS bt Z a + 1); omega
        exact hz Z (by omega)
      · omega
theorem tkV_le {bt : Nat → Nat} {Z a : Nat} (h : ∀ j, j < Z → bt j ≤ 255) (hk : ¬ tkK bt Z a = 0) : tkV bt Z a ≤ 255 := by
  have hs : tkS bt Z a < Z := by
    unfold tkK at hk
    split at hk
    · exact absurd rfl hk
    · omega
  unfold tkV
  split
  · split
    · exact h _ hs
    · omega
  · have := dvN_le bt (tkS bt Z a) (tkE bt Z a - tkS bt Z a); omega
