/-! what a text tells, as a plain function: either the place of its first fault, or how many items and what they tell -/
abbrev zD : Type := Nat × Nat × Nat × Nat × Bool × (Nat → Nat) × (Nat → Nat) × (Nat → Nat) × (Nat → Nat) × (Nat → Nat)
def updN (f : Nat → Nat) (k x : Nat) : Nat → Nat := fun j => if j = k then x else f j
def numP (bt : Nat → Nat) (Z a lo hi : Nat) : Prop := tkK bt Z a = 2 ∧ lo ≤ tkV bt Z a ∧ tkV bt Z a ≤ hi
def pPerson (bt : Nat → Nat) (Z s0 a : Nat) : zD → Nat ⊕ (Nat × zD)
  | (P, C, R, L, lt, hs, ss, cs, ga, va) =>
    if P = 6 then .inl s0 else
    if ¬ (tkK bt Z a = 2 ∧ 1 ≤ tkV bt Z a ∧ tkV bt Z a ≤ 9) then .inl (tkS bt Z a) else
    if ¬ (tkK bt Z (tkE bt Z a) = 2 ∧ 0 ≤ tkV bt Z (tkE bt Z a) ∧ tkV bt Z (tkE bt Z a) ≤ 25) then .inl (tkS bt Z (tkE bt Z a)) else
    if tkK bt Z (tkE bt Z (tkE bt Z a)) = 3 then .inr (tkE bt Z (tkE bt Z (tkE bt Z a)), (P + 1, C, R, L, lt, updN hs P (tkV bt Z a), updN ss P (tkV bt Z (tkE bt Z a)), cs, ga, va)) else .inl (tkS bt Z (tkE bt Z (tkE bt Z a)))
def pLate (bt : Nat → Nat) (Z s0 a : Nat) : zD → Nat ⊕ (Nat × zD)
  | (P, C, R, L, lt, hs, ss, cs, ga, va) =>
    if lt = true then .inl s0 else
    if ¬ (tkK bt Z a = 2 ∧ 1 ≤ tkV bt Z a ∧ tkV bt Z a ≤ 30) then .inl (tkS bt Z a) else
    if tkK bt Z (tkE bt Z a) = 3 then .inr (tkE bt Z (tkE bt Z a), (P, C, R, tkV bt Z a, true, hs, ss, cs, ga, va)) else .inl (tkS bt Z (tkE bt Z a))
def pCloud (bt : Nat → Nat) (Z s0 a : Nat) : zD → Nat ⊕ (Nat × zD)
  | (P, C, R, L, lt, hs, ss, cs, ga, va) =>
    if C = 8 then .inl s0 else
    if ¬ (tkK bt Z a = 2 ∧ 0 ≤ tkV bt Z a ∧ tkV bt Z a ≤ 99) then .inl (tkS bt Z a) else
    if zany (fun i => decide (cs i = tkV bt Z a)) C = true then .inl (tkS bt Z a) else
    if tkK bt Z (tkE bt Z a) = 3 then .inr (tkE bt Z (tkE bt Z a), (P, C + 1, R, L, lt, hs, ss, updN cs C (tkV bt Z a), ga, va)) else .inl (tkS bt Z (tkE bt Z a))
def pRule (bt : Nat → Nat) (Z s0 a : Nat) : zD → Nat ⊕ (Nat × zD)
  | (P, C, R, L, lt, hs, ss, cs, ga, va) =>
    if R = 6 then .inl s0 else
    if ¬ (tkK bt Z a = 2 ∧ 0 ≤ tkV bt Z a ∧ tkV bt Z a ≤ 7) then .inl (tkS bt Z a) else
    if ¬ (tkK bt Z (tkE bt Z a) = 2 ∧ 0 ≤ tkV bt Z (tkE bt Z a) ∧ tkV bt Z (tkE bt Z a) ≤ 7) then .inl (tkS bt Z (tkE bt Z a)) else
    if tkV bt Z (tkE bt Z a) = tkV bt Z a then .inl (tkS bt Z (tkE bt Z a)) else
    if tkK bt Z (tkE bt Z (tkE bt Z a)) = 3 then .inr (tkE bt Z (tkE bt Z (tkE bt Z a)), (P, C, R + 1, L, lt, hs, ss, cs, updN ga R (tkV bt Z a), updN va R (tkV bt Z (tkE bt Z a)))) else .inl (tkS bt Z (tkE bt Z (tkE bt Z a)))
def pItem (bt : Nat → Nat) (Z s0 v a : Nat) (D : zD) : Nat ⊕ (Nat × zD) :=
  if v = 112 then pPerson bt Z s0 a D else if v = 108 then pLate bt Z s0 a D else if v = 99 then pCloud bt Z s0 a D else if v = 114 then pRule bt Z s0 a D else .inl s0
def pAll (bt : Nat → Nat) (Z : Nat) : Nat → Nat → Nat → zD → Nat ⊕ (Nat × zD)
  | 0, k, _, D => .inr (k, D)
  | f + 1, k, a, D => if tkK bt Z a = 0 then .inr (k, D) else if tkK bt Z a = 1 then (match pItem bt Z (tkS bt Z a) (tkV bt Z a) (tkE bt Z a) D with
    | .inl s => .inl s
    | .inr (a', D') => pAll bt Z f (k + 1) a' D') else .inl (tkS bt Z a)
def zl (b : Bool) : Int32 := match b with
  | true => 1
  | false => 0
def DOk (D : zD) : Prop := D.1 ≤ 6 ∧ D.2.1 ≤ 8 ∧ D.2.2.1 ≤ 6 ∧ (1 ≤ D.2.2.2.1 ∧ D.2.2.2.1 ≤ 30) ∧ (∀ j, j < D.1 → 1 ≤ D.2.2.2.2.2.1 j ∧ D.2.2.2.2.2.1 j ≤ 9 ∧ D.2.2.2.2.2.2.1 j ≤ 25) ∧ (∀ j, j < D.2.1 → D.2.2.2.2.2.2.2.1 j ≤ 99) ∧ (∀ j, j < D.2.2.1 → D.2.2.2.2.2.2.2.2.1 j ≤ 7 ∧ D.2.2.2.2.2.2.2.2.2 j ≤ 7)
def DRel (dr : zT) (D : zD) : Prop := (dr.1 = nI D.1 ∧ dr.2.1 = nI D.2.1 ∧ dr.2.2.1 = nI D.2.2.1 ∧ dr.2.2.2.1 = nI D.2.2.2.1) ∧ (∀ j, j < D.1 → dr.2.2.2.2.1 j = nI (D.2.2.2.2.2.1 j) ∧ dr.2.2.2.2.2.1 j = nI (D.2.2.2.2.2.2.1 j)) ∧ (∀ j, j < D.2.1 → dr.2.2.2.2.2.2.1 j = nI (D.2.2.2.2.2.2.2.1 j)) ∧ (∀ j, j < D.2.2.1 → dr.2.2.2.2.2.2.2.1 j = nI (D.2.2.2.2.2.2.2.2.1 j) ∧ dr.2.2.2.2.2.2.2.2 j = nI (D.2.2.2.2.2.2.2.2.2 j))
theorem updN_s {f : Nat → Nat} {k x : Nat} : updN f k x k = x := by unfold updN; rw [if_pos rfl]
theorem updN_n {f : Nat → Nat} {k x j : Nat} (h : j ≠ k) : updN f k x j = f j := by unfold updN; rw [if_neg h]
theorem upd_rel {F : Nat → Int32} {f : Nat → Nat} {k x : Nat} (h : ∀ j, j < k → F j = nI (f j)) : ∀ j, j < k + 1 → upd F k (nI x) j = nI (updN f k x j) := by
  intro j hj
  by_cases e : j = k
  · subst e; rw [pk_us, updN_s]
  · rw [pk_un e, updN_n e]; exact h j (by omega)
theorem updN_ok {p : Nat → Prop} {f : Nat → Nat} {k x : Nat} (h : ∀ j, j < k → p (f j)) (hx : p x) : ∀ j, j < k + 1 → p (updN f k x j) := by
  intro j hj
  by_cases e : j = k
  · subst e; rw [updN_s]; exact hx
  · rw [updN_n e]; exact h j (by omega)
theorem pItem_ok {bt : Nat → Nat} {Z s0 v a : Nat} {D D' : zD} {a' : Nat} (hD : DOk D) (ha : a ≤ Z) (h : pItem bt Z s0 v a D = .inr (a', D')) : DOk D' ∧ a < a' ∧ a' ≤ Z := by
  obtain ⟨P, C, R, L, lt, hs, ss, cs, ga, va⟩ := D
  obtain ⟨g1, g2, g3, g4, g5, g6, g7⟩ := hD
  dsimp only at g1 g2 g3 g4 g5 g6 g7
  have m1 := tkE_max (bt := bt) ha
  have m2 := tkE_max (bt := bt) m1
  have m3 := tkE_max (bt := bt) m2
  have s1 := tkS_le bt Z a
  have s2 := tkS_le bt Z (tkE bt Z a)
  have s3 := tkS_le bt Z (tkE bt Z (tkE bt Z a))
  unfold pItem at h
  split at h
  · unfold pPerson at h; dsimp only at h
    split at h; · cases h
    split at h; · cases h
    split at h; · cases h
    split at h
    · rename_i q1 q2 q3 q4
      cases h
      have q2 := Decidable.not_not.mp q2
      have q3 := Decidable.not_not.mp q3
      have e1 := tkE_lt (bt := bt) (Z := Z) (a := a) (by omega)
      have e2 := tkE_lt (bt := bt) (Z := Z) (a := tkE bt Z a) (by omega)
      have e3 := tkE_lt (bt := bt) (Z := Z) (a := tkE bt Z (tkE bt Z a)) (by omega)
      refine ⟨⟨by show P + 1 ≤ 6; omega, g2, g3, g4, ?_, g6, g7⟩, by omega, m3⟩
      intro j hj
      have k1 := updN_ok (p := fun x => 1 ≤ x ∧ x ≤ 9) (x := tkV bt Z a) (fun j hj => ⟨(g5 j hj).1, (g5 j hj).2.1⟩) ⟨q2.2.1, q2.2.2⟩ j hj
      have k2 := updN_ok (p := fun x => x ≤ 25) (x := tkV bt Z (tkE bt Z a)) (fun j hj => (g5 j hj).2.2) q3.2.2 j hj
      exact ⟨k1.1, k1.2, k2⟩
    · cases h
  · split at h
    · unfold pLate at h; dsimp only at h
      split at h; · cases h
      split at h; · cases h
      split at h
      · rename_i q1 q2 q3
        cases h
        have q2 := Decidable.not_not.mp q2
        have e1 := tkE_lt (bt := bt) (Z := Z) (a := a) (by omega)
        have e2 := tkE_lt (bt := bt) (Z := Z) (a := tkE bt Z a) (by omega)
        exact ⟨⟨g1, g2, g3, ⟨q2.2.1, q2.2.2⟩, g5, g6, g7⟩, by omega, m2⟩
      · cases h
    · split at h
      · unfold pCloud at h; dsimp only at h
        split at h; · cases h
        split at h; · cases h
        split at h; · cases h
        split at h
        · rename_i q1 q2 q3 q4
          cases h
          have q2 := Decidable.not_not.mp q2
          have e1 := tkE_lt (bt := bt) (Z := Z) (a := a) (by omega)
          have e2 := tkE_lt (bt := bt) (Z := Z) (a := tkE bt Z a) (by omega)
          exact ⟨⟨g1, by show C + 1 ≤ 8; omega, g3, g4, g5, updN_ok (p := fun x => x ≤ 99) g6 q2.2.2, g7⟩, by omega, m2⟩
        · cases h
      · split at h
        · unfold pRule at h; dsimp only at h
          split at h; · cases h
          split at h; · cases h
          split at h; · cases h
          split at h; · cases h
          split at h
          · rename_i q1 q2 q3 q4 q5
            cases h
            have q2 := Decidable.not_not.mp q2
            have q3 := Decidable.not_not.mp q3
            have e1 := tkE_lt (bt := bt) (Z := Z) (a := a) (by omega)
            have e2 := tkE_lt (bt := bt) (Z := Z) (a := tkE bt Z a) (by omega)
            have e3 := tkE_lt (bt := bt) (Z := Z) (a := tkE bt Z (tkE bt Z a)) (by omega)
            refine ⟨⟨g1, g2, by show R + 1 ≤ 6; omega, g4, g5, g6, ?_⟩, by omega, m3⟩
            intro j hj
            exact ⟨updN_ok (p := fun x => x ≤ 7) (fun j hj => (g7 j hj).1) q2.2.2 j hj, updN_ok (p := fun x => x ≤ 7) (fun j hj => (g7 j hj).2) q3.2.2 j hj⟩
          · cases h
        · cases h
