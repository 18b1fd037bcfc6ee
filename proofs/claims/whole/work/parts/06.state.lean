/-! the cells of the system, cells 0 to 40, and of the reference, cells 41 to 48 -/
abbrev zT : Type := Int32 × Int32 × Int32 × Int32 × (Nat → Int32) × (Nat → Int32) × (Nat → Int32) × (Nat → Int32) × (Nat → Int32)
abbrev zN : Type := Int32 × Int32 × Int32 × Int32 × (Nat → Int32) × (Nat → Int32) × (Nat → Int32) × (Nat → Int32)
abbrev zR : Type := Int32 × Int32 × Int32 × Int32 × Int32 × Int32
abbrev zA (n : Nat) (f : Nat → Int32) : zq_C := .inl (0, n, .inl f)
abbrev zZ (n : Nat) (f : Nat → Int32) : zq_C := .inl (1, n, .inl f)
abbrev zI2 : Nat → Option Nat := fun j => match j with | 0 => some 21 | 1 => some 26 | _ => none
abbrev zI6 : Nat → Option Nat := fun j => match j with | 0 => some 35 | 1 => some 36 | 2 => some 37 | 3 => some 38 | 4 => some 39 | 5 => some 40 | _ => none
abbrev XH (tx : Nat → Int32) (n : Int32) (t dr : zT) (rd : zR) (w i0 i1 : zN) (kp : Nat → Int32) (dd : Int32) (tr : Int64) (m : Nat → zq_C) : zq_H :=
  [.inr (11, [.ref 1, .int n, .ref 2, .ref 8, .ref 14, .ref 15, .ref 20, .ref 31, .ref 32, .ref 33, .ref 34]),
   zA 200 tx,
   .inr (9, [.int t.1, .int t.2.1, .int t.2.2.1, .int t.2.2.2.1, .ref 3, .ref 4, .ref 5, .ref 6, .ref 7]), zA 6 t.2.2.2.2.1, zA 6 t.2.2.2.2.2.1, zA 8 t.2.2.2.2.2.2.1, zA 6 t.2.2.2.2.2.2.2.1, zA 6 t.2.2.2.2.2.2.2.2,
   .inr (9, [.int dr.1, .int dr.2.1, .int dr.2.2.1, .int dr.2.2.2.1, .ref 9, .ref 10, .ref 11, .ref 12, .ref 13]), zA 6 dr.2.2.2.2.1, zA 6 dr.2.2.2.2.2.1, zA 8 dr.2.2.2.2.2.2.1, zA 6 dr.2.2.2.2.2.2.2.1, zA 6 dr.2.2.2.2.2.2.2.2,
   .inr (8, [.ref 1, .ref 8, .int rd.1, .int rd.2.1, .int rd.2.2.1, .int rd.2.2.2.1, .int rd.2.2.2.2.1, .int rd.2.2.2.2.2]),
   .inr (5, [.ref 2, .int w.1, .int w.2.1, .int w.2.2.1, .int w.2.2.2.1, .ref 16, .ref 17, .ref 18, .ref 19]), zA 6 w.2.2.2.2.1, zA 60 w.2.2.2.2.2.1, zA 99 w.2.2.2.2.2.2.1, zA 30 w.2.2.2.2.2.2.2,
   .inl (2, 2, .inr (.inr (.inr (.inr zI2)))),
   .inr (5, [.ref 2, .int i0.1, .int i0.2.1, .int i0.2.2.1, .int i0.2.2.2.1, .ref 22, .ref 23, .ref 24, .ref 25]), zA 6 i0.2.2.2.2.1, zA 60 i0.2.2.2.2.2.1, zA 99 i0.2.2.2.2.2.2.1, zA 30 i0.2.2.2.2.2.2.2,
   .inr (5, [.ref 2, .int i1.1, .int i1.2.1, .int i1.2.2.1, .int i1.2.2.2.1, .ref 27, .ref 28, .ref 29, .ref 30]), zA 6 i1.2.2.2.2.1, zA 60 i1.2.2.2.2.2.1, zA 99 i1.2.2.2.2.2.2.1, zA 30 i1.2.2.2.2.2.2.2,
   zZ 2 kp,
   .inr (1, [.ref 2, .ref 15]),
   .inr (0, [.ref 2, .ref 15, .int dd, .long tr]),
   .inl (3, 6, .inr (.inr (.inr (.inr zI6)))),
   .inr (6, []), .inr (7, []), .inr (3, []), .inr (4, []), .inr (2, []), .inr (10, []),
   m 0, m 1, m 2, m 3, m 4, m 5, m 6, m 7]
abbrev MH (c : Nat → zq_C) (tr : Int64) (tx : Nat → Int32) (ty : Int32) (td dr s im kp : Nat → Int32) (at_ so sr va : Int32) (wy : Nat → Int32) : zq_H :=
  [c 0, c 1, c 2, c 3, c 4, c 5, c 6, c 7, c 8, c 9, c 10, c 11, c 12, c 13, c 14, c 15, c 16, c 17, c 18, c 19, c 20, c 21, c 22, c 23, c 24, c 25, c 26, c 27, c 28, c 29, c 30, c 31, c 32, c 33, c 34, c 35, c 36, c 37, c 38, c 39, c 40,
   .inr (12, [.long tr, .ref 42, .int ty, .ref 43, .ref 44, .ref 45, .ref 46, .ref 47, .int at_, .int so, .int sr, .int va, .ref 48]),
   zA 200 tx, zA 32 td, zA 32 dr, zA 1849 s, zA 3698 im, zZ 2 kp, zA 8 wy]
def zb (P : Prop) [Decidable P] : Int32 := if P then 1 else 0
theorem zb_01 (P : Prop) [Decidable P] : zb P = 0 ∨ zb P = 1 := by unfold zb; split <;> simp
theorem zb_eq (P : Prop) [Decidable P] : zq_cc .eq (zb P) 0 ↔ ¬ P := by
  unfold zb zq_cc
  by_cases h : P <;> simp [h]
theorem zb_ne (P : Prop) [Decidable P] : zq_cc .ne (zb P) 0 ↔ P := by
  unfold zb zq_cc
  by_cases h : P <;> simp [h]
theorem zb_t {P : Prop} [Decidable P] (h : P) : (1 : Int32) = zb P := by unfold zb; rw [if_pos h]
theorem zb_f {P : Prop} [Decidable P] (h : ¬ P) : (0 : Int32) = zb P := by unfold zb; rw [if_neg h]
theorem zb_c {P Q : Prop} [Decidable P] [Decidable Q] (h : P ↔ Q) : zb P = zb Q := by unfold zb; by_cases hp : P <;> simp [hp, h.symm, h] <;> simp_all
theorem zb_r {P : Prop} [Decidable P] {v : Int32} (h : v = zb P) : (some (Value.int (zb P))) = some (.int v) := by rw [h]
/-- a loop whose state is a function of how often it went round -/
theorem zq_loop {l : Launch} {M : zq_M} {d : Nat} {r : Option Value} {h' : zq_H} {pc : Nat} (S : Nat → zq_S) (I : Nat → Prop) (N i0 : Nat) (hle : i0 ≤ N) (h0 : I i0) (hs : ∀ i, i0 ≤ i → i < N → I i → (I (i + 1) → zq_G l M d r h' pc (S (i + 1))) → zq_G l M d r h' pc (S i)) (he : I N → zq_G l M d r h' pc (S N)) : zq_G l M d r h' pc (S i0) := by
  have key : ∀ n i, i0 ≤ i → i + n = N → I i → zq_G l M d r h' pc (S i) := by
    intro n
    induction n with
    | zero => intro i hi0 hi hI; have : i = N := by omega
              subst this; exact he hI
    | succ n ih => intro i hi0 hi hI; exact hs i hi0 (by omega) hI (fun hI2 => ih (i + 1) (by omega) (by omega) hI2)
  exact key (N - i0) i0 (Nat.le_refl _) (by omega) h0
theorem zq_clt {a b : Nat} (ha : a < 2147483648) (hb : b < 2147483648) : zq_cc .lt (nI a) (nI b) ↔ a < b := nI_ltI ha hb
theorem zq_cge {a b : Nat} (ha : a < 2147483648) (hb : b < 2147483648) : zq_cc .ge (nI a) (nI b) ↔ b ≤ a := nI_leI hb ha
theorem zq_cgt {a b : Nat} (ha : a < 2147483648) (hb : b < 2147483648) : zq_cc .gt (nI a) (nI b) ↔ b < a := nI_ltI hb ha
theorem zq_cle {a b : Nat} (ha : a < 2147483648) (hb : b < 2147483648) : zq_cc .le (nI a) (nI b) ↔ a ≤ b := nI_leI ha hb
theorem zq_ceq {a b : Nat} (ha : a < 2147483648) (hb : b < 2147483648) : zq_cc .eq (nI a) (nI b) ↔ a = b := nI_eq ha hb
theorem zq_cne {a b : Nat} (ha : a < 2147483648) (hb : b < 2147483648) : zq_cc .ne (nI a) (nI b) ↔ ¬ a = b := not_congr (nI_eq ha hb)
theorem zq_div {a b : Nat} (ha : a < 2147483648) (h0 : 0 < b) (hb : b < 2147483648) : nI a / nI b = nI (a / b) := pk_div ha h0 hb
theorem zq_rem {a b : Nat} (ha : a < 2147483648) (h0 : 0 < b) (hb : b < 2147483648) : nI a - nI a / nI b * nI b = nI (a % b) := pk_rem ha h0 hb
theorem zq_nz {b : Nat} (h0 : 0 < b) (hb : b < 2147483648) : ¬ nI b = 0 := nI_ne0 h0 hb
abbrev zq_K : Type := zq_M → Nat → Nat → Instr → Option Nat
def zq_chkT (M : zq_M) : List zq_K → Nat → Option Nat
  | [], pc => some pc
  | q :: os, pc => match decode M.2.2.1 pc with
    | .ok (i, len) => match q M pc len i with
      | some pc' => zq_chkT M os pc'
      | none => none
    | .error _ => none
theorem zq_chkT_eq (M : zq_M) (os : List zq_O) (pc : Nat) : zq_chk M os pc = zq_chkT M (os.map (fun o => o.1.1)) pc := by
  induction os generalizing pc with
  | nil => rfl
  | cons o os ih =>
    show zq_chk M (o :: os) pc = zq_chkT M (o.1.1 :: os.map (fun o => o.1.1)) pc
    unfold zq_chk zq_chkT
    split
    · rename_i i len hd
      simp only [hd]
      split
      · rename_i pc1 h1
        simp only [h1]
        exact ih _
      · rename_i h1
        simp only [h1]
    · rename_i e hd
      simp only [hd]
theorem zq_b {l : Launch} {M : zq_M} {d : Nat} {r : Option Value} {h' : zq_H} {pc : Nat} {σ : zq_S} (os : List zq_O) (ts : List zq_K) (pc' : Nat) (ht : os.map (fun o => o.1.1) = ts) (hc : zq_chkT M ts pc = some pc') (hr : zq_run os σ (fun σ' => zq_G l M d r h' pc' σ')) : zq_G l M d r h' pc σ :=
  zq_blk os pc' (by rw [zq_chkT_eq, ht]; exact hc) hr
