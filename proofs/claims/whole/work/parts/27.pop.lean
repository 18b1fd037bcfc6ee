/-! how many bits: the class adds them up in fields, the model one by one -/
def sumB (n : Nat) : Nat → Nat
  | 0 => 0
  | k + 1 => sumB n k + (if n.testBit k = true then 1 else 0)
theorem sumB_8 (n : Nat) : ∀ k, sumB n (8 + k) = sumB (n % 256) 8 + sumB (n / 256) k := by
  have h8 : ∀ k, k ≤ 8 → sumB (n % 256) k = sumB n k := by
    intro k
    induction k with
    | zero => intro _; rfl
    | succ k ih =>
      intro hk
      rw [sumB, sumB, ih (by omega)]
      have : (n % 256).testBit k = n.testBit k := by
        rw [show (256 : Nat) = 2 ^ 8 from rfl, Nat.testBit_mod_two_pow, decide_eq_true (show k < 8 by omega), Bool.true_and]
      rw [this]
  intro k
  induction k with
  | zero => rw [h8 8 (Nat.le_refl _)]; rfl
  | succ k ih =>
    show sumB n (8 + k) + (if n.testBit (8 + k) = true then 1 else 0) = _
    have : (n / 256).testBit k = n.testBit (8 + k) := by
      rw [show (256 : Nat) = 2 ^ 8 from rfl, Nat.testBit_div_two_pow, Nat.add_comm]
    rw [ih]
    show sumB (n % 256) 8 + sumB (n / 256) k + (if n.testBit (8 + k) = true then 1 else 0) = sumB (n % 256) 8 + (sumB (n / 256) k + (if (n / 256).testBit k = true then 1 else 0))
    rw [this, Nat.add_assoc]
def pc8 (x : Nat) : Nat :=
  let a := x - ((x / 2) &&& 85)
  let b := (a &&& 51) + ((a / 4) &&& 51)
  b % 16 + b / 16
theorem pc8_s : ∀ x, x < 256 → sumB x 8 = pc8 x := by decide +kernel
theorem andS {u m v k : Nat} (hu : u < 256) (hm : m < 256) : (u + 256 * v) &&& (m + 256 * k) = (u &&& m) + 256 * (v &&& k) := by
  have hum : u &&& m < 2 ^ 8 := Nat.and_lt_two_pow u (by omega)
  apply Nat.eq_of_testBit_eq
  intro j
  rw [Nat.testBit_and, Nat.add_comm u, Nat.add_comm m, Nat.add_comm (u &&& m), show (256 : Nat) = 2 ^ 8 from rfl, Nat.testBit_two_pow_mul_add v (show u < 2 ^ 8 by omega), Nat.testBit_two_pow_mul_add k (show m < 2 ^ 8 by omega), Nat.testBit_two_pow_mul_add (v &&& k) hum]
  by_cases h : j < 8
  · rw [if_pos h, if_pos h, if_pos h, Nat.testBit_and]
  · rw [if_neg h, if_neg h, if_neg h, Nat.testBit_and]
theorem sh1 : ∀ x, x < 256 → ∀ r, r < 2 → (x / 2 + 128 * r) &&& 85 = (x / 2) &&& 85 := by decide +kernel
theorem sh2 : ∀ x, x < 256 → ∀ r, r < 4 → (x / 4 + 64 * r) &&& 51 = (x / 4) &&& 51 := by decide +kernel
theorem sh4 : ∀ x, x < 256 → x &&& 15 = x % 16 := by decide +kernel
theorem st1 {x X M : Nat} (hx : x < 256) : ((x + 256 * X) / 2) &&& (85 + 256 * M) = ((x / 2) &&& 85) + 256 * ((X / 2) &&& M) := by
  rw [show (x + 256 * X) / 2 = (x / 2 + 128 * (X % 2)) + 256 * (X / 2) by omega, andS (by omega) (by decide), sh1 x hx _ (by omega)]
theorem st2 {x X M : Nat} (hx : x < 256) : ((x + 256 * X) / 4) &&& (51 + 256 * M) = ((x / 4) &&& 51) + 256 * ((X / 4) &&& M) := by
  rw [show (x + 256 * X) / 4 = (x / 4 + 64 * (X % 4)) + 256 * (X / 4) by omega, andS (by omega) (by decide), sh2 x hx _ (by omega)]
theorem st4 {b B M : Nat} (h1 : b % 16 ≤ 4) (h2 : b / 16 ≤ 4) (h3 : B % 16 ≤ 4) : ((b + 256 * B) + (b + 256 * B) / 16) &&& (15 + 256 * M) = (b % 16 + b / 16) + 256 * ((B + B / 16) &&& M) := by
  rw [show (b + 256 * B) + (b + 256 * B) / 16 = (b + b / 16 + 16 * (B % 16)) + 256 * (B + B / 16) by omega, andS (by omega) (by decide), sh4 _ (by omega)]
  omega
def fa (x : Nat) : Nat := x - ((x / 2) &&& 85)
def fb (a : Nat) : Nat := (a &&& 51) + ((a / 4) &&& 51)
theorem fab : ∀ x, x < 256 → ((x / 2) &&& 85) ≤ x ∧ fa x < 256 ∧ fb (fa x) < 256 ∧ fb (fa x) % 16 ≤ 4 ∧ fb (fa x) / 16 ≤ 4 ∧ pc8 x = fb (fa x) % 16 + fb (fa x) / 16 ∧ pc8 x ≤ 8 := by decide +kernel
def w4 (x0 x1 x2 x3 : Nat) : Nat := x0 + 256 * (x1 + 256 * (x2 + 256 * x3))
theorem popN {x0 x1 x2 x3 : Nat} (h0 : x0 < 256) (h1 : x1 < 256) (h2 : x2 < 256) (h3 : x3 < 128) :
    ((w4 x0 x1 x2 x3 / 2) &&& 1431655765) ≤ w4 x0 x1 x2 x3 ∧ w4 x0 x1 x2 x3 - ((w4 x0 x1 x2 x3 / 2) &&& 1431655765) = w4 (fa x0) (fa x1) (fa x2) (fa x3) ∧
    (w4 (fa x0) (fa x1) (fa x2) (fa x3) &&& 858993459) + ((w4 (fa x0) (fa x1) (fa x2) (fa x3) / 4) &&& 858993459) = w4 (fb (fa x0)) (fb (fa x1)) (fb (fa x2)) (fb (fa x3)) ∧
    (w4 (fb (fa x0)) (fb (fa x1)) (fb (fa x2)) (fb (fa x3)) + w4 (fb (fa x0)) (fb (fa x1)) (fb (fa x2)) (fb (fa x3)) / 16) &&& 252645135 = w4 (pc8 x0) (pc8 x1) (pc8 x2) (pc8 x3) := by
  have k0 := fab x0 h0
  have k1 := fab x1 h1
  have k2 := fab x2 h2
  have k3 := fab x3 (by omega)
  have e1 : (w4 x0 x1 x2 x3 / 2) &&& 1431655765 = w4 ((x0 / 2) &&& 85) ((x1 / 2) &&& 85) ((x2 / 2) &&& 85) ((x3 / 2) &&& 85) := by
    unfold w4
    rw [show (1431655765 : Nat) = 85 + 256 * (85 + 256 * (85 + 256 * 85)) from rfl, st1 h0, st1 h1, st1 h2]
  refine ⟨?_, ?_, ?_, ?_⟩
  · rw [e1]; unfold w4; omega
  · rw [e1]; unfold w4 fa; omega
  · unfold w4
    rw [show (858993459 : Nat) = 51 + 256 * (51 + 256 * (51 + 256 * 51)) from rfl, andS k0.2.1 (by decide), andS k1.2.1 (by decide), andS k2.2.1 (by decide), st2 k0.2.1, st2 k1.2.1, st2 k2.2.1]
    unfold fb; omega
  · unfold w4
    rw [show (252645135 : Nat) = 15 + 256 * (15 + 256 * (15 + 256 * 15)) from rfl, st4 k0.2.2.2.1 k0.2.2.2.2.1 (by omega), st4 k1.2.2.2.1 k1.2.2.2.2.1 (by omega), st4 k2.2.2.2.1 k2.2.2.2.2.1 (by omega), k0.2.2.2.2.2.1, k1.2.2.2.2.2.1, k2.2.2.2.2.2.1, k3.2.2.2.2.2.1]
    have : (fb (fa x3) + fb (fa x3) / 16) &&& 15 = fb (fa x3) % 16 + fb (fa x3) / 16 := by
      rw [sh4 _ (by omega)]; omega
    rw [this]
theorem nI_and (a b : Nat) : nI a &&& nI b = nI (a &&& b) := by
  apply Int32.toBitVec_inj.mp
  show BitVec.ofNat 32 a &&& BitVec.ofNat 32 b = BitVec.ofNat 32 (a &&& b)
  rw [BitVec.ofNat_and]
def zu (x y : Int32) : Int32 := (Int32.toUInt32 x >>> (Int32.toUInt32 y &&& Int32.toUInt32 31)).toInt32
theorem zu_n {n : Nat} (hn : n < 2 ^ 32) (y : Int32) (k : Nat) (hk : ((Int32.toUInt32 y &&& Int32.toUInt32 31) % 32).toNat = k) : zu (nI n) y = nI (n / 2 ^ k) := by
  apply Int32.toBitVec_inj.mp
  apply BitVec.eq_of_toNat_eq
  show ((BitVec.ofNat 32 n) >>> ((Int32.toUInt32 y &&& Int32.toUInt32 31) % 32).toNat).toNat = (BitVec.ofNat 32 (n / 2 ^ k)).toNat
  rw [hk, BitVec.toNat_ushiftRight, BitVec.toNat_ofNat, BitVec.toNat_ofNat, Nat.mod_eq_of_lt hn, Nat.shiftRight_eq_div_pow, Nat.mod_eq_of_lt]
  exact Nat.lt_of_le_of_lt (Nat.div_le_self _ _) hn
theorem fin4 {c0 c1 c2 c3 : Nat} (h0 : c0 ≤ 8) (h1 : c1 ≤ 8) (h2 : c2 ≤ 8) (h3 : c3 ≤ 8) : ((w4 c0 c1 c2 c3 + w4 c0 c1 c2 c3 / 256) + (w4 c0 c1 c2 c3 + w4 c0 c1 c2 c3 / 256) / 65536) % 64 = c0 + c1 + c2 + c3 := by
  have e1 : w4 c0 c1 c2 c3 / 256 = c1 + 256 * (c2 + 256 * c3) := by unfold w4; omega
  have e2 : w4 c0 c1 c2 c3 + w4 c0 c1 c2 c3 / 256 = (c0 + c1) + 256 * (c1 + c2) + 65536 * (c2 + c3 + 256 * c3) := by rw [e1]; unfold w4; omega
  have e3 : ((c0 + c1) + 256 * (c1 + c2) + 65536 * (c2 + c3 + 256 * c3)) / 65536 = c2 + c3 + 256 * c3 := by omega
  rw [e2, e3]
  omega
theorem zbc_w {x0 x1 x2 x3 : Nat} (h0 : x0 < 256) (h1 : x1 < 256) (h2 : x2 < 256) (h3 : x3 < 128) : zbc (nI (w4 x0 x1 x2 x3)) = nI (pc8 x0 + pc8 x1 + pc8 x2 + pc8 x3) := by
  obtain ⟨p1, p2, p3, p4⟩ := popN h0 h1 h2 h3
  have k0 := fab x0 h0
  have k1 := fab x1 h1
  have k2 := fab x2 h2
  have k3 := fab x3 (by omega)
  have b0 : w4 x0 x1 x2 x3 < 2 ^ 32 := by unfold w4; omega
  have b1 : w4 (fa x0) (fa x1) (fa x2) (fa x3) < 2 ^ 32 := by unfold w4; omega
  have b2 : w4 (fb (fa x0)) (fb (fa x1)) (fb (fa x2)) (fb (fa x3)) < 2 ^ 32 := by unfold w4; omega
  have b3 : w4 (pc8 x0) (pc8 x1) (pc8 x2) (pc8 x3) < 2 ^ 31 := by unfold w4; omega
  have e : zbc (nI (w4 x0 x1 x2 x3)) = (fun a => (fun b => (fun c => (fun d => (d + zu d (nI 16)) &&& nI 63) (c + zu c (nI 8))) ((b + zu b (nI 4)) &&& nI 252645135)) ((a &&& nI 858993459) + (zu a (nI 2) &&& nI 858993459))) (nI (w4 x0 x1 x2 x3) - (zu (nI (w4 x0 x1 x2 x3)) (nI 1) &&& nI 1431655765)) := rfl
  rw [e, zu_n b0 (nI 1) 1 (by decide), nI_and, Nat.pow_one, pk_sub p1, p2]
  dsimp only
  rw [zu_n b1 (nI 2) 2 (by decide), nI_and, nI_and, nI_add, show (2 : Nat) ^ 2 = 4 from rfl, p3, zu_n b2 (nI 4) 4 (by decide), nI_add, nI_and, show (2 : Nat) ^ 4 = 16 from rfl, p4, zu_n (by omega) (nI 8) 8 (by decide), nI_add, zu_n (by unfold w4; omega) (nI 16) 16 (by decide), nI_add, nI_and]
  congr 1
  rw [show (63 : Nat) = 2 ^ 6 - 1 from rfl, Nat.and_two_pow_sub_one_eq_mod]
  exact fin4 k0.2.2.2.2.2.2 k1.2.2.2.2.2.2 k2.2.2.2.2.2.2 k3.2.2.2.2.2.2
theorem zg_nI {n i : Nat} (hi : i < 32) : zg (nI n) i = n.testBit i := by
  show (BitVec.ofNat 32 n).getLsbD i = _
  rw [BitVec.getLsbD_ofNat, decide_eq_true hi, Bool.true_and]
theorem zon_n (n : Nat) : ∀ k, k ≤ 32 → zon (nI n) k = nI (sumB n k) := by
  intro k
  induction k with
  | zero => intro _; rfl
  | succ k ih =>
    intro hk
    rw [zon, ih (by omega), zg_zbit _ (by omega), zg_nI (by omega), sumB]
    cases n.testBit k
    · rw [if_neg Bool.false_ne_true, if_neg Bool.false_ne_true]; exact nI_add _ 0
    · rw [if_pos rfl, if_pos rfl]; exact nI_add _ 1
theorem s25_n {x : Int32} (h : s25 x) : ∃ n, n < 2 ^ 25 ∧ x = nI n := by
  refine ⟨x.toBitVec.toNat, ?_, ?_⟩
  · apply Nat.lt_pow_two_of_testBit
    intro i hi
    by_cases h2 : i < 32
    · exact h i hi h2
    · exact Nat.testBit_lt_two_pow (Nat.lt_of_lt_of_le x.toBitVec.isLt (Nat.pow_le_pow_right (by decide) (by omega)))
  · apply Int32.toBitVec_inj.mp
    show x.toBitVec = BitVec.ofNat 32 x.toBitVec.toNat
    rw [BitVec.ofNat_toNat, BitVec.setWidth_eq]
theorem e_pop {x : Int32} (h : s25 x) : zbc x = zon x 25 := by
  obtain ⟨n, hn, rfl⟩ := s25_n h
  have hw : n = w4 (n % 256) (n / 256 % 256) (n / 256 / 256 % 256) (n / 256 / 256 / 256) := by unfold w4; omega
  have h3 : n / 256 / 256 / 256 < 2 := by omega
  have e1 : zbc (nI n) = nI (pc8 (n % 256) + pc8 (n / 256 % 256) + pc8 (n / 256 / 256 % 256) + pc8 (n / 256 / 256 / 256)) := by
    have := zbc_w (x0 := n % 256) (x1 := n / 256 % 256) (x2 := n / 256 / 256 % 256) (x3 := n / 256 / 256 / 256) (by omega) (by omega) (by omega) (by omega)
    rw [← hw] at this
    exact this
  rw [e1, zon_n n 25 (by omega), show (25 : Nat) = 8 + (8 + (8 + 1)) from rfl, sumB_8, sumB_8, sumB_8, pc8_s _ (by omega), pc8_s _ (by omega), pc8_s _ (by omega)]
  have : ∀ z, z < 2 → sumB z 1 = pc8 z := by decide
  rw [this _ h3]
  congr 1
  omega
