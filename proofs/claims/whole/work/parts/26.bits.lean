/-! bits, one by one -/
def zg (x : Int32) (i : Nat) : Bool := x.toBitVec.getLsbD i
theorem zg_ext {x y : Int32} (h : ∀ i, i < 32 → zg x i = zg y i) : x = y :=
  Int32.toBitVec_inj.mp (BitVec.eq_of_getLsbD_eq (fun i hi => h i hi))
theorem zg_and (x y : Int32) (i : Nat) : zg (x &&& y) i = (zg x i && zg y i) := by unfold zg; rw [Int32.toBitVec_and, BitVec.getLsbD_and]
theorem zg_or (x y : Int32) (i : Nat) : zg (x ||| y) i = (zg x i || zg y i) := by unfold zg; rw [Int32.toBitVec_or, BitVec.getLsbD_or]
theorem zg_xor (x y : Int32) (i : Nat) : zg (x ^^^ y) i = (zg x i ^^ zg y i) := by unfold zg; rw [Int32.toBitVec_xor, BitVec.getLsbD_xor]
theorem zg_m1 : ∀ i, i < 32 → zg (-1) i = true := by decide
theorem zg_not (x : Int32) {i : Nat} (hi : i < 32) : zg (x ^^^ -1) i = !zg x i := by rw [zg_xor, zg_m1 i hi, Bool.xor_true]
theorem zg_one : ∀ n, n < 32 → ∀ i, i < 32 → zg ((1 : Int32) <<< (nI n &&& 31)) i = decide (i = n) := by decide +kernel
theorem zg_zero (i : Nat) : zg 0 i = false := by
  show (0#32).getLsbD i = false
  exact BitVec.getLsbD_zero
theorem zg_1 : ∀ i, i < 32 → zg 1 i = decide (i = 0) := by decide
theorem zsm : ∀ p, p < 32 → ((nI p &&& 31).toBitVec.smod 32#32).toNat = p := by decide +kernel
theorem zg_shr0 (x : Int32) {p : Nat} (hp : p < 32) : zg (x >>> (nI p &&& 31)) 0 = zg x p := by
  unfold zg
  show (x.toBitVec.sshiftRight ((nI p &&& 31).toBitVec.smod 32#32).toNat).getLsbD 0 = _
  rw [zsm p hp, BitVec.getLsbD_sshiftRight]
  simp [hp]
theorem zg_zbit (x : Int32) {p : Nat} (hp : p < 32) : zbit x (nI p) = if zg x p = true then 1 else 0 := by
  apply zg_ext
  intro i hi
  unfold zbit
  rw [zg_and, zg_1 i hi]
  by_cases h0 : i = 0
  · subst h0
    rw [zg_shr0 x hp]
    cases zg x p <;> rfl
  · rw [decide_eq_false h0, Bool.and_false]
    cases zg x p
    · rw [if_neg Bool.false_ne_true, zg_zero]
    · rw [if_pos rfl, zg_1 i hi, decide_eq_false h0]
theorem zbit_iff (x : Int32) {p : Nat} (hp : p < 32) : zbit x (nI p) = 1 ↔ zg x p = true := by
  rw [zg_zbit x hp]
  cases zg x p
  · exact ⟨fun q => absurd q (by decide), fun q => absurd q Bool.false_ne_true⟩
  · exact ⟨fun _ => rfl, fun _ => rfl⟩
theorem zg_orB (f : Nat → Bool) {n i : Nat} (hn : n ≤ 32) (hi : i < 32) : zg (orB f n) i = (decide (i < n) && f i) := by
  induction n with
  | zero => rw [orB, zg_zero]; simp
  | succ n ih =>
    have ih := ih (by omega)
    cases hf : f n with
    | true =>
      rw [orB_t hf, zg_or, ih, zg_one n (by omega) i hi]
      by_cases e : i = n
      · subst e; simp [hf]
      · rw [decide_eq_false e, Bool.or_false]
        by_cases h : i < n
        · rw [decide_eq_true h, decide_eq_true (show i < n + 1 by omega)]
        · rw [decide_eq_false h, decide_eq_false (show ¬ i < n + 1 by omega)]
    | false =>
      rw [orB_f hf, ih]
      by_cases e : i = n
      · subst e; simp [hf]
      · by_cases h : i < n
        · rw [decide_eq_true h, decide_eq_true (show i < n + 1 by omega)]
        · rw [decide_eq_false h, decide_eq_false (show ¬ i < n + 1 by omega)]
theorem zg_orK (f : Nat → Bool) (x : Int32) {n i : Nat} (hn : n ≤ 32) (hi : i < 32) : zg (orK f x n) i = (decide (i < n) && f i && zg x i) := by
  induction n with
  | zero => rw [orK, zg_zero]; simp
  | succ n ih =>
    have ih := ih (by omega)
    cases hf : f n with
    | true =>
      rw [orK_t hf, zg_or, ih, zg_and, zg_one n (by omega) i hi]
      by_cases e : i = n
      · subst e; simp [hf]
      · rw [decide_eq_false e, Bool.and_false, Bool.or_false]
        by_cases h : i < n
        · rw [decide_eq_true h, decide_eq_true (show i < n + 1 by omega)]
        · rw [decide_eq_false h, decide_eq_false (show ¬ i < n + 1 by omega)]
    | false =>
      rw [orK_f hf, ih]
      by_cases e : i = n
      · subst e; simp [hf]
      · by_cases h : i < n
        · rw [decide_eq_true h, decide_eq_true (show i < n + 1 by omega)]
        · rw [decide_eq_false h, decide_eq_false (show ¬ i < n + 1 by omega)]
/-! the plain equalities -/
theorem e_seen {P C D a : Nat} {hs cs : Nat → Int32} {sm : Int32} {cn : Nat → Nat} (hP : P ≤ 6) (ha : a < P) : zbit (zseen C cs D P hs sm cn) (nI a) = zb (bareB P hs sm cn a = true ∧ ¬ zany (fun i => decide (cs i = nI D)) C = true) := by
  unfold zseen
  rw [zg_zbit _ (by omega)]
  by_cases h : zany (fun i => decide (cs i = nI D)) C = true
  · rw [if_pos h, zg_zero, if_neg Bool.false_ne_true, zb_0 (fun q => q.2 h)]
  · rw [if_neg h, zg_orB _ (by omega) (by omega), decide_eq_true ha, Bool.true_and]
    by_cases hb : bareB P hs sm cn a = true
    · rw [if_pos hb, zb_1 ⟨hb, h⟩]
    · rw [if_neg hb, zb_0 (fun q => hb q.1)]
theorem e_hides {P a : Nat} {hs : Nat → Int32} {sm : Int32} {cn : Nat → Nat} (hP : P ≤ 6) (ha : a < P) : orB (bareB P hs sm (zcm (nI a) 25 cn)) P &&& (orB (bareB P hs sm cn) P ^^^ -1) = orB (fun p => decide (¬ p = a) && !bareB P hs sm cn p && bareB P hs sm (zcm (nI a) 25 cn) p) P := by
  apply zg_ext
  intro i hi
  rw [zg_and, zg_not _ hi, zg_orB _ (by omega) hi, zg_orB _ (by omega) hi, zg_orB _ (by omega) hi]
  by_cases e : i = a
  · subst e
    have : bareB P hs sm (zcm (nI i) 25 cn) i = false := by
      unfold bareB zcm
      rw [if_pos rfl]; rfl
    rw [this]; simp
  · rw [decide_eq_true e]
    cases decide (i < P) <;> cases bareB P hs sm cn i <;> cases bareB P hs sm (zcm (nI a) 25 cn) i <;> rfl
theorem e_stood {P : Nat} {f : Nat → Bool} {x : Int32} (hP : P ≤ 6) : x &&& orB f P = orK f x P := by
  apply zg_ext
  intro i hi
  rw [zg_and, zg_orB _ (by omega) hi, zg_orK _ _ (by omega) hi]
  cases zg x i <;> cases decide (i < P) <;> cases f i <;> rfl
theorem e_one {x : Int32} {a : Nat} (ha : a < 32) : x &&& ((1 : Int32) <<< (nI a &&& 31)) = (1 : Int32) <<< (nI a &&& 31) ↔ zbit x (nI a) = 1 := by
  rw [zbit_iff x ha]
  constructor
  · intro h
    have := congrArg (fun y => zg y a) h
    rw [zg_and, zg_one a ha a ha, decide_eq_true rfl, Bool.and_true] at this
    exact this
  · intro h
    apply zg_ext
    intro i hi
    rw [zg_and, zg_one a ha i hi]
    by_cases e : i = a
    · subst e; rw [h]; rfl
    · rw [decide_eq_false e, Bool.and_false]
theorem e_tog {x y : Int32} : y &&& x = x ↔ x &&& (y ^^^ -1) = 0 := by
  constructor
  · intro h
    apply zg_ext
    intro i hi
    have := congrArg (fun z => zg z i) h
    rw [zg_and] at this
    rw [zg_and, zg_not _ hi, zg_zero]
    cases hx : zg x i <;> cases hy : zg y i <;> simp_all
  · intro h
    apply zg_ext
    intro i hi
    have := congrArg (fun z => zg z i) h
    rw [zg_and, zg_not _ hi, zg_zero] at this
    rw [zg_and]
    cases hx : zg x i <;> cases hy : zg y i <;> simp_all
theorem nearN_c {f g : Nat → Bool} {cn : Nat → Nat} {n : Nat} (h : ∀ i, i < n → f i = g i) : nearN f cn n = nearN g cn n := by
  induction n with
  | zero => rfl
  | succ n ih => rw [nearN, nearN, ih (fun i hi => h i (by omega)), h n (by omega)]
theorem farN_c {f g : Nat → Bool} {cn : Nat → Nat} {n : Nat} (h : ∀ i, i < n → f i = g i) : farN f cn n = farN g cn n := by
  induction n with
  | zero => rfl
  | succ n ih => rw [farN, farN, ih (fun i hi => h i (by omega)), h n (by omega)]
theorem e_col {P c p : Nat} {hs : Nat → Int32} {sm x : Int32} {cn : Nat → Nat} (hP : P ≤ 6) (hp : p < P) : colB (x &&& orB (bareB P hs sm cn) P) cn c p = colM P hs sm cn x c p := by
  have h1 := zbit_iff (x &&& orB (bareB P hs sm cn) P) (p := p) (by omega)
  have h2 := zbit_iff x (p := p) (by omega)
  rw [zg_and, zg_orB _ (by omega) (by omega), decide_eq_true hp, Bool.true_and] at h1
  have k1 : decide (zbit (x &&& orB (bareB P hs sm cn) P) (nI p) = 1) = (zg x p && bareB P hs sm cn p) := by
    cases hz : (zg x p && bareB P hs sm cn p) with
    | true => rw [hz] at h1; exact decide_eq_true (h1.mpr rfl)
    | false => rw [hz] at h1; exact decide_eq_false (fun q => Bool.false_ne_true (h1.mp q))
  have k2 : decide (zbit x (nI p) = 1) = zg x p := by
    cases hz : zg x p with
    | true => rw [hz] at h2; exact decide_eq_true (h2.mpr rfl)
    | false => rw [hz] at h2; exact decide_eq_false (fun q => Bool.false_ne_true (h2.mp q))
  unfold colB colM
  rw [k1, k2]
  cases zg x p <;> cases bareB P hs sm cn p <;> cases decide (cn p % 5 = c) <;> rfl
def hdB (P : Nat) (hs : Nat → Int32) (sm : Int32) (cn : Nat → Nat) (x y : Int32) : Nat → Bool := fun c => decide (nearN (colM P hs sm cn x c) cn P < 5) && decide (nearN (colM P hs sm cn x c) cn P < farN (colM P hs sm cn y c) cn P)
def hdL (P : Nat) (hs : Nat → Int32) (sm : Int32) (cn : Nat → Nat) (x y : Int32) : Int32 := lsm (fun c => nearN (colM P hs sm cn x c) cn P) (fun c => farN (colM P hs sm cn y c) cn P) 5
theorem e_least {P : Nat} {hs : Nat → Int32} {sm x y : Int32} {cn : Nat → Nat} (hP : P ≤ 6) : zleast (fun c => nearN (colB (x &&& orB (bareB P hs sm cn) P) cn c) cn P) (fun c => farN (colB (y &&& orB (bareB P hs sm cn) P) cn c) cn P) = if zany (hdB P hs sm cn x y) 5 = true then -9 else hdL P hs sm cn x y := by
  have e1 : (fun c => nearN (colB (x &&& orB (bareB P hs sm cn) P) cn c) cn P) = (fun c => nearN (colM P hs sm cn x c) cn P) := by
    funext c
    exact nearN_c (fun p hp => e_col hP hp)
  have e2 : (fun c => farN (colB (y &&& orB (bareB P hs sm cn) P) cn c) cn P) = (fun c => farN (colM P hs sm cn y c) cn P) := by
    funext c
    exact farN_c (fun p hp => e_col hP hp)
  rw [e1, e2]
  rfl
theorem e_hide1 {P : Nat} {hs : Nat → Int32} {sm x y : Int32} {cn : Nat → Nat} {z : Int32} (h : z = if zany (hdB P hs sm cn x y) 5 = true then -9 else hdL P hs sm cn x y) : (if z = -9 then -9 else z) = if zany (hdB P hs sm cn x y) 5 = true then -9 else hdL P hs sm cn x y := by
  rw [h]
  by_cases k : zany (hdB P hs sm cn x y) 5 = true
  · rw [if_pos k, if_pos rfl]
  · rw [if_neg k]
    by_cases q : hdL P hs sm cn x y = -9
    · rw [if_pos q, q]
    · rw [if_neg q]
/-- only the 25 places of the square -/
def s25 (x : Int32) : Prop := ∀ i, 25 ≤ i → i < 32 → zg x i = false
theorem s25_0 : s25 0 := fun i _ _ => zg_zero i
theorem s25_x {x : Int32} {a : Nat} (h : s25 x) (ha : a < 25) : s25 (x ^^^ ((1 : Int32) <<< (nI a &&& 31))) := by
  intro i h1 h2
  rw [zg_xor, h i h1 h2, zg_one a (by omega) i h2, decide_eq_false (by omega)]; rfl
theorem s25_m9 {x : Int32} (h : s25 x) : ¬ x = -9 := by
  intro e
  have := h 25 (by omega) (by omega)
  rw [e] at this
  exact absurd this (by decide)
theorem s25_lsm {nr fr : Nat → Nat} : ∀ n, n ≤ 5 → (∀ c, c < n → nr c < 5 → fr c ≤ nr c) → s25 (lsm nr fr n) := by
  intro n
  induction n with
  | zero => intro _ _; exact s25_0
  | succ n ih =>
    intro hn h i h1 h2
    have hh := ih (by omega) (fun c hc => h c (by omega)) i h1 h2
    by_cases k : nr n < 5
    · have := h n (by omega) k
      rw [lsm_t k, zg_or, hh, zg_one _ (by omega) i h2, decide_eq_false (by omega)]; rfl
    · rw [lsm_f k]; exact hh
theorem e_hdL {P : Nat} {hs : Nat → Int32} {sm x y : Int32} {cn : Nat → Nat} (h : ¬ zany (hdB P hs sm cn x y) 5 = true) : s25 (hdL P hs sm cn x y) := by
  refine s25_lsm 5 (by omega) (fun c hc k => ?_)
  have := zany_n (eq_false_of_ne_true h) hc
  unfold hdB at this
  rw [decide_eq_true k, Bool.true_and] at this
  have := of_decide_eq_false this
  omega
