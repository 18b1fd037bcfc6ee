/-! ways between acts: the class goes in rings, the model fills a table -/
def rrB (a : Nat) (ga gv : Nat → Nat) (R : Nat) : Nat → Nat → Bool
  | 0, x => decide (x = a)
  | n + 1, x => zany (fun k => decide (ga k = x) && rrB a ga gv R n (gv k)) R
def wsp (a : Nat) (ga gv : Nat → Nat) (R : Nat) : Nat → Nat → Int32
  | 0, _ => 99
  | n + 1, x => if wsp a ga gv R n x = 99 ∧ rrB a ga gv R (n + 1) x = true then nI (n + 1) else wsp a ga gv R n x
theorem nI_ne99 {n : Nat} (h : n ≤ 50) : ¬ nI n = 99 := fun e => by
  have := (nI_eq (a := n) (b := 99) (by omega) (by omega)).mp e
  omega
theorem nI_neq {n m : Nat} (hn : n ≤ 50) (hm : m ≤ 50) (h : ¬ n = m) : ¬ nI n = nI m := fun e => h ((nI_eq (by omega) (by omega)).mp e)
theorem wsp_99 {a : Nat} {ga gv : Nat → Nat} {R n x : Nat} (hn : n ≤ 8) : wsp a ga gv R n x = 99 ↔ ∀ m, 1 ≤ m → m ≤ n → rrB a ga gv R m x = false := by
  induction n with
  | zero => exact ⟨fun _ m h1 h2 => by omega, fun _ => rfl⟩
  | succ n ih =>
    have ih := ih (by omega)
    rw [wsp]
    constructor
    · intro h m h1 h2
      split at h
      · exact absurd h (nI_ne99 (by omega))
      · rename_i hq
        by_cases e : m = n + 1
        · subst e
          exact eq_false_of_ne_true (fun z => hq ⟨h, z⟩)
        · exact ih.mp h m h1 (by omega)
    · intro h
      have h1 := ih.mpr (fun m h1 h2 => h m h1 (by omega))
      rw [if_neg (fun q => by rw [h (n + 1) (by omega) (Nat.le_refl _)] at q; exact Bool.false_ne_true q.2)]
      exact h1
theorem wsp_m {a : Nat} {ga gv : Nat → Nat} {R n x m : Nat} (hn : n ≤ 8) (h1 : 1 ≤ m) (h2 : m ≤ n) : wsp a ga gv R n x = nI m ↔ (rrB a ga gv R m x = true ∧ ∀ j, 1 ≤ j → j < m → rrB a ga gv R j x = false) := by
  induction n with
  | zero => omega
  | succ n ih =>
    rw [wsp]
    by_cases e : m = n + 1
    · subst e
      constructor
      · intro h
        split at h
        · rename_i hq
          exact ⟨hq.2, fun j k1 k2 => (wsp_99 (by omega)).mp hq.1 j k1 (by omega)⟩
        · rename_i hq
          exfalso
          have key : ∀ q, q ≤ n → wsp a ga gv R q x = 99 ∨ ∃ r, 1 ≤ r ∧ r ≤ q ∧ wsp a ga gv R q x = nI r := by
            intro q
            induction q with
            | zero => intro _; exact Or.inl rfl
            | succ q iq =>
              intro hq
              rw [wsp]
              split
              · exact Or.inr ⟨q + 1, by omega, Nat.le_refl _, rfl⟩
              · rcases iq (by omega) with g | ⟨r, g1, g2, g3⟩
                · exact Or.inl g
                · exact Or.inr ⟨r, g1, by omega, g3⟩
          rcases key n (Nat.le_refl _) with g | ⟨r, g1, g2, g3⟩
          · rw [g] at h; exact nI_ne99 (n := n + 1) (by omega) h.symm
          · rw [g3] at h; exact nI_neq (by omega) (by omega) (by omega) h
      · rintro ⟨k1, k2⟩
        rw [if_pos ⟨(wsp_99 (by omega)).mpr (fun j j1 j2 => k2 j j1 (by omega)), k1⟩]
    · have ih := ih (by omega) (by omega)
      constructor
      · intro h
        split at h
        · exact absurd h (nI_neq (by omega) (by omega) (by omega))
        · exact ih.mp h
      · intro h
        have g := ih.mpr h
        rw [if_neg (fun q => by rw [g] at q; exact nI_ne99 (by omega) q.1)]
        exact g
def cndB (a n : Nat) (gv : Nat → Nat) (f : Nat → Int32) (k : Nat) : Bool := if n = 1 then decide (gv k = a) else decide (f (gv k) = nI (n - 1))
theorem lwK_x {a n : Nat} {ga gv : Nat → Nat} {f : Nat → Int32} (h1 : 1 ≤ n) (hn : n ≤ 8) : ∀ R x, lwK a n ga gv f R x = if f x = 99 ∧ zany (fun k => decide (ga k = x) && cndB a n gv f k) R = true then nI n else f x := by
  intro R
  induction R with
  | zero => intro x; rw [if_neg (fun q => Bool.false_ne_true q.2)]; rfl
  | succ R ih =>
    intro x
    show lwS a n ga gv (lwK a n ga gv f R) R x = _
    have hc : ((if n = 1 then gv R = a else lwK a n ga gv f R (gv R) = nI (n - 1)) ↔ cndB a n gv f R = true) := by
      unfold cndB
      by_cases e : n = 1
      · rw [if_pos e, if_pos e, decide_eq_true_eq]
      · rw [if_neg e, if_neg e, decide_eq_true_eq, ih (gv R)]
        split
        · rename_i hq
          rw [hq.1]
          exact ⟨fun z => absurd z (nI_neq (by omega) (by omega) (by omega)), fun z => absurd z.symm (nI_ne99 (by omega))⟩
        · exact Iff.rfl
    unfold lwS upd
    rw [zany]
    by_cases e : x = ga R
    · subst e
      rw [if_pos rfl, decide_eq_true rfl, Bool.true_and]
      have := ih (ga R)
      by_cases hf : f (ga R) = 99
      · by_cases hz : zany (fun k => decide (ga k = ga R) && cndB a n gv f k) R = true
        · rw [if_pos ⟨hf, hz⟩] at this
          rw [this, if_neg (fun q => nI_ne99 (n := n) (by omega) q.2), if_pos ⟨hf, by rw [hz]; rfl⟩]
        · rw [if_neg (fun q => hz q.2)] at this
          rw [this, eq_false_of_ne_true hz, Bool.false_or]
          by_cases hd : cndB a n gv f R = true
          · rw [if_pos ⟨hc.mpr hd, hf⟩, if_pos ⟨hf, hd⟩]
          · rw [if_neg (fun q => hd (hc.mp q.1)), if_neg (fun q => hd q.2)]
      · rw [if_neg (fun q => hf q.1)] at this
        rw [this, if_neg (fun q => hf q.2), if_neg (fun q => hf q.1)]
    · rw [if_neg e, decide_eq_false (fun q => e q.symm), Bool.false_and, Bool.or_false]
      exact ih x
theorem lwN_x {a : Nat} {ga gv : Nat → Nat} {R : Nat} : ∀ n, n ≤ 8 → ∀ x, lwN a ga gv R (fun _ => 99) n x = wsp a ga gv R n x := by
  intro n
  induction n with
  | zero => intro _ x; rfl
  | succ n ih =>
    intro hn x
    have ih := ih (by omega)
    have ihf : lwN a ga gv R (fun _ => 99) n = wsp a ga gv R n := funext ih
    show lwK a (n + 1) ga gv (lwN a ga gv R (fun _ => 99) n) R x = _
    rw [ihf, lwK_x (by omega) hn, wsp]
    by_cases h9 : wsp a ga gv R n x = 99
    · have key : zany (fun k => decide (ga k = x) && cndB a (n + 1) gv (wsp a ga gv R n) k) R = rrB a ga gv R (n + 1) x := by
        rw [rrB]
        apply zany_c
        intro k hk
        by_cases e : ga k = x
        · rw [decide_eq_true e, Bool.true_and, Bool.true_and]
          unfold cndB
          cases n with
          | zero => rw [if_pos rfl]; rfl
          | succ n =>
            rw [if_neg (by omega)]
            show decide (wsp a ga gv R (n + 1) (gv k) = nI (n + 1)) = rrB a ga gv R (n + 1) (gv k)
            cases hr : rrB a ga gv R (n + 1) (gv k) with
            | false => exact decide_eq_false (fun q => by rw [((wsp_m (by omega) (by omega) (Nat.le_refl _)).mp q).1] at hr; cases hr)
            | true =>
              refine decide_eq_true ((wsp_m (by omega) (by omega) (Nat.le_refl _)).mpr ⟨hr, fun j j1 j2 => ?_⟩)
              apply eq_false_of_ne_true
              intro hj
              have h9' := (wsp_99 (by omega)).mp h9 (j + 1) (by omega) (by omega)
              have : rrB a ga gv R (j + 1) x = true := by
                rw [rrB]
                exact zany_i hk (by rw [decide_eq_true e, hj]; rfl)
              rw [this] at h9'; cases h9'
        · rw [decide_eq_false e, Bool.false_and, Bool.false_and]
      rw [key]
    · rw [if_neg (fun q => h9 q.1), if_neg (fun q => h9 q.1)]
/-! rings -/
def frB (a : Nat) (ga gv : Nat → Nat) (R n x : Nat) : Bool := rrB a ga gv R n x && !zany (fun m => rrB a ga gv R m x) n
theorem zg_zac {r : Int32} {nr fr : Nat → Int32} {gn gf : Nat → Nat} {R : Nat} (h : ∀ j, j < R → nr j = nI (gn j) ∧ fr j = nI (gf j) ∧ gn j ≤ 7 ∧ gf j ≤ 7) {i : Nat} (hi : i < 32) : zg (zac r nr fr R) i = zany (fun k => decide (gf k = i) && zg r (gn k)) R := by
  induction R with
  | zero => rw [zac, zg_zero]; rfl
  | succ R ih =>
    have ih := ih (fun j hj => h j (by omega))
    obtain ⟨e1, e2, e3, e4⟩ := h R (by omega)
    have hb := zbit_iff r (p := gn R) (by omega)
    rw [zany, ← ih]
    by_cases q : zbit r (nr R) = 1
    · rw [zac_t q, zg_or, e2, zg_one _ (by omega) i hi]
      rw [e1] at q
      rw [hb.mp q, Bool.and_true]
      by_cases e : gf R = i
      · rw [decide_eq_true e, decide_eq_true e.symm]
      · rw [decide_eq_false e, decide_eq_false (fun z => e z.symm)]
    · rw [zac_f q]
      rw [e1] at q
      rw [eq_false_of_ne_true (fun z => q (hb.mpr z)), Bool.and_false, Bool.or_false]
theorem rr_lt {a : Nat} {ga gv : Nat → Nat} {R : Nat} (ha : a ≤ 7) (h : ∀ j, j < R → ga j ≤ 7) {n x : Nat} (hx : rrB a ga gv R n x = true) : x ≤ 7 := by
  cases n with
  | zero => rw [rrB] at hx; have := of_decide_eq_true hx; omega
  | succ n =>
    rw [rrB] at hx
    obtain ⟨k, k1, k2⟩ := zany_t.mp hx
    rw [Bool.and_eq_true] at k2
    have := of_decide_eq_true k2.1
    have := h k k1
    omega
theorem fr_s {a : Nat} {ga gv : Nat → Nat} {R n x : Nat} : (zany (fun k => decide (ga k = x) && frB a ga gv R n (gv k)) R && !zany (fun m => rrB a ga gv R m x) (n + 1)) = frB a ga gv R (n + 1) x := by
  unfold frB
  cases hz : zany (fun m => rrB a ga gv R m x) (n + 1) with
  | true => rw [Bool.not_true, Bool.and_false, Bool.and_false]
  | false =>
    rw [Bool.not_false, Bool.and_true, Bool.and_true, rrB]
    apply zany_c
    intro k hk
    by_cases e : ga k = x
    · rw [decide_eq_true e, Bool.true_and, Bool.true_and]
      cases hr : rrB a ga gv R n (gv k) with
      | false => rfl
      | true =>
        rw [Bool.true_and]
        cases hy : zany (fun m => rrB a ga gv R m (gv k)) n with
        | false => rfl
        | true =>
          exfalso
          obtain ⟨m, m1, m2⟩ := zany_t.mp hy
          have : rrB a ga gv R (m + 1) x = true := by
            rw [rrB]
            exact zany_i hk (by rw [decide_eq_true e, m2]; rfl)
          rw [zany_n hz (i := m + 1) (by omega)] at this
          cases this
    · rw [decide_eq_false e, Bool.false_and, Bool.false_and]
theorem zg_rg {a : Nat} {ga gv : Nat → Nat} {gs vs : Nat → Int32} {R : Nat} (ha : a ≤ 7) (h : ∀ j, j < R → gs j = nI (ga j) ∧ vs j = nI (gv j) ∧ ga j ≤ 7 ∧ gv j ≤ 7) : ∀ n x, x < 32 → zg (zrg (fun r => zac r vs gs R) ((1 : Int32) <<< (nI a &&& 31)) n).1 x = frB a ga gv R n x ∧ zg (zrg (fun r => zac r vs gs R) ((1 : Int32) <<< (nI a &&& 31)) n).2 x = zany (fun m => rrB a ga gv R m x) (n + 1) := by
  intro n
  induction n with
  | zero =>
    intro x hx
    have e0 : zg ((1 : Int32) <<< (nI a &&& 31)) x = decide (x = a) := zg_one a (by omega) x hx
    refine ⟨?_, ?_⟩
    · show zg ((1 : Int32) <<< (nI a &&& 31)) x = (decide (x = a) && !false)
      rw [e0, Bool.not_false, Bool.and_true]
    · show zg ((1 : Int32) <<< (nI a &&& 31)) x = (false || decide (x = a))
      rw [e0, Bool.false_or]
  | succ n ih =>
    intro x hx
    have e1 : zg (zac (zrg (fun r => zac r vs gs R) ((1 : Int32) <<< (nI a &&& 31)) n).1 vs gs R) x = zany (fun k => decide (ga k = x) && frB a ga gv R n (gv k)) R := by
      rw [zg_zac (gn := gv) (gf := ga) (fun j hj => ⟨(h j hj).2.1, (h j hj).1, (h j hj).2.2.2, (h j hj).2.2.1⟩) hx]
      apply zany_c
      intro k hk
      rw [(ih (gv k) (by have := (h k hk).2.2.2; omega)).1]
    have e2 : zg (zac (zrg (fun r => zac r vs gs R) ((1 : Int32) <<< (nI a &&& 31)) n).1 vs gs R &&& ((zrg (fun r => zac r vs gs R) ((1 : Int32) <<< (nI a &&& 31)) n).2 ^^^ -1)) x = frB a ga gv R (n + 1) x := by
      rw [zg_and, e1, zg_not _ hx, (ih x hx).2, fr_s]
    refine ⟨e2, ?_⟩
    show zg ((zrg (fun r => zac r vs gs R) ((1 : Int32) <<< (nI a &&& 31)) n).2 ||| (zac (zrg (fun r => zac r vs gs R) ((1 : Int32) <<< (nI a &&& 31)) n).1 vs gs R &&& ((zrg (fun r => zac r vs gs R) ((1 : Int32) <<< (nI a &&& 31)) n).2 ^^^ -1))) x = _
    rw [zg_or, e2, (ih x hx).2]
    show _ = (zany (fun m => rrB a ga gv R m x) (n + 1) || rrB a ga gv R (n + 1) x)
    unfold frB
    cases zany (fun m => rrB a ga gv R m x) (n + 1) <;> cases rrB a ga gv R (n + 1) x <;> rfl
