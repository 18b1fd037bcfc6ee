theorem zct_mono {f g : Nat → Bool} {n : Nat} (h : ∀ i, i < n → f i = true → g i = true) : zct f n ≤ zct g n := by
  induction n with
  | zero => exact Nat.le_refl _
  | succ n ih =>
    have ih := ih (fun i hi => h i (by omega))
    cases hf : f n with
    | true => rw [zct_t hf, zct_t (h n (by omega) hf)]; omega
    | false =>
      rw [zct_f hf]
      cases hg : g n with
      | true => rw [zct_t hg]; omega
      | false => rw [zct_f hg]; exact ih
theorem zct_more {f g : Nat → Bool} {n x : Nat} (h : ∀ i, i < n → f i = true → g i = true) (hx : x < n) (h1 : f x = false) (h2 : g x = true) : zct f n + 1 ≤ zct g n := by
  induction n with
  | zero => omega
  | succ n ih =>
    have hm : zct f n ≤ zct g n := zct_mono (fun i hi => h i (by omega))
    by_cases e : x = n
    · subst e; rw [zct_f h1, zct_t h2]; omega
    · have ih := ih (fun i hi => h i (by omega)) (by omega)
      cases hf : f n with
      | true => rw [zct_t hf, zct_t (h n (by omega) hf)]; omega
      | false =>
        rw [zct_f hf]
        cases hg : g n with
        | true => rw [zct_t hg]; omega
        | false => rw [zct_f hg]; exact ih
theorem fr_cnt {a : Nat} {ga gv : Nat → Nat} {R : Nat} (ha : a ≤ 7) (h : ∀ j, j < R → ga j ≤ 7) : ∀ n x, frB a ga gv R n x = true → n + 1 ≤ zct (fun y => zany (fun m => rrB a ga gv R m y) (n + 1)) 8 := by
  intro n
  induction n with
  | zero =>
    intro x hx
    have : zct (fun _ => false) 8 + 1 ≤ zct (fun y => zany (fun m => rrB a ga gv R m y) (0 + 1)) 8 := zct_more (x := a) (fun i _ q => absurd q Bool.false_ne_true) (by omega) rfl (zany_i (i := 0) (by omega) (by rw [rrB]; exact decide_eq_true rfl))
    omega
  | succ n ih =>
    intro x hx
    rw [← fr_s, Bool.and_eq_true, Bool.not_eq_true'] at hx
    obtain ⟨k, k1, k2⟩ := zany_t.mp hx.1
    rw [Bool.and_eq_true] at k2
    have hi := ih (gv k) k2.2
    have hr : rrB a ga gv R (n + 1) x = true := by
      rw [rrB]
      refine zany_i k1 ?_
      rw [k2.1, Bool.true_and]
      have := k2.2
      unfold frB at this
      rw [Bool.and_eq_true] at this
      exact this.1
    have hx7 := rr_lt ha h hr
    have := zct_more (f := fun y => zany (fun m => rrB a ga gv R m y) (n + 1)) (g := fun y => zany (fun m => rrB a ga gv R m y) (n + 1 + 1)) (n := 8) (x := x) (fun i _ q => by rw [zany, q]; rfl) (by omega) hx.2 (zany_i (i := n + 1) (by omega) hr)
    omega
theorem fr_7 {a : Nat} {ga gv : Nat → Nat} {R : Nat} (ha : a ≤ 7) (h : ∀ j, j < R → ga j ≤ 7) {n x : Nat} (hx : frB a ga gv R n x = true) : n ≤ 7 := by
  have h1 := fr_cnt ha h n x hx
  have h2 := zct_le (fun y => zany (fun m => rrB a ga gv R m y) (n + 1)) 8
  omega
theorem fr_w {a : Nat} {ga gv : Nat → Nat} {R i x : Nat} (hx : ¬ x = a) (h1 : 1 ≤ i) (h8 : i ≤ 8) : frB a ga gv R i x = true ↔ wsp a ga gv R 8 x = nI i := by
  rw [wsp_m (by omega) h1 h8]
  unfold frB
  rw [Bool.and_eq_true, Bool.not_eq_true']
  constructor
  · rintro ⟨k1, k2⟩
    exact ⟨k1, fun j j1 j2 => zany_n k2 j2⟩
  · rintro ⟨k1, k2⟩
    refine ⟨k1, zany_f (fun j hj => ?_)⟩
    by_cases e : j = 0
    · subst e; rw [rrB]; exact decide_eq_false hx
    · exact k2 j (by omega) hj
theorem wsp_c {a : Nat} {ga gv : Nat → Nat} {R x : Nat} : ∀ q, wsp a ga gv R q x = 99 ∨ ∃ r, 1 ≤ r ∧ r ≤ q ∧ wsp a ga gv R q x = nI r := by
  intro q
  induction q with
  | zero => exact Or.inl rfl
  | succ q iq =>
    rw [wsp]
    split
    · exact Or.inr ⟨q + 1, by omega, Nat.le_refl _, rfl⟩
    · rcases iq with g | ⟨r, g1, g2, g3⟩
      · exact Or.inl g
      · exact Or.inr ⟨r, g1, by omega, g3⟩
theorem nI_l99 {m : Nat} (h : m ≤ 50) : nI m < 99 := (nI_ltI (a := m) (b := 99) (by omega) (by omega)).mpr (by omega)
theorem lad_eq {a : Nat} {ga gv : Nat → Nat} {gs vs own : Nat → Int32} {R : Nat} (ha : a ≤ 7) (h : ∀ j, j < R → gs j = nI (ga j) ∧ vs j = nI (gv j) ∧ ga j ≤ 7 ∧ gv j ≤ 7) (i : Nat) : zlad own (zrg (fun r => zac r vs gs R) ((1 : Int32) <<< (nI a &&& 31)) i).1 = zfs (fun x => frB a ga gv R i x && decide (¬ own x = -9)) own 8 := by
  unfold zlad
  apply zfs_c
  intro x hx
  refine ⟨?_, rfl⟩
  have k := zbit_iff (zrg (fun r => zac r vs gs R) ((1 : Int32) <<< (nI a &&& 31)) i).1 (p := x) (by omega)
  rw [(zg_rg ha h i x (by omega)).1] at k
  cases hf : frB a ga gv R i x with
  | true => rw [hf] at k; rw [decide_eq_true (k.mpr rfl)]
  | false => rw [hf] at k; rw [decide_eq_false (fun q => Bool.false_ne_true (k.mp q))]
theorem e_who {a : Nat} {ga gv : Nat → Nat} {gs vs own : Nat → Int32} {R : Nat} (ha : a ≤ 7) (h : ∀ j, j < R → gs j = nI (ga j) ∧ vs j = nI (gv j) ∧ ga j ≤ 7 ∧ gv j ≤ 7) : zwho (fun r => zac r vs gs R) own ((1 : Int32) <<< (nI a &&& 31)) = zmh (lwA a ga gv R) own a := by
  have hW : ∀ x, lwA a ga gv R x = wsp a ga gv R 8 x := fun x => lwN_x 8 (by omega) x
  have hL := lad_eq (own := own) ha h
  have hg : ∀ j, j < R → ga j ≤ 7 := fun j hj => (h j hj).2.2.1
  unfold zwho zmh
  by_cases h0 : own a = -9
  · rw [if_pos h0]
    have hna : ∀ x, ¬ own x = -9 → ¬ x = a := fun x hx e => hx (e ▸ h0)
    have hfr0 : ∀ x, ¬ own x = -9 → frB a ga gv R 0 x = false := fun x hx => by
      unfold frB; rw [rrB, decide_eq_false (hna x hx)]; rfl
    by_cases hex : ∃ m, ∃ x, x < 8 ∧ ¬ own x = -9 ∧ 1 ≤ m ∧ m ≤ 8 ∧ wsp a ga gv R 8 x = nI m
    · obtain ⟨m, ⟨x0, y1, y2, y3, y4, y5⟩, hmin⟩ := pk_least _ hex
      obtain ⟨x, ⟨x1, x2, x5⟩, hxm⟩ := pk_least (fun x => x < 8 ∧ ¬ own x = -9 ∧ wsp a ga gv R 8 x = nI m) ⟨x0, y1, y2, y5⟩
      have hfx : frB a ga gv R m x = true := (fr_w (hna x x2) y3 y4).mpr x5
      have hm7 := fr_7 ha hg hfx
      -- the model's table
      have hz : ∀ k, k ≤ 8 → (k ≤ x → nI m < (zfw (lwA a ga gv R) own k).1) ∧ (x < k → zfw (lwA a ga gv R) own k = (nI m, own x)) := by
        intro k
        induction k with
        | zero => intro _; exact ⟨fun _ => nI_l99 (by omega), fun q => by omega⟩
        | succ k ih =>
          intro hk
          obtain ⟨i1, i2⟩ := ih (by omega)
          have hge : ¬ own k = -9 → (wsp a ga gv R 8 k = 99 ∨ ∃ r, m ≤ r ∧ r ≤ 8 ∧ wsp a ga gv R 8 k = nI r) := by
            intro ho
            rcases wsp_c (a := a) (ga := ga) (gv := gv) (R := R) (x := k) 8 with g | ⟨r, g1, g2, g3⟩
            · exact Or.inl g
            · refine Or.inr ⟨r, ?_, g2, g3⟩
              apply Nat.le_of_not_lt
              intro hr
              exact hmin r hr ⟨k, by omega, ho, g1, g2, g3⟩
          refine ⟨fun hkx => ?_, fun hxk => ?_⟩
          · have i1 := i1 (by omega)
            rw [zfw]
            split
            · rename_i hq
              show nI m < lwA a ga gv R k
              rw [hW]
              rcases hge hq.1 with g | ⟨r, g1, g2, g3⟩
              · rw [g]; exact nI_l99 (by omega)
              · rw [g3]
                refine (nI_ltI (by omega) (by omega)).mpr ?_
                have : ¬ r = m := fun e => hxm k (by omega) ⟨by omega, hq.1, by rw [g3, e]⟩
                omega
            · exact i1
          · rw [zfw]
            by_cases e : x = k
            · subst e
              rw [if_pos ⟨x2, by rw [hW, x5]; exact i1 (Nat.le_refl _)⟩, hW, x5]
            · rw [i2 (by omega), if_neg]
              rintro ⟨q1, q2⟩
              rw [hW] at q2
              rcases hge q1 with g | ⟨r, g1, g2, g3⟩
              · rw [g] at q2
                have := nI_l99 (m := m) (by omega)
                exact absurd q2 (Int32.not_lt.mpr (Int32.le_of_lt this))
              · rw [g3] at q2
                have := (nI_ltI (by omega) (by omega)).mp q2
                omega
      rw [(hz 8 (Nat.le_refl _)).2 x1]
      have hlm : zlad own (zrg (fun r => zac r vs gs R) ((1 : Int32) <<< (nI a &&& 31)) m).1 = own x := by
        rw [hL m]
        refine zfs_at x1 (by rw [hfx, decide_eq_true x2]; rfl) (fun j hj => ?_)
        by_cases ho : own j = -9
        · rw [decide_eq_false (fun q => q ho), Bool.and_false]
        · cases hf : frB a ga gv R m j with
          | false => rfl
          | true => exact absurd ⟨by omega, ho, (fr_w (hna j ho) y3 y4).mp hf⟩ (hxm j hj)
      have hz2 := zfs_at (f := fun i => decide (¬ zlad own (zrg (fun r => zac r vs gs R) ((1 : Int32) <<< (nI a &&& 31)) i).1 = -9)) (v := fun i => zlad own (zrg (fun r => zac r vs gs R) ((1 : Int32) <<< (nI a &&& 31)) i).1) (n := 8) (i := m) (by omega) (decide_eq_true (by rw [hlm]; exact x2)) (fun j hj => by
        refine decide_eq_false (fun q => q ?_)
        rw [hL j]
        refine zfs_no (fun y hy => ?_)
        by_cases ho : own y = -9
        · rw [decide_eq_false (fun q => q ho), Bool.and_false]
        · by_cases e : j = 0
          · subst e; rw [hfr0 y ho]; rfl
          · cases hf : frB a ga gv R j y with
            | false => rfl
            | true => exact absurd ⟨y, hy, ho, by omega, by omega, (fr_w (hna y ho) (by omega) (by omega)).mp hf⟩ (hmin j hj))
      rw [hz2]
      exact hlm
    · have hno : ∀ y, y < 8 → ¬ own y = -9 → wsp a ga gv R 8 y = 99 := by
        intro y hy ho
        rcases wsp_c (a := a) (ga := ga) (gv := gv) (R := R) (x := y) 8 with g | ⟨r, g1, g2, g3⟩
        · exact g
        · exact absurd ⟨r, y, hy, ho, g1, g2, g3⟩ hex
      have hz : ∀ k, k ≤ 8 → zfw (lwA a ga gv R) own k = (99, -9) := by
        intro k
        induction k with
        | zero => intro _; rfl
        | succ k ih =>
          intro hk
          rw [zfw, ih (by omega), if_neg]
          rintro ⟨q1, q2⟩
          rw [hW, hno k (by omega) q1] at q2
          exact absurd q2 (by decide)
      rw [hz 8 (Nat.le_refl _)]
      refine zfs_no (fun j hj => decide_eq_false (fun q => q ?_))
      rw [hL j]
      refine zfs_no (fun y hy => ?_)
      by_cases ho : own y = -9
      · rw [decide_eq_false (fun q => q ho), Bool.and_false]
      · by_cases e : j = 0
        · subst e; rw [hfr0 y ho]; rfl
        · cases hf : frB a ga gv R j y with
          | false => rfl
          | true =>
            have := (fr_w (hna y ho) (by omega) (by omega)).mp hf
            rw [hno y hy ho] at this
            exact absurd this.symm (nI_ne99 (by omega))
  · rw [if_neg h0]
    have hl0 : zlad own (zrg (fun r => zac r vs gs R) ((1 : Int32) <<< (nI a &&& 31)) 0).1 = own a := by
      rw [hL 0]
      refine zfs_at (by omega) ?_ (fun j hj => ?_)
      · unfold frB
        rw [rrB, decide_eq_true rfl, decide_eq_true h0]; rfl
      · unfold frB
        rw [rrB, decide_eq_false (by omega)]; rfl
    have hz2 := zfs_at (f := fun i => decide (¬ zlad own (zrg (fun r => zac r vs gs R) ((1 : Int32) <<< (nI a &&& 31)) i).1 = -9)) (v := fun i => zlad own (zrg (fun r => zac r vs gs R) ((1 : Int32) <<< (nI a &&& 31)) i).1) (n := 8) (i := 0) (by omega) (decide_eq_true (by rw [hl0]; exact h0)) (fun j hj => by omega)
    rw [hz2]
    exact hl0
/-! an act that comes back to itself -/
theorem rr_snoc {ga gv : Nat → Nat} {R : Nat} : ∀ n b x, rrB b ga gv R (n + 1) x = zany (fun k => decide (gv k = b) && rrB (ga k) ga gv R n x) R := by
  intro n
  induction n with
  | zero =>
    intro b x
    rw [rrB]
    apply zany_c
    intro k hk
    rw [rrB, rrB, Bool.and_comm]
    by_cases e : ga k = x
    · rw [decide_eq_true e, decide_eq_true e.symm]
    · rw [decide_eq_false e, decide_eq_false (p := x = ga k) (fun q => e q.symm)]
  | succ n ih =>
    intro b x
    have e1 : rrB b ga gv R (n + 1 + 1) x = true ↔ zany (fun k => decide (gv k = b) && rrB (ga k) ga gv R (n + 1) x) R = true := by
      rw [rrB, zany_t, zany_t]
      constructor
      · rintro ⟨k, k1, k2⟩
        rw [Bool.and_eq_true, ih] at k2
        obtain ⟨j, j1, j2⟩ := zany_t.mp k2.2
        rw [Bool.and_eq_true] at j2
        refine ⟨j, j1, ?_⟩
        rw [Bool.and_eq_true, rrB]
        exact ⟨j2.1, zany_i k1 (by rw [k2.1, j2.2]; rfl)⟩
      · rintro ⟨j, j1, j2⟩
        rw [Bool.and_eq_true, rrB] at j2
        obtain ⟨k, k1, k2⟩ := zany_t.mp j2.2
        rw [Bool.and_eq_true] at k2
        refine ⟨k, k1, ?_⟩
        rw [Bool.and_eq_true, ih]
        exact ⟨k2.1, zany_i j1 (by rw [j2.1, k2.2]; rfl)⟩
    exact Bool.eq_iff_iff.mpr e1
theorem zg_rc {a : Nat} {ga gv : Nat → Nat} {gs vs : Nat → Int32} {R : Nat} (ha : a ≤ 7) (h : ∀ j, j < R → gs j = nI (ga j) ∧ vs j = nI (gv j) ∧ ga j ≤ 7 ∧ gv j ≤ 7) : ∀ n y, y < 32 → zg (zrc (fun r => zac r gs vs R) (zac ((1 : Int32) <<< (nI a &&& 31)) gs vs R) n) y = zany (fun m => rrB y ga gv R (m + 1) a) (n + 1) := by
  have hz : ∀ r y, y < 32 → zg (zac r gs vs R) y = zany (fun k => decide (gv k = y) && zg r (ga k)) R := fun r y hy => zg_zac (gn := ga) (gf := gv) (fun j hj => ⟨(h j hj).1, (h j hj).2.1, (h j hj).2.2.1, (h j hj).2.2.2⟩) hy
  intro n
  induction n with
  | zero =>
    intro y hy
    show zg (zac ((1 : Int32) <<< (nI a &&& 31)) gs vs R) y = (false || rrB y ga gv R (0 + 1) a)
    rw [Bool.false_or, rr_snoc, hz _ y hy]
    apply zany_c
    intro k hk
    rw [zg_one a (by omega) (ga k) (by have := (h k hk).2.2.1; omega), rrB]
    by_cases e : a = ga k
    · rw [decide_eq_true e, decide_eq_true e.symm]
    · rw [decide_eq_false e, decide_eq_false (p := ga k = a) (fun q => e q.symm)]
  | succ n ih =>
    intro y hy
    show zg (zrc (fun r => zac r gs vs R) (zac ((1 : Int32) <<< (nI a &&& 31)) gs vs R) n ||| zac (zrc (fun r => zac r gs vs R) (zac ((1 : Int32) <<< (nI a &&& 31)) gs vs R) n) gs vs R) y = _
    rw [zg_or, ih y hy, hz _ y hy]
    apply Bool.eq_iff_iff.mpr
    rw [Bool.or_eq_true, zany_t, zany_t, zany_t]
    constructor
    · rintro (⟨m, m1, m2⟩ | ⟨k, k1, k2⟩)
      · exact ⟨m, by omega, m2⟩
      · rw [Bool.and_eq_true, ih (ga k) (by have := (h k k1).2.2.1; omega)] at k2
        obtain ⟨m, m1, m2⟩ := zany_t.mp k2.2
        refine ⟨m + 1, by omega, ?_⟩
        rw [rr_snoc]
        exact zany_i k1 (by rw [k2.1, m2]; rfl)
    · rintro ⟨m, m1, m2⟩
      by_cases e : m < n + 1
      · exact Or.inl ⟨m, e, m2⟩
      · have : m = n + 1 := by omega
        subst this
        rw [rr_snoc] at m2
        obtain ⟨k, k1, k2⟩ := zany_t.mp m2
        rw [Bool.and_eq_true] at k2
        refine Or.inr ⟨k, k1, ?_⟩
        rw [Bool.and_eq_true, ih (ga k) (by have := (h k k1).2.2.1; omega)]
        exact ⟨k2.1, zany_i (i := n) (by omega) k2.2⟩
theorem e_back {a : Nat} {ga gv : Nat → Nat} {gs vs : Nat → Int32} {R : Nat} (ha : a ≤ 7) (h : ∀ j, j < R → gs j = nI (ga j) ∧ vs j = nI (gv j) ∧ ga j ≤ 7 ∧ gv j ≤ 7) : decide (zbit (zrc (fun r => zac r gs vs R) (zac ((1 : Int32) <<< (nI a &&& 31)) gs vs R) 8) (nI a) = 1) = decide (lwA a ga gv R a < 99) := by
  have hW : lwA a ga gv R a = wsp a ga gv R 8 a := lwN_x 8 (by omega) a
  have hg : ∀ j, j < R → ga j ≤ 7 := fun j hj => (h j hj).2.2.1
  apply decide_eq_decide.mpr
  rw [zbit_iff _ (by omega), zg_rc ha h 8 a (by omega), zany_t, hW]
  constructor
  · rintro ⟨m, m1, m2⟩
    rcases wsp_c (a := a) (ga := ga) (gv := gv) (R := R) (x := a) 8 with g | ⟨r, g1, g2, g3⟩
    · exfalso
      have hf := (wsp_99 (by omega)).mp g
      by_cases e : m < 8
      · rw [hf (m + 1) (by omega) (by omega)] at m2; cases m2
      · have : m = 8 := by omega
        subst this
        rw [rrB] at m2
        obtain ⟨k, k1, k2⟩ := zany_t.mp m2
        rw [Bool.and_eq_true] at k2
        obtain ⟨d, d1, d2⟩ := pk_least (fun d => rrB a ga gv R d (gv k) = true) ⟨8, k2.2⟩
        have hfr : frB a ga gv R d (gv k) = true := by
          unfold frB
          rw [d1, zany_f (fun j hj => eq_false_of_ne_true (d2 j hj))]; rfl
        have hd := fr_7 ha hg hfr
        have : rrB a ga gv R (d + 1) a = true := by
          rw [rrB]
          exact zany_i k1 (by rw [k2.1, d1]; rfl)
        rw [hf (d + 1) (by omega) (by omega)] at this; cases this
    · rw [g3]; exact nI_l99 (by omega)
  · intro hl
    rcases wsp_c (a := a) (ga := ga) (gv := gv) (R := R) (x := a) 8 with g | ⟨r, g1, g2, g3⟩
    · rw [g] at hl; exact absurd hl (by decide)
    · have := ((wsp_m (by omega) g1 g2).mp g3).1
      refine ⟨r - 1, by omega, ?_⟩
      rw [show r - 1 + 1 = r by omega]
      exact this
