/-! what the class and the model hold of the square now, and of what was before -/
def NwR (P D N : Nat) (sm : Int32) (ce de ke f : Nat → Int32) : Prop :=
  (f 0 = nI D ∧ f 1 = sm ∧ f 2 = nI N) ∧ (D ≤ 99 ∧ N ≤ 12 ∧ s25 sm) ∧ (∀ j, j < P → ∃ q, q ≤ 26 ∧ ce j = nI q ∧ f (3 + j) = nI q) ∧ (∀ q, q < N * 5 → de q = f (9 + q)) ∧ (∀ d, d < D → ke d = f (69 + d)) ∧ (∀ i, i < N → ∃ q, q < P ∧ de (i * 5 + 0) = nI q)
theorem NwR_c {P D N : Nat} {sm : Int32} {ce de ke f ce2 de2 ke2 f2 : Nat → Int32} (hP : P ≤ 6) (h1 : ∀ j, j < 6 → ce2 j = ce j) (h2 : ∀ q, q < N * 5 → de2 q = de q) (h3 : ∀ d, d < D → ke2 d = ke d) (h4 : ∀ i, i < 168 → f2 i = f i) (h : NwR P D N sm ce de ke f) : NwR P D N sm ce2 de2 ke2 f2 := by
  obtain ⟨⟨a1, a2, a3⟩, ⟨b1, b2, b3⟩, c, d, e, g⟩ := h
  refine ⟨⟨by rw [h4 0 (by omega)]; exact a1, by rw [h4 1 (by omega)]; exact a2, by rw [h4 2 (by omega)]; exact a3⟩, ⟨b1, b2, b3⟩, fun j hj => ?_, fun q hq => ?_, fun q hq => ?_, fun i hi => ?_⟩
  · obtain ⟨q, q1, q2, q3⟩ := c j hj
    exact ⟨q, q1, by rw [h1 j (by omega)]; exact q2, by rw [h4 _ (by omega)]; exact q3⟩
  · rw [h2 q hq, h4 _ (by omega)]; exact d q hq
  · rw [h3 q hq, h4 _ (by omega)]; exact e q hq
  · obtain ⟨q, q1, q2⟩ := g i hi
    exact ⟨q, q1, by rw [h2 _ (by omega)]; exact q2⟩
theorem NwR_cn {P D N : Nat} {sm : Int32} {ce de ke f : Nat → Int32} (h : NwR P D N sm ce de ke f) : ∃ cn : Nat → Nat, (∀ j, j < P → ce j = nI (cn j) ∧ cn j ≤ 26) ∧ (∀ j, j < P → f (3 + j) = nI (cn j) ∧ cn j ≤ 26) := by
  have key : ∀ j, j < P → ce j = nI (ce j).toInt.toNat ∧ (ce j).toInt.toNat ≤ 26 ∧ f (3 + j) = ce j := by
    intro j hj
    obtain ⟨q, q1, q2, q3⟩ := h.2.2.1 j hj
    have : (ce j).toInt.toNat = q := by rw [q2, nI_toInt (by omega)]; omega
    rw [this]
    exact ⟨q2, q1, by rw [q3, q2]⟩
  exact ⟨fun j => (ce j).toInt.toNat, fun j hj => ⟨(key j hj).1, (key j hj).2.1⟩, fun j hj => ⟨(key j hj).2.2.trans (key j hj).1, (key j hj).2.1⟩⟩
def UnR (x y z : Int32) (D N : Nat) (sm : Int32) (ce : Nat → Int32) (D' N' : Nat) (sm' : Int32) (ce' : Nat → Int32) : Prop :=
  (x = 0 ∧ (∃ q, q < 6 ∧ y = nI q ∧ ce' = upd ce q z) ∧ D' = D ∧ N' = N ∧ sm' = sm) ∨
  (x = 1 ∧ D' = D ∧ N' = N ∧ sm' = z ∧ ce' = ce) ∨
  (x = 2 ∧ D' = D ∧ (z = nI N' ∧ N' ≤ N) ∧ sm' = sm ∧ ce' = ce) ∨
  (x = 3 ∧ (1 ≤ D ∧ D' = D - 1) ∧ N' = N ∧ sm' = z ∧ ce' = ce)
theorem UnR_le {x y z : Int32} {D N : Nat} {sm : Int32} {ce : Nat → Int32} {D' N' : Nat} {sm' : Int32} {ce' : Nat → Int32} (h : UnR x y z D N sm ce D' N' sm' ce') : D' ≤ D ∧ N' ≤ N := by
  rcases h with ⟨_, _, h1, h2, _⟩ | ⟨_, h1, h2, _⟩ | ⟨_, h1, ⟨_, h2⟩, _⟩ | ⟨_, ⟨_, h1⟩, h2, _⟩ <;> omega
theorem UnR_c {x y z : Int32} {D N : Nat} {sm : Int32} {ce ce2 : Nat → Int32} {D' N' : Nat} {sm' : Int32} {ce' : Nat → Int32} (hc : ∀ j, j < 6 → ce2 j = ce j) (h : UnR x y z D N sm ce D' N' sm' ce') : ∃ ce3, (∀ j, j < 6 → ce3 j = ce' j) ∧ UnR x y z D N sm ce2 D' N' sm' ce3 := by
  rcases h with ⟨h0, ⟨q, q1, q2, q3⟩, h1⟩ | ⟨h0, h1, h2, h3, h4⟩ | ⟨h0, h1, h2, h3, h4⟩ | ⟨h0, h1, h2, h3, h4⟩
  · refine ⟨upd ce2 q z, fun j hj => ?_, Or.inl ⟨h0, ⟨q, q1, q2, rfl⟩, h1⟩⟩
    rw [q3]
    unfold upd
    by_cases e : j = q
    · rw [if_pos e, if_pos e]
    · rw [if_neg e, if_neg e]; exact hc j hj
  · exact ⟨ce2, fun j hj => by rw [h4]; exact hc j hj, Or.inr (Or.inl ⟨h0, h1, h2, h3, rfl⟩)⟩
  · exact ⟨ce2, fun j hj => by rw [h4]; exact hc j hj, Or.inr (Or.inr (Or.inl ⟨h0, h1, h2, h3, rfl⟩))⟩
  · exact ⟨ce2, fun j hj => by rw [h4]; exact hc j hj, Or.inr (Or.inr (Or.inr ⟨h0, h1, h2, h3, rfl⟩))⟩
def HiR (P : Nat) (de ke se g : Nat → Int32) : Nat → Nat → Nat → Int32 → (Nat → Int32) → Prop
  | 0, _, _, _, _ => True
  | K + 1, D, N, sm, ce => ∃ D' N' sm' ce', UnR (se (K * 3)) (se (K * 3 + 1)) (se (K * 3 + 2)) D N sm ce D' N' sm' ce' ∧ NwR P D' N' sm' ce' de ke (fun i => g (169 + 168 * K + i)) ∧ HiR P de ke se g K D' N' sm' ce'
theorem HiR_c {P : Nat} {de ke se g de2 ke2 se2 g2 : Nat → Int32} (hP : P ≤ 6) : ∀ K D N sm ce ce2, (∀ j, j < 6 → ce2 j = ce j) → (∀ q, q < N * 5 → de2 q = de q) → (∀ d, d < D → ke2 d = ke d) → (∀ j, j < K * 3 → se2 j = se j) → (∀ i, 169 ≤ i → i < 169 + 168 * K → g2 i = g i) → HiR P de ke se g K D N sm ce → HiR P de2 ke2 se2 g2 K D N sm ce2 := by
  intro K
  induction K with
  | zero => intro D N sm ce ce2 _ _ _ _ _ _; exact trivial
  | succ K ih =>
    intro D N sm ce ce2 h1 h2 h3 h4 h5 h
    obtain ⟨D', N', sm', ce', u, w, v⟩ := h
    have hl := UnR_le u
    obtain ⟨ce3, c1, c2⟩ := UnR_c h1 u
    have h2' : ∀ q, q < N' * 5 → de2 q = de q := fun q hq => h2 q (by omega)
    have h3' : ∀ d, d < D' → ke2 d = ke d := fun d hd => h3 d (by omega)
    refine ⟨D', N', sm', ce3, ?_, NwR_c hP c1 h2' h3' (fun i hi => h5 _ (by omega) (by omega)) w, ih D' N' sm' ce' ce3 c1 h2' h3' (fun j hj => h4 j (by omega)) (fun i i1 i2 => h5 i i1 (by omega)) v⟩
    rw [h4 (K * 3) (by omega), h4 (K * 3 + 1) (by omega), h4 (K * 3 + 2) (by omega)]
    exact c2
theorem HiR_sh {P : Nat} {de ke se g : Nat → Int32} : ∀ K D N sm ce, HiR P de ke se g (K + 1) D N sm ce → HiR P de ke (fun j => se (3 + j)) (fun i => g (168 + i)) K D N sm ce := by
  intro K
  induction K with
  | zero => intro D N sm ce _; exact trivial
  | succ K ih =>
    intro D N sm ce h
    obtain ⟨D', N', sm', ce', u, w, v⟩ := h
    refine ⟨D', N', sm', ce', ?_, ?_, ih D' N' sm' ce' v⟩
    · show UnR (se (3 + K * 3)) (se (3 + (K * 3 + 1))) (se (3 + (K * 3 + 2))) D N sm ce D' N' sm' ce'
      rw [show 3 + K * 3 = (K + 1) * 3 by omega, show 3 + (K * 3 + 1) = (K + 1) * 3 + 1 by omega, show 3 + (K * 3 + 2) = (K + 1) * 3 + 2 by omega]
      exact u
    · have : (fun i => g (168 + (169 + 168 * K + i))) = (fun i => g (169 + 168 * (K + 1) + i)) := funext (fun i => congrArg g (by omega))
      show NwR P D' N' sm' ce' de ke (fun i => g (168 + (169 + 168 * K + i)))
      rw [this]
      exact w
def RS (P D N K : Nat) (sm : Int32) (ce de ke se f : Nat → Int32) : Prop := K ≤ 10 ∧ f 168 = nI K ∧ NwR P D N sm ce de ke f ∧ HiR P de ke se f K D N sm ce
theorem RS_c {P D N K : Nat} {sm : Int32} {ce de ke se f ce2 de2 ke2 se2 f2 : Nat → Int32} (hP : P ≤ 6) (h1 : ∀ j, j < 6 → ce2 j = ce j) (h2 : ∀ q, q < 60 → de2 q = de q) (h3 : ∀ d, d < 99 → ke2 d = ke d) (h4 : ∀ j, j < 30 → se2 j = se j) (h5 : ∀ i, i < 1849 → f2 i = f i) (h : RS P D N K sm ce de ke se f) : RS P D N K sm ce2 de2 ke2 se2 f2 := by
  obtain ⟨a, b, c, d⟩ := h
  have hb := c.2.1
  refine ⟨a, by rw [h5 168 (by omega)]; exact b, NwR_c hP h1 (fun q hq => h2 q (by omega)) (fun d hd => h3 d (by omega)) (fun i hi => h5 i (by omega)) c, HiR_c hP K D N sm ce ce2 h1 (fun q hq => h2 q (by omega)) (fun d hd => h3 d (by omega)) (fun j hj => h4 j (by omega)) (fun i i1 i2 => h5 i (by omega)) d⟩
theorem zkp_168 {K : Nat} {s : Nat → Int32} : zkp K s 168 = nI (zk9 K + 1) := by unfold zkp; rw [pk_us]
theorem push {P D N K : Nat} {sm : Int32} {ce de ke se f : Nat → Int32} {D1 N1 : Nat} {sm1 x y z : Int32} {ce1 de1 ke1 g2 : Nat → Int32} (hP : P ≤ 6) (h : RS P D N K sm ce de ke se f) (u : UnR x y z D1 N1 sm1 ce1 D N sm ce) (h2 : ∀ q, q < N * 5 → de1 q = de q) (h3 : ∀ d, d < D → ke1 d = ke d) (hg : ∀ i, 169 ≤ i → i < 1849 → g2 i = zkp K f i) : HiR P de1 ke1 (zse K se x y z) g2 (zk9 K + 1) D1 N1 sm1 ce1 := by
  obtain ⟨hK, h168, w, v⟩ := h
  have hk9 := zk9_lt K
  refine ⟨D, N, sm, ce, ?_, ?_, ?_⟩
  · have e0 : zse K se x y z (zk9 K * 3) = x := by unfold zse; rw [pk_un (by omega), pk_un (by omega), pk_us]
    have e1 : zse K se x y z (zk9 K * 3 + 1) = y := by unfold zse; rw [pk_un (by omega), pk_us]
    have e2 : zse K se x y z (zk9 K * 3 + 2) = z := by unfold zse; rw [pk_us]
    rw [e0, e1, e2]
    exact u
  · refine NwR_c hP (fun j _ => rfl) h2 h3 (fun i hi => ?_) w
    show g2 (169 + 168 * zk9 K + i) = f i
    rw [hg _ (by omega) (by omega)]
    unfold zkp
    rw [pk_un (by omega), pk_cpy_in (by omega) (by omega), zs1_lo (by omega)]
    exact congrArg f (by omega)
  · have hse : ∀ j, j < zk9 K * 3 → zse K se x y z j = zsh K se j := fun j hj => by unfold zse; rw [pk_un (by omega), pk_un (by omega), pk_un (by omega)]
    have hgl : ∀ i, 169 ≤ i → i < 169 + 168 * zk9 K → g2 i = zs1 K f i := fun i i1 i2 => by
      rw [hg i i1 (by omega)]
      unfold zkp
      rw [pk_un (by omega), pk_cpy_out (by omega)]
    by_cases hk : K < 10
    · have e9 := zk9_t hk
      rw [e9] at hse hgl ⊢
      refine HiR_c hP K D N sm ce ce (fun j _ => rfl) h2 h3 (fun j hj => ?_) (fun i i1 i2 => ?_) v
      · rw [hse j hj, zsh_t hk]
      · rw [hgl i i1 i2]
        unfold zs1
        rw [if_neg (by omega)]
    · have e9 := zk9_f hk
      have hK10 : K = 10 := by omega
      subst hK10
      rw [e9] at hse hgl ⊢
      refine HiR_c hP 9 D N sm ce ce (fun j _ => rfl) h2 h3 (fun j hj => ?_) (fun i i1 i2 => ?_) (HiR_sh 9 D N sm ce v)
      · rw [hse j hj, zsh_f hk, pk_cpy_in (by omega) (by omega)]
        exact congrArg se (by omega)
      · rw [hgl i i1 i2]
        unfold zs1
        rw [if_pos rfl, pk_un (by omega), pk_cpy_in (by omega) (by omega)]
        exact congrArg f (by omega)
