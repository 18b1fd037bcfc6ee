theorem tx_add {Z a : Nat} {tx tx' : Nat → Int32} (h : TxR Z tx tx') (ha : a ≤ 255) (hZ : Z < 200) : TxR (Z + 1) (upd tx Z (nI a)) (upd tx' Z (nI a)) := by
  obtain ⟨h1, bt, h2⟩ := h
  refine ⟨by omega, updN bt Z a, fun j hj => ?_⟩
  by_cases e : j = Z
  · subst e; rw [pk_us, pk_us, updN_s]; exact ⟨rfl, rfl, ha⟩
  · rw [pk_un e, pk_un e, updN_n e]; exact h2 j (by omega)
theorem tx_0 {tx tx' : Nat → Int32} : TxR 0 tx tx' := ⟨by omega, fun _ => 0, fun j hj => absurd hj (Nat.not_lt_zero j)⟩
theorem rs_new {P D N K : Nat} {sm : Int32} {ce de ke se f : Nat → Int32} {D1 N1 : Nat} {sm1 x y z : Int32} {ce1 de1 ke1 g2 : Nat → Int32} (hP : P ≤ 6) (h : RS P D N K sm ce de ke se f) (u : UnR x y z D1 N1 sm1 ce1 D N sm ce) (h2 : ∀ q, q < N * 5 → de1 q = de q) (h3 : ∀ d, d < D → ke1 d = ke d) (h168 : g2 168 = zkp K f 168) (hg : ∀ i, 169 ≤ i → i < 1849 → g2 i = zkp K f i) (hn : NwR P D1 N1 sm1 ce1 de1 ke1 g2) : RS P D1 N1 (zk9 K + 1) sm1 ce1 de1 ke1 (zse K se x y z) g2 :=
  ⟨by have := zk9_lt K; omega, by rw [h168, zkp_168], hn, push hP h u h2 h3 hg⟩
theorem upd_back {ce : Nat → Int32} {a : Nat} {x : Int32} : ce = upd (upd ce a x) a (ce a) := by
  funext j
  unfold upd
  by_cases e : j = a
  · rw [if_pos e, e]
  · rw [if_neg e, if_neg e]
theorem rs_walk {P D N K a c : Nat} {sm : Int32} {ce de ke se s : Nat → Int32} (hP : P ≤ 6) (h : RS P D N K sm ce de ke se s) (ha : a < P) (hc : c ≤ 26) : RS P D N (zk9 K + 1) sm (upd ce a (nI c)) de ke (zse K se 0 (nI a) (ce a)) (upd (zkp K s) (3 + a) (nI c)) := by
  refine rs_new hP h (Or.inl ⟨rfl, ⟨a, by omega, rfl, upd_back⟩, rfl, rfl, rfl⟩) (fun _ _ => rfl) (fun _ _ => rfl) (pk_un (by omega)) (fun i h1 h2 => pk_un (by omega)) ?_
  obtain ⟨-, -, ⟨⟨a1, a2, a3⟩, b, c1, d, e, g⟩, -⟩ := h
  have hb := b
  refine ⟨⟨by rw [pk_un (by omega), zkp_lo (by omega)]; exact a1, by rw [pk_un (by omega), zkp_lo (by omega)]; exact a2, by rw [pk_un (by omega), zkp_lo (by omega)]; exact a3⟩, b, fun j hj => ?_, fun q hq => ?_, fun q hq => ?_, g⟩
  · by_cases e : j = a
    · subst e; exact ⟨c, hc, pk_us, pk_us⟩
    · rw [pk_un e, pk_un (by omega), zkp_lo (by omega)]; exact c1 j hj
  · rw [pk_un (by omega), zkp_lo (by omega)]; exact d q hq
  · rw [pk_un (by omega), zkp_lo (by omega)]; exact e q hq
theorem rs_smoke {P D N K : Nat} {sm sm1 : Int32} {ce de ke se s : Nat → Int32} (hP : P ≤ 6) (h : RS P D N K sm ce de ke se s) (hs : s25 sm1) : RS P D N (zk9 K + 1) sm1 ce de ke (zse K se 1 (-1) sm) (upd (zkp K s) 1 sm1) := by
  refine rs_new hP h (Or.inr (Or.inl ⟨rfl, rfl, rfl, rfl, rfl⟩)) (fun _ _ => rfl) (fun _ _ => rfl) (pk_un (by omega)) (fun i h1 h2 => pk_un (by omega)) ?_
  obtain ⟨-, -, ⟨⟨a1, a2, a3⟩, ⟨b1, b2, b3⟩, c1, d, e, g⟩, -⟩ := h
  refine ⟨⟨by rw [pk_un (by omega), zkp_lo (by omega)]; exact a1, pk_us, by rw [pk_un (by omega), zkp_lo (by omega)]; exact a3⟩, ⟨b1, b2, hs⟩, fun j hj => ?_, fun q hq => ?_, fun q hq => ?_, g⟩
  · rw [pk_un (by omega), zkp_lo (by omega)]; exact c1 j hj
  · rw [pk_un (by omega), zkp_lo (by omega)]; exact d q hq
  · rw [pk_un (by omega), zkp_lo (by omega)]; exact e q hq
theorem rs_day {P D N K : Nat} {sm v : Int32} {ce de ke se s : Nat → Int32} (hP : P ≤ 6) (h : RS P D N K sm ce de ke se s) (hD : D < 99) : RS P (D + 1) N (zk9 K + 1) 0 ce de (upd ke D v) (zse K se 3 (-1) sm) (upd (upd (upd (zkp K s) (69 + D) v) 1 0) 0 (nI (D + 1))) := by
  refine rs_new hP h (Or.inr (Or.inr (Or.inr ⟨rfl, ⟨by omega, rfl⟩, rfl, rfl, rfl⟩))) (fun _ _ => rfl) (fun d hd => pk_un (by omega)) (by rw [pk_un (by omega), pk_un (by omega), pk_un (by omega)]) (fun i h1 h2 => by rw [pk_un (by omega), pk_un (by omega), pk_un (by omega)]) ?_
  obtain ⟨-, -, ⟨⟨a1, a2, a3⟩, ⟨b1, b2, b3⟩, c1, d, e, g⟩, -⟩ := h
  refine ⟨⟨pk_us, by rw [pk_un (by omega), pk_us], by rw [pk_un (by omega), pk_un (by omega), pk_un (by omega), zkp_lo (by omega)]; exact a3⟩, ⟨by omega, b2, s25_0⟩, fun j hj => ?_, fun q hq => ?_, fun q hq => ?_, g⟩
  · rw [pk_un (by omega), pk_un (by omega), pk_un (by omega), zkp_lo (by omega)]; exact c1 j hj
  · rw [pk_un (by omega), pk_un (by omega), pk_un (by omega), zkp_lo (by omega)]; exact d q hq
  · by_cases z : q = D
    · subst z; rw [pk_us, pk_un (by omega), pk_un (by omega), pk_us]
    · rw [pk_un z, pk_un (by omega), pk_un (by omega), pk_un (by omega), zkp_lo (by omega)]; exact e q (by omega)
theorem rs_deed {P D N K a : Nat} {sm y x1 x2 x3 x4 : Int32} {ce de ke se s : Nat → Int32} (hP : P ≤ 6) (h : RS P D N K sm ce de ke se s) (hN : N < 12) (ha : a < P) : RS P D (N + 1) (zk9 K + 1) sm ce (zde N de (nI a) x1 x2 x3 x4) ke (zse K se 2 y (nI N)) (upd (upd (upd (upd (upd (upd (zkp K s) (9 + (5 * N)) (nI a)) (9 + (5 * N) + 1) x1) (9 + (5 * N) + 2) x2) (9 + (5 * N) + 3) x3) (9 + (5 * N) + 4) x4) 2 (nI (N + 1))) := by
  have hlo : ∀ q, q < N * 5 → zde N de (nI a) x1 x2 x3 x4 q = de q := fun q hq => by
    unfold zde
    rw [pk_un (by omega), pk_un (by omega), pk_un (by omega), pk_un (by omega), pk_un (by omega)]
  have hh : ∀ i, (i < 9 + 5 * N ∨ 9 + 5 * N + 4 < i) → ¬ i = 2 → (upd (upd (upd (upd (upd (upd (zkp K s) (9 + (5 * N)) (nI a)) (9 + (5 * N) + 1) x1) (9 + (5 * N) + 2) x2) (9 + (5 * N) + 3) x3) (9 + (5 * N) + 4) x4) 2 (nI (N + 1))) i = zkp K s i := fun i h1 h2 => by
    rw [pk_un h2, pk_un (by omega), pk_un (by omega), pk_un (by omega), pk_un (by omega), pk_un (by omega)]
  refine rs_new hP h (Or.inr (Or.inr (Or.inl ⟨rfl, rfl, ⟨rfl, by omega⟩, rfl, rfl⟩))) hlo (fun _ _ => rfl) (hh 168 (by omega) (by omega)) (fun i h1 h2 => hh i (by omega) (by omega)) ?_
  obtain ⟨-, -, ⟨⟨a1, a2, a3⟩, ⟨b1, b2, b3⟩, c1, d, e, g⟩, -⟩ := h
  refine ⟨⟨by rw [hh _ (by omega) (by omega), zkp_lo (by omega)]; exact a1, by rw [hh _ (by omega) (by omega), zkp_lo (by omega)]; exact a2, pk_us⟩, ⟨b1, by omega, b3⟩, fun j hj => ?_, fun q hq => ?_, fun q hq => ?_, fun i hi => ?_⟩
  · rw [hh _ (by omega) (by omega), zkp_lo (by omega)]; exact c1 j hj
  · by_cases z : q < N * 5
    · rw [hlo q z, hh _ (by omega) (by omega), zkp_lo (by omega)]; exact d q z
    · have : q = N * 5 + 0 ∨ q = N * 5 + 1 ∨ q = N * 5 + 2 ∨ q = N * 5 + 3 ∨ q = N * 5 + 4 := by omega
      unfold zde
      rcases this with rfl | rfl | rfl | rfl | rfl
      · rw [pk_un (by omega), pk_un (by omega), pk_un (by omega), pk_un (by omega), pk_us, show 9 + (N * 5 + 0) = 9 + (5 * N) by omega, pk_un (by omega), pk_un (by omega), pk_un (by omega), pk_un (by omega), pk_un (by omega), pk_us]
      · rw [pk_un (by omega), pk_un (by omega), pk_un (by omega), pk_us, show 9 + (N * 5 + 1) = 9 + (5 * N) + 1 by omega, pk_un (by omega), pk_un (by omega), pk_un (by omega), pk_un (by omega), pk_us]
      · rw [pk_un (by omega), pk_un (by omega), pk_us, show 9 + (N * 5 + 2) = 9 + (5 * N) + 2 by omega, pk_un (by omega), pk_un (by omega), pk_un (by omega), pk_us]
      · rw [pk_un (by omega), pk_us, show 9 + (N * 5 + 3) = 9 + (5 * N) + 3 by omega, pk_un (by omega), pk_un (by omega), pk_us]
      · rw [pk_us, show 9 + (N * 5 + 4) = 9 + (5 * N) + 4 by omega, pk_un (by omega), pk_us]
  · rw [hh _ (by omega) (by omega), zkp_lo (by omega)]; exact e q hq
  · by_cases z : i = N
    · subst z
      refine ⟨a, ha, ?_⟩
      unfold zde
      rw [pk_un (by omega), pk_un (by omega), pk_un (by omega), pk_un (by omega), pk_us]
    · rw [hlo _ (by omega)]; exact g i (by omega)
theorem rs_undo {P D' N' k : Nat} {sm' : Int32} {ce' de ke se s : Nat → Int32} (hP : P ≤ 6) (hk : k ≤ 9) (w : NwR P D' N' sm' ce' de ke (fun i => s (169 + 168 * k + i))) (v : HiR P de ke se s k D' N' sm' ce') : RS P D' N' k sm' ce' de ke se (va_cpy (upd s 168 (nI k)) (upd s 168 (nI k)) (169 + 168 * k) 0 168) := by
  refine ⟨by omega, ?_, NwR_c hP (fun _ _ => rfl) (fun _ _ => rfl) (fun _ _ => rfl) (fun i hi => ?_) w, HiR_c hP k D' N' sm' ce' ce' (fun _ _ => rfl) (fun _ _ => rfl) (fun _ _ => rfl) (fun _ _ => rfl) (fun i h1 h2 => ?_) v⟩
  · rw [pk_cpy_out (by omega), pk_us]
  · rw [pk_cpy_in (by omega) (by omega), pk_un (by omega)]
    exact congrArg s (by omega)
  · rw [pk_cpy_out (by omega), pk_un (by omega)]
theorem im_c {P k : Nat} {i : zN} {kp kp' im kp2 kp2' im2 : Nat → Int32} (h : ImR P k i kp kp' im) (h1 : kp2 k = kp k) (h2 : kp2' k = kp' k) (h3 : P ≤ 6) (h4 : ∀ j, j < 1849 → im2 (1849 * k + j) = im (1849 * k + j)) : ImR P k i kp2 kp2' im2 := by
  rcases h with ⟨a, b⟩ | ⟨⟨a, b⟩, D, N, K, e, r⟩
  · exact Or.inl ⟨h1.trans a, h2.trans b⟩
  · exact Or.inr ⟨⟨by rw [h1]; exact a, by rw [h2]; exact b⟩, D, N, K, e, RS_c h3 (fun _ _ => rfl) (fun _ _ => rfl) (fun _ _ => rfl) (fun _ _ => rfl) (fun j hj => h4 j hj) r⟩
theorem cpyI {f g : Nat → Int32} {n j : Nat} (h : j < n) : va_cpy f g 0 0 n j = f j := by
  rw [pk_cpy_in (by omega) (by omega)]; exact congrArg f (by omega)
theorem im_new {P D N K : Nat} {sm : Int32} {ce de ke se s im c1 c2 c3 c4 kp kp' : Nat → Int32} (k : Nat) (hk : k < 2) (hP : P ≤ 6) (h : RS P D N K sm ce de ke se s) : ImR P k (nI D, sm, nI N, nI K, va_cpy ce c1 0 0 6, va_cpy de c2 0 0 60, va_cpy ke c3 0 0 99, va_cpy se c4 0 0 30) (upd kp k 1) (upd kp' k 1) (va_cpy s im 0 (1849 * k) 1849) := by
  refine Or.inr ⟨⟨by rw [pk_us]; decide, by rw [pk_us]; decide⟩, D, N, K, ⟨rfl, rfl, rfl⟩, RS_c hP (fun j hj => cpyI hj) (fun j hj => cpyI hj) (fun j hj => cpyI hj) (fun j hj => cpyI hj) (fun j hj => ?_) h⟩
  rw [pk_cpy_in (by omega) (by omega)]; exact congrArg s (by omega)
theorem rs_sq {P : Nat} {dr s ss ce de ke se : Nat → Int32} {sn : Nat → Nat} (hP : P ≤ 6) (h1 : ∀ j, j < P → ss j = nI (sn j) ∧ dr (12 + j) = nI (sn j) ∧ sn j ≤ 25) {c0 : Nat → Int32} : RS P 0 0 0 0 (va_cpy (va_cpy ss c0 0 0 6) ce 0 0 6) de ke se (tlC P dr (va_cpy (fun _ => 0) s 0 0 1849) 6) := by
  have hl : ∀ n, n ≤ 6 → ∀ i, i < 1849 → tlC P dr (va_cpy (fun _ => 0) s 0 0 1849) n i = if 3 ≤ i ∧ i < 3 + n then (if i - 3 < P then dr (12 + (i - 3)) else 26) else 0 := by
    intro n
    induction n with
    | zero => intro _ i hi; rw [if_neg (by omega)]; exact cpyI hi
    | succ n ih =>
      intro hn i hi
      show upd (tlC P dr (va_cpy (fun _ => 0) s 0 0 1849) n) (3 + n) (if n < P then dr (12 + n) else 26) i = _
      by_cases e : i = 3 + n
      · subst e
        rw [pk_us, if_pos (show 3 ≤ 3 + n ∧ 3 + n < 3 + (n + 1) by omega), show 3 + n - 3 = n by omega]
      · rw [pk_un e, ih (by omega) i hi]
        by_cases q : 3 ≤ i ∧ i < 3 + n
        · rw [if_pos q, if_pos (show 3 ≤ i ∧ i < 3 + (n + 1) by omega)]
        · rw [if_neg q, if_neg (show ¬ (3 ≤ i ∧ i < 3 + (n + 1)) by omega)]
  have h6 := hl 6 (Nat.le_refl _)
  refine ⟨by omega, by rw [h6 _ (by omega), if_neg (by omega)]; rfl, ⟨⟨by rw [h6 _ (by omega), if_neg (by omega)]; rfl, by rw [h6 _ (by omega), if_neg (by omega)], by rw [h6 _ (by omega), if_neg (by omega)]; rfl⟩, ⟨by omega, by omega, s25_0⟩, fun j hj => ?_, fun q hq => by omega, fun q hq => by omega, fun i hi => by omega⟩, trivial⟩
  have := h1 j hj
  refine ⟨sn j, by omega, ?_, ?_⟩
  · rw [cpyI (by omega), cpyI (by omega)]; exact this.1
  · rw [h6 _ (by omega), if_pos (by omega), if_pos (by omega), show 12 + (3 + j - 3) = 12 + j by omega]; exact this.2.1
