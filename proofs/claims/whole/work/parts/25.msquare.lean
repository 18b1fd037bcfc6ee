section MV6
variable {l : Launch} {c : Nat → zq_C} {tr : Int64} {tx : Nat → Int32} {ty : Int32} {td dr s im kp : Nat → Int32} {at_ so sr va : Int32} {wy : Nat → Int32} {h : zq_H}
variable {P C R L D N K Z : Nat} {sm : Int32} {cn ga gv : Nat → Nat} {bt : Nat → Nat}
variable {a a2 u k : Nat} {q : Int32} {h2 : zq_H} {dr2 : Nat → Int32} {at2 so2 sr2 va2 : Int32} {r : Option Value}
def DRM (dr : Nat → Int32) (D : zD) (k : Nat) : Prop := (dr 0 = nI D.1 ∧ dr 1 = nI D.2.1 ∧ dr 2 = nI D.2.2.1 ∧ dr 3 = nI D.2.2.2.1 ∧ dr 4 = nI k ∧ dr 5 = zl D.2.2.2.2.1) ∧ (∀ j, j < D.1 → dr (6 + j) = nI (D.2.2.2.2.2.1 j) ∧ dr (12 + j) = nI (D.2.2.2.2.2.2.1 j)) ∧ (∀ j, j < D.2.1 → dr (18 + j) = nI (D.2.2.2.2.2.2.2.1 j)) ∧ (∀ j, j < D.2.2.1 → dr (26 + j) = nI (10 * D.2.2.2.2.2.2.2.2.1 j + D.2.2.2.2.2.2.2.2.2 j))
set_option maxHeartbeats 4000000 in
set_option maxRecDepth 100000 in
theorem me_end (hZ : Z ≤ 200) (hbt : ∀ j, j < Z → tx j = nI (bt j) ∧ bt j ≤ 255) (ha : a ≤ Z) (h0 : tkM bt Z a = 0) : zq_G l mX12_reads 6 (some (.int 1)) (MH c tr tx (nI Z) td dr s im kp (nI (tkE bt Z a)) (nI (tkM bt Z a)) (nI (tkS bt Z a)) (tvM bt Z a) wy) 38 ([(0, .ref 41), (1, .int 32)], [], MH c tr tx (nI Z) td dr s im kp (nI (tkE bt Z a)) (nI (tkM bt Z a)) (nI (tkS bt Z a)) (tvM bt Z a) wy) := by
  have hk4 := tkM_le bt Z a
  refine zq_b [zq_al 0, zq_get 12 9] [zq_alchk 0, zq_getchk 12 9] 42 rfl (by decide +kernel) ?_
  show zq_G _ _ _ _ _ 42 ([(0, .ref 41), (1, .int 32)], [.int (nI (tkM bt Z a))], MH c tr tx (nI Z) td dr s im kp (nI (tkE bt Z a)) (nI (tkM bt Z a)) (nI (tkS bt Z a)) (tvM bt Z a) wy)
  refine zq_ifz .eq 85 ((tkM bt Z a) = 0) (by decide +kernel) (zq_ceq (a := tkM bt Z a) (b := 0) (by omega) (by omega)) (fun c42 => ?_) (fun c42 => absurd h0 c42)
  show zq_G _ _ _ _ _ 85 ([(0, .ref 41), (1, .int 32)], [], MH c tr tx (nI Z) td dr s im kp (nI (tkE bt Z a)) (nI (tkM bt Z a)) (nI (tkS bt Z a)) (tvM bt Z a) wy)
  refine zq_b [zq_k 1] [zq_kchk 1] 86 rfl (by decide +kernel) ?_
  show zq_G _ _ _ _ _ 86 ([(0, .ref 41), (1, .int 32)], [.int 1], MH c tr tx (nI Z) td dr s im kp (nI (tkE bt Z a)) (nI (tkM bt Z a)) (nI (tkS bt Z a)) (tvM bt Z a) wy)
  exact zq_zret (by decide +kernel) rfl (Or.inr rfl) rfl rfl
set_option maxHeartbeats 4000000 in
set_option maxRecDepth 100000 in
theorem me_bad (hZ : Z ≤ 200) (hbt : ∀ j, j < Z → tx j = nI (bt j) ∧ bt j ≤ 255) (ha : a ≤ Z) (h0 : ¬ tkM bt Z a = 0) (hM : zq_P l mX12_readsItem 5 [.ref 41] (MH c tr tx (nI Z) td dr s im kp (nI (tkE bt Z a)) (nI (tkM bt Z a)) (nI (tkS bt Z a)) (tvM bt Z a) wy) (some (.int 0)) (h2)) : zq_G l mX12_reads 6 (some (.int 0)) (h2) 38 ([(0, .ref 41), (1, .int 32)], [], MH c tr tx (nI Z) td dr s im kp (nI (tkE bt Z a)) (nI (tkM bt Z a)) (nI (tkS bt Z a)) (tvM bt Z a) wy) := by
  have hk4 := tkM_le bt Z a
  refine zq_b [zq_al 0, zq_get 12 9] [zq_alchk 0, zq_getchk 12 9] 42 rfl (by decide +kernel) ?_
  show zq_G _ _ _ _ _ 42 ([(0, .ref 41), (1, .int 32)], [.int (nI (tkM bt Z a))], MH c tr tx (nI Z) td dr s im kp (nI (tkE bt Z a)) (nI (tkM bt Z a)) (nI (tkS bt Z a)) (tvM bt Z a) wy)
  refine zq_ifz .eq 85 ((tkM bt Z a) = 0) (by decide +kernel) (zq_ceq (a := tkM bt Z a) (b := 0) (by omega) (by omega)) (fun c42 => absurd c42 h0) (fun c42 => ?_)
  show zq_G _ _ _ _ _ 45 ([(0, .ref 41), (1, .int 32)], [], MH c tr tx (nI Z) td dr s im kp (nI (tkE bt Z a)) (nI (tkM bt Z a)) (nI (tkS bt Z a)) (tvM bt Z a) wy)
  refine zq_b [zq_al 0] [zq_alchk 0] 46 rfl (by decide +kernel) ?_
  show zq_G _ _ _ _ _ 46 ([(0, .ref 41), (1, .int 32)], [.ref 41], MH c tr tx (nI Z) td dr s im kp (nI (tkE bt Z a)) (nI (tkM bt Z a)) (nI (tkS bt Z a)) (tvM bt Z a) wy)
  refine zq_callV (av := []) (rest := []) (by decide +kernel) k12_88 (hM) rfl rfl rfl rfl ?_
  show zq_G _ _ _ _ _ 49 ([(0, .ref 41), (1, .int 32)], [.int 0], h2)
  refine zq_ifz .ne 54 (¬ 0 = 0) (by decide +kernel) (zq_cne (a := 0) (b := 0) (by omega) (by omega)) (fun c49 => absurd c49 (fun q => q rfl)) (fun c49 => ?_)
  show zq_G _ _ _ _ _ 52 ([(0, .ref 41), (1, .int 32)], [], h2)
  refine zq_b [zq_k 0] [zq_kchk 0] 53 rfl (by decide +kernel) ?_
  show zq_G _ _ _ _ _ 53 ([(0, .ref 41), (1, .int 32)], [.int 0], h2)
  exact zq_zret (by decide +kernel) rfl (Or.inl rfl) rfl rfl
set_option maxHeartbeats 4000000 in
set_option maxRecDepth 100000 in
theorem me_bad2 (hZ : Z ≤ 200) (hbt : ∀ j, j < Z → tx j = nI (bt j) ∧ bt j ≤ 255) (ha : a ≤ Z) (ha2 : a2 ≤ Z) (h0 : ¬ tkM bt Z a = 0) (h3 : ¬ tkM bt Z a2 = 3) (hM : zq_P l mX12_readsItem 5 [.ref 41] (MH c tr tx (nI Z) td dr s im kp (nI (tkE bt Z a)) (nI (tkM bt Z a)) (nI (tkS bt Z a)) (tvM bt Z a) wy) (some (.int 1)) (MH c tr tx (nI Z) td dr2 s im kp (nI a2) so2 sr2 va2 wy)) : zq_G l mX12_reads 6 (some (.int 0)) (MH c tr tx (nI Z) td dr2 s im kp (nI (tkE bt Z a2)) (nI (tkM bt Z a2)) (nI (tkS bt Z a2)) (tvM bt Z a2) wy) 38 ([(0, .ref 41), (1, .int 32)], [], MH c tr tx (nI Z) td dr s im kp (nI (tkE bt Z a)) (nI (tkM bt Z a)) (nI (tkS bt Z a)) (tvM bt Z a) wy) := by
  have hk4 := tkM_le bt Z a
  have hk5 := tkM_le bt Z a2
  refine zq_b [zq_al 0, zq_get 12 9] [zq_alchk 0, zq_getchk 12 9] 42 rfl (by decide +kernel) ?_
  show zq_G _ _ _ _ _ 42 ([(0, .ref 41), (1, .int 32)], [.int (nI (tkM bt Z a))], MH c tr tx (nI Z) td dr s im kp (nI (tkE bt Z a)) (nI (tkM bt Z a)) (nI (tkS bt Z a)) (tvM bt Z a) wy)
  refine zq_ifz .eq 85 ((tkM bt Z a) = 0) (by decide +kernel) (zq_ceq (a := tkM bt Z a) (b := 0) (by omega) (by omega)) (fun c42 => absurd c42 h0) (fun c42 => ?_)
  show zq_G _ _ _ _ _ 45 ([(0, .ref 41), (1, .int 32)], [], MH c tr tx (nI Z) td dr s im kp (nI (tkE bt Z a)) (nI (tkM bt Z a)) (nI (tkS bt Z a)) (tvM bt Z a) wy)
  refine zq_b [zq_al 0] [zq_alchk 0] 46 rfl (by decide +kernel) ?_
  show zq_G _ _ _ _ _ 46 ([(0, .ref 41), (1, .int 32)], [.ref 41], MH c tr tx (nI Z) td dr s im kp (nI (tkE bt Z a)) (nI (tkM bt Z a)) (nI (tkS bt Z a)) (tvM bt Z a) wy)
  refine zq_callV (av := []) (rest := []) (by decide +kernel) k12_88 (hM) rfl rfl rfl rfl ?_
  show zq_G _ _ _ _ _ 49 ([(0, .ref 41), (1, .int 32)], [.int 1], MH c tr tx (nI Z) td dr2 s im kp (nI a2) so2 sr2 va2 wy)
  refine zq_ifz .ne 54 (¬ 1 = 0) (by decide +kernel) (zq_cne (a := 1) (b := 0) (by omega) (by omega)) (fun c49 => ?_) (fun c49 => absurd (by decide) c49)
  show zq_G _ _ _ _ _ 54 ([(0, .ref 41), (1, .int 32)], [], MH c tr tx (nI Z) td dr2 s im kp (nI a2) so2 sr2 va2 wy)
  refine zq_b [zq_al 0] [zq_alchk 0] 55 rfl (by decide +kernel) ?_
  show zq_G _ _ _ _ _ 55 ([(0, .ref 41), (1, .int 32)], [.ref 41], MH c tr tx (nI Z) td dr2 s im kp (nI a2) so2 sr2 va2 wy)
  refine zq_callV (av := []) (rest := []) (by decide +kernel) k12_70 (m_tok hZ hbt (by omega)) rfl rfl rfl rfl ?_
  show zq_G _ _ _ _ _ 58 ([(0, .ref 41), (1, .int 32)], [], MH c tr tx (nI Z) td dr2 s im kp (nI (tkE bt Z a2)) (nI (tkM bt Z a2)) (nI (tkS bt Z a2)) (tvM bt Z a2) wy)
  refine zq_b [zq_al 0, zq_get 12 9, zq_k 3] [zq_alchk 0, zq_getchk 12 9, zq_kchk 3] 63 rfl (by decide +kernel) ?_
  show zq_G _ _ _ _ _ 63 ([(0, .ref 41), (1, .int 32)], [.int 3, .int (nI (tkM bt Z a2))], MH c tr tx (nI Z) td dr2 s im kp (nI (tkE bt Z a2)) (nI (tkM bt Z a2)) (nI (tkS bt Z a2)) (tvM bt Z a2) wy)
  refine zq_if .eq 68 ((tkM bt Z a2) = 3) (by decide +kernel) (zq_ceq (a := tkM bt Z a2) (b := 3) (by omega) (by omega)) (fun c63 => absurd c63 h3) (fun c63 => ?_)
  show zq_G _ _ _ _ _ 66 ([(0, .ref 41), (1, .int 32)], [], MH c tr tx (nI Z) td dr2 s im kp (nI (tkE bt Z a2)) (nI (tkM bt Z a2)) (nI (tkS bt Z a2)) (tvM bt Z a2) wy)
  refine zq_b [zq_k 0] [zq_kchk 0] 67 rfl (by decide +kernel) ?_
  show zq_G _ _ _ _ _ 67 ([(0, .ref 41), (1, .int 32)], [.int 0], MH c tr tx (nI Z) td dr2 s im kp (nI (tkE bt Z a2)) (nI (tkM bt Z a2)) (nI (tkS bt Z a2)) (tvM bt Z a2) wy)
  exact zq_zret (by decide +kernel) rfl (Or.inl rfl) rfl rfl
set_option maxHeartbeats 4000000 in
set_option maxRecDepth 100000 in
theorem me_go (hZ : Z ≤ 200) (hbt : ∀ j, j < Z → tx j = nI (bt j) ∧ bt j ≤ 255) (ha : a ≤ Z) (ha2 : a2 ≤ Z) (h0 : ¬ tkM bt Z a = 0) (h3 : tkM bt Z a2 = 3) (h4 : dr2 4 = nI k) (hM : zq_P l mX12_readsItem 5 [.ref 41] (MH c tr tx (nI Z) td dr s im kp (nI (tkE bt Z a)) (nI (tkM bt Z a)) (nI (tkS bt Z a)) (tvM bt Z a) wy) (some (.int 1)) (MH c tr tx (nI Z) td dr2 s im kp (nI a2) so2 sr2 va2 wy)) (hG : zq_G l mX12_reads 6 r h2 38 ([(0, .ref 41), (1, .int 32)], [], MH c tr tx (nI Z) td (upd dr2 4 (nI (k + 1))) s im kp (nI (tkE bt Z (tkE bt Z a2))) (nI (tkM bt Z (tkE bt Z a2))) (nI (tkS bt Z (tkE bt Z a2))) (tvM bt Z (tkE bt Z a2)) wy)) : zq_G l mX12_reads 6 r (h2) 38 ([(0, .ref 41), (1, .int 32)], [], MH c tr tx (nI Z) td dr s im kp (nI (tkE bt Z a)) (nI (tkM bt Z a)) (nI (tkS bt Z a)) (tvM bt Z a) wy) := by
  have hk4 := tkM_le bt Z a
  have hk5 := tkM_le bt Z a2
  have hE2 := tkE_max (bt := bt) ha2
  refine zq_b [zq_al 0, zq_get 12 9] [zq_alchk 0, zq_getchk 12 9] 42 rfl (by decide +kernel) ?_
  show zq_G _ _ _ _ _ 42 ([(0, .ref 41), (1, .int 32)], [.int (nI (tkM bt Z a))], MH c tr tx (nI Z) td dr s im kp (nI (tkE bt Z a)) (nI (tkM bt Z a)) (nI (tkS bt Z a)) (tvM bt Z a) wy)
  refine zq_ifz .eq 85 ((tkM bt Z a) = 0) (by decide +kernel) (zq_ceq (a := tkM bt Z a) (b := 0) (by omega) (by omega)) (fun c42 => absurd c42 h0) (fun c42 => ?_)
  show zq_G _ _ _ _ _ 45 ([(0, .ref 41), (1, .int 32)], [], MH c tr tx (nI Z) td dr s im kp (nI (tkE bt Z a)) (nI (tkM bt Z a)) (nI (tkS bt Z a)) (tvM bt Z a) wy)
  refine zq_b [zq_al 0] [zq_alchk 0] 46 rfl (by decide +kernel) ?_
  show zq_G _ _ _ _ _ 46 ([(0, .ref 41), (1, .int 32)], [.ref 41], MH c tr tx (nI Z) td dr s im kp (nI (tkE bt Z a)) (nI (tkM bt Z a)) (nI (tkS bt Z a)) (tvM bt Z a) wy)
  refine zq_callV (av := []) (rest := []) (by decide +kernel) k12_88 (hM) rfl rfl rfl rfl ?_
  show zq_G _ _ _ _ _ 49 ([(0, .ref 41), (1, .int 32)], [.int 1], MH c tr tx (nI Z) td dr2 s im kp (nI a2) so2 sr2 va2 wy)
  refine zq_ifz .ne 54 (¬ 1 = 0) (by decide +kernel) (zq_cne (a := 1) (b := 0) (by omega) (by omega)) (fun c49 => ?_) (fun c49 => absurd (by decide) c49)
  show zq_G _ _ _ _ _ 54 ([(0, .ref 41), (1, .int 32)], [], MH c tr tx (nI Z) td dr2 s im kp (nI a2) so2 sr2 va2 wy)
  refine zq_b [zq_al 0] [zq_alchk 0] 55 rfl (by decide +kernel) ?_
  show zq_G _ _ _ _ _ 55 ([(0, .ref 41), (1, .int 32)], [.ref 41], MH c tr tx (nI Z) td dr2 s im kp (nI a2) so2 sr2 va2 wy)
  refine zq_callV (av := []) (rest := []) (by decide +kernel) k12_70 (m_tok hZ hbt (by omega)) rfl rfl rfl rfl ?_
  show zq_G _ _ _ _ _ 58 ([(0, .ref 41), (1, .int 32)], [], MH c tr tx (nI Z) td dr2 s im kp (nI (tkE bt Z a2)) (nI (tkM bt Z a2)) (nI (tkS bt Z a2)) (tvM bt Z a2) wy)
  refine zq_b [zq_al 0, zq_get 12 9, zq_k 3] [zq_alchk 0, zq_getchk 12 9, zq_kchk 3] 63 rfl (by decide +kernel) ?_
  show zq_G _ _ _ _ _ 63 ([(0, .ref 41), (1, .int 32)], [.int 3, .int (nI (tkM bt Z a2))], MH c tr tx (nI Z) td dr2 s im kp (nI (tkE bt Z a2)) (nI (tkM bt Z a2)) (nI (tkS bt Z a2)) (tvM bt Z a2) wy)
  refine zq_if .eq 68 ((tkM bt Z a2) = 3) (by decide +kernel) (zq_ceq (a := tkM bt Z a2) (b := 3) (by omega) (by omega)) (fun c63 => ?_) (fun c63 => absurd h3 c63)
  show zq_G _ _ _ _ _ 68 ([(0, .ref 41), (1, .int 32)], [], MH c tr tx (nI Z) td dr2 s im kp (nI (tkE bt Z a2)) (nI (tkM bt Z a2)) (nI (tkS bt Z a2)) (tvM bt Z a2) wy)
  refine zq_b [zq_al 0, zq_get 12 4, zq_k 4, zq_dup2, zq_iald 4 (nI k), zq_k 1, zq_iadd (nI (k + 1)), zq_iast 4, zq_al 0] [zq_alchk 0, zq_getchk 12 4, zq_kchk 4, zq_is .dup2 1, zq_is .iaload 1, zq_kchk 1, zq_is .iadd 1, zq_is .iastore 1, zq_alchk 0] 79 rfl (by decide +kernel) ?_
  refine ⟨rfl, (by omega), (by omega), h4, (nI_add k 1), rfl, (by omega), (by omega), ?_⟩
  show zq_G _ _ _ _ _ 79 ([(0, .ref 41), (1, .int 32)], [.ref 41], MH c tr tx (nI Z) td (upd dr2 4 (nI (k + 1))) s im kp (nI (tkE bt Z a2)) (nI (tkM bt Z a2)) (nI (tkS bt Z a2)) (tvM bt Z a2) wy)
  refine zq_callV (av := []) (rest := []) (by decide +kernel) k12_70 (m_tok hZ hbt (by omega)) rfl rfl rfl rfl ?_
  show zq_G _ _ _ _ _ 82 ([(0, .ref 41), (1, .int 32)], [], MH c tr tx (nI Z) td (upd dr2 4 (nI (k + 1))) s im kp (nI (tkE bt Z (tkE bt Z a2))) (nI (tkM bt Z (tkE bt Z a2))) (nI (tkS bt Z (tkE bt Z a2))) (tvM bt Z (tkE bt Z a2)) wy)
  refine zq_b [zq_go] [zq_gochk] 38 rfl (by decide +kernel) ?_
  show zq_G _ _ _ _ _ 38 ([(0, .ref 41), (1, .int 32)], [], MH c tr tx (nI Z) td (upd dr2 4 (nI (k + 1))) s im kp (nI (tkE bt Z (tkE bt Z a2))) (nI (tkM bt Z (tkE bt Z a2))) (nI (tkS bt Z (tkE bt Z a2))) (tvM bt Z (tkE bt Z a2)) wy)
  exact hG
set_option maxHeartbeats 4000000 in
set_option maxRecDepth 100000 in
theorem me_start  (hZ : Z ≤ 200) (hbt : ∀ j, j < Z → tx j = nI (bt j) ∧ bt j ≤ 255) (hq : q = 0 ∨ q = 1) (hG : zq_G l mX12_reads 6 (some (.int q)) h2 38 ([(0, .ref 41), (1, .int 32)], [], MH c tr tx (nI Z) td (upd (va_cpy (fun _ => 0) dr 0 0 32) 3 12) s im kp (nI (tkE bt Z 0)) (nI (tkM bt Z 0)) (nI (tkS bt Z 0)) (tvM bt Z 0) wy)) : zq_P l mX12_reads 6 [.ref 41] (MH c tr tx (nI Z) td dr s im kp at_ so sr va wy) (some (.int q)) (h2) := by
  refine zq_start (by decide +kernel) rfl (Nat.le_of_ble_eq_true rfl) ?_
  show zq_G _ _ _ _ _ 0 ([(0, .ref 41)], [], MH c tr tx (nI Z) td dr s im kp at_ so sr va wy)
  refine zq_b [zq_k 0, zq_is1 1] [zq_kchk 0, zq_is1chk 1] 2 rfl (by decide +kernel) ?_
  show zq_G _ _ _ _ _ 2 ([(0, .ref 41), (1, .int 0)], [], MH c tr tx (nI Z) td dr s im kp at_ so sr va wy)
  refine zq_eq (σ2 := ([(0, .ref 41), (1, .int (nI (0 : Nat)))], [], MH c tr tx (nI Z) td (va_cpy (fun _ => 0) dr 0 0 (0 : Nat)) s im kp at_ so sr va wy)) (by rw [cpy_0]; rfl) ?_
  refine zq_loop (fun i => ([(0, .ref 41), (1, .int (nI i))], [], MH c tr tx (nI Z) td (va_cpy (fun _ => 0) dr 0 0 i) s im kp at_ so sr va wy)) (fun i => True) (32) (0) (by omega) (trivial) (fun i hl2 hi2 hI2 ih2 => ?_) (fun hI2 => ?_)
  · show zq_G _ _ _ _ _ 2 ([(0, .ref 41), (1, .int (nI i))], [], MH c tr tx (nI Z) td (va_cpy (fun _ => 0) dr 0 0 i) s im kp at_ so sr va wy)
    refine zq_b [zq_il 1, zq_k 32] [zq_ilchk 1, zq_kchk 32] 5 rfl (by decide +kernel) ?_
    show zq_G _ _ _ _ _ 5 ([(0, .ref 41), (1, .int (nI i))], [.int 32, .int (nI i)], MH c tr tx (nI Z) td (va_cpy (fun _ => 0) dr 0 0 i) s im kp at_ so sr va wy)
    refine zq_if .ge 21 (32 ≤ i) (by decide +kernel) (zq_cge (a := i) (b := 32) (by omega) (by omega)) (fun c5 => absurd c5 (by omega)) (fun c5 => ?_)
    show zq_G _ _ _ _ _ 8 ([(0, .ref 41), (1, .int (nI i))], [], MH c tr tx (nI Z) td (va_cpy (fun _ => 0) dr 0 0 i) s im kp at_ so sr va wy)
    refine zq_b [zq_al 0, zq_get 12 4, zq_il 1, zq_k 0, zq_iast i, zq_inc 1 1 (nI (i + 1)), zq_go] [zq_alchk 0, zq_getchk 12 4, zq_ilchk 1, zq_kchk 0, zq_is .iastore 1, zq_incchk 1 1, zq_gochk] 2 rfl (by decide +kernel) ?_
    refine ⟨rfl, (by omega), (by omega), nI_add i 1, ?_⟩
    show zq_G _ _ _ _ _ 2 ([(0, .ref 41), (1, .int (nI (i + 1)))], [], MH c tr tx (nI Z) td (upd (va_cpy (fun _ => 0) dr 0 0 i) i 0) s im kp at_ so sr va wy)
    exact zq_eq (by rw [← cpy_succ (fun _ => 0) dr 0 0 i, Nat.zero_add]) (ih2 trivial)
  · show zq_G _ _ _ _ _ 2 ([(0, .ref 41), (1, .int 32)], [], MH c tr tx (nI Z) td (va_cpy (fun _ => 0) dr 0 0 32) s im kp at_ so sr va wy)
    refine zq_b [zq_il 1, zq_k 32] [zq_ilchk 1, zq_kchk 32] 5 rfl (by decide +kernel) ?_
    show zq_G _ _ _ _ _ 5 ([(0, .ref 41), (1, .int 32)], [.int 32, .int 32], MH c tr tx (nI Z) td (va_cpy (fun _ => 0) dr 0 0 32) s im kp at_ so sr va wy)
    refine zq_if .ge 21 (32 ≤ 32) (by decide +kernel) (zq_cge (a := 32) (b := 32) (by omega) (by omega)) (fun c5 => ?_) (fun c5 => absurd (by omega) c5)
    show zq_G _ _ _ _ _ 21 ([(0, .ref 41), (1, .int 32)], [], MH c tr tx (nI Z) td (va_cpy (fun _ => 0) dr 0 0 32) s im kp at_ so sr va wy)
    refine zq_b [zq_al 0, zq_get 12 4, zq_k 3, zq_k 12, zq_iast 3, zq_al 0, zq_k 0, zq_puti 12 8, zq_al 0] [zq_alchk 0, zq_getchk 12 4, zq_kchk 3, zq_kchk 12, zq_is .iastore 1, zq_alchk 0, zq_kchk 0, zq_putchk 12 8 .int, zq_alchk 0] 35 rfl (by decide +kernel) ?_
    refine ⟨rfl, (by omega), (by omega), ?_⟩
    show zq_G _ _ _ _ _ 35 ([(0, .ref 41), (1, .int 32)], [.ref 41], MH c tr tx (nI Z) td (upd (va_cpy (fun _ => 0) dr 0 0 32) 3 12) s im kp 0 so sr va wy)
    refine zq_callV (av := []) (rest := []) (by decide +kernel) k12_70 (m_tok (a := 0) hZ hbt (by omega)) rfl rfl rfl rfl ?_
    show zq_G _ _ _ _ _ 38 ([(0, .ref 41), (1, .int 32)], [], MH c tr tx (nI Z) td (upd (va_cpy (fun _ => 0) dr 0 0 32) 3 12) s im kp (nI (tkE bt Z 0)) (nI (tkM bt Z 0)) (nI (tkS bt Z 0)) (tvM bt Z 0) wy)
    exact hG
set_option maxHeartbeats 4000000 in
set_option maxRecDepth 100000 in
theorem m_tells  (h0 : dr 0 = nI P) (hP : P ≤ 6) : zq_P l mX12_tells 0 [.ref 41] (MH c tr tx ty td dr s im kp at_ so sr va wy) none (MH c tr tx ty (va_cpy dr td 0 0 32) dr (tlC P dr (va_cpy (fun _ => 0) s 0 0 1849) 6) im (upd (upd kp 0 0) 1 0) at_ so sr va wy) := by
  refine zq_start (by decide +kernel) rfl (Nat.le_of_ble_eq_true rfl) ?_
  show zq_G _ _ _ _ _ 0 ([(0, .ref 41)], [], MH c tr tx ty td dr s im kp at_ so sr va wy)
  refine zq_b [zq_k 0, zq_is1 1] [zq_kchk 0, zq_is1chk 1] 2 rfl (by decide +kernel) ?_
  show zq_G _ _ _ _ _ 2 ([(0, .ref 41), (1, .int 0)], [], MH c tr tx ty td dr s im kp at_ so sr va wy)
  refine zq_eq (σ2 := ([(0, .ref 41), (1, .int (nI (0 : Nat)))], [], MH c tr tx ty (va_cpy dr td 0 0 (0 : Nat)) dr s im kp at_ so sr va wy)) (by rw [cpy_0]; rfl) ?_
  refine zq_loop (fun i => ([(0, .ref 41), (1, .int (nI i))], [], MH c tr tx ty (va_cpy dr td 0 0 i) dr s im kp at_ so sr va wy)) (fun i => True) (32) (0) (by omega) (trivial) (fun i hl2 hi2 hI2 ih2 => ?_) (fun hI2 => ?_)
  · show zq_G _ _ _ _ _ 2 ([(0, .ref 41), (1, .int (nI i))], [], MH c tr tx ty (va_cpy dr td 0 0 i) dr s im kp at_ so sr va wy)
    refine zq_b [zq_il 1, zq_k 32] [zq_ilchk 1, zq_kchk 32] 5 rfl (by decide +kernel) ?_
    show zq_G _ _ _ _ _ 5 ([(0, .ref 41), (1, .int (nI i))], [.int 32, .int (nI i)], MH c tr tx ty (va_cpy dr td 0 0 i) dr s im kp at_ so sr va wy)
    refine zq_if .ge 26 (32 ≤ i) (by decide +kernel) (zq_cge (a := i) (b := 32) (by omega) (by omega)) (fun c5 => absurd c5 (by omega)) (fun c5 => ?_)
    show zq_G _ _ _ _ _ 8 ([(0, .ref 41), (1, .int (nI i))], [], MH c tr tx ty (va_cpy dr td 0 0 i) dr s im kp at_ so sr va wy)
    refine zq_b [zq_al 0, zq_get 12 3, zq_il 1, zq_al 0, zq_get 12 4, zq_il 1, zq_iald i (dr i), zq_iast i, zq_inc 1 1 (nI (i + 1)), zq_go] [zq_alchk 0, zq_getchk 12 3, zq_ilchk 1, zq_alchk 0, zq_getchk 12 4, zq_ilchk 1, zq_is .iaload 1, zq_is .iastore 1, zq_incchk 1 1, zq_gochk] 2 rfl (by decide +kernel) ?_
    refine ⟨rfl, (by omega), (by omega), rfl, rfl, (by omega), (by omega), nI_add i 1, ?_⟩
    show zq_G _ _ _ _ _ 2 ([(0, .ref 41), (1, .int (nI (i + 1)))], [], MH c tr tx ty (upd (va_cpy dr td 0 0 i) i (dr i)) dr s im kp at_ so sr va wy)
    exact zq_eq (by rw [← cpy_succ dr td 0 0 i, Nat.zero_add]) (ih2 trivial)
  · show zq_G _ _ _ _ _ 2 ([(0, .ref 41), (1, .int 32)], [], MH c tr tx ty (va_cpy dr td 0 0 32) dr s im kp at_ so sr va wy)
    refine zq_b [zq_il 1, zq_k 32] [zq_ilchk 1, zq_kchk 32] 5 rfl (by decide +kernel) ?_
    show zq_G _ _ _ _ _ 5 ([(0, .ref 41), (1, .int 32)], [.int 32, .int 32], MH c tr tx ty (va_cpy dr td 0 0 32) dr s im kp at_ so sr va wy)
    refine zq_if .ge 26 (32 ≤ 32) (by decide +kernel) (zq_cge (a := 32) (b := 32) (by omega) (by omega)) (fun c5 => ?_) (fun c5 => absurd (by omega) c5)
    show zq_G _ _ _ _ _ 26 ([(0, .ref 41), (1, .int 32)], [], MH c tr tx ty (va_cpy dr td 0 0 32) dr s im kp at_ so sr va wy)
    refine zq_b [zq_k 0, zq_is1 1] [zq_kchk 0, zq_is1chk 1] 28 rfl (by decide +kernel) ?_
    show zq_G _ _ _ _ _ 28 ([(0, .ref 41), (1, .int 0)], [], MH c tr tx ty (va_cpy dr td 0 0 32) dr s im kp at_ so sr va wy)
    refine zq_eq (σ2 := ([(0, .ref 41), (1, .int (nI (0 : Nat)))], [], MH c tr tx ty (va_cpy dr td 0 0 32) dr (va_cpy (fun _ => 0) s 0 0 (0 : Nat)) im kp at_ so sr va wy)) (by rw [cpy_0]; rfl) ?_
    refine zq_loop (fun i => ([(0, .ref 41), (1, .int (nI i))], [], MH c tr tx ty (va_cpy dr td 0 0 32) dr (va_cpy (fun _ => 0) s 0 0 i) im kp at_ so sr va wy)) (fun i => True) (1849) (0) (by omega) (trivial) (fun i hl28 hi28 hI28 ih28 => ?_) (fun hI28 => ?_)
    · show zq_G _ _ _ _ _ 28 ([(0, .ref 41), (1, .int (nI i))], [], MH c tr tx ty (va_cpy dr td 0 0 32) dr (va_cpy (fun _ => 0) s 0 0 i) im kp at_ so sr va wy)
      refine zq_b [zq_il 1, zq_k 1849] [zq_ilchk 1, zq_kchk 1849] 32 rfl (by decide +kernel) ?_
      show zq_G _ _ _ _ _ 32 ([(0, .ref 41), (1, .int (nI i))], [.int 1849, .int (nI i)], MH c tr tx ty (va_cpy dr td 0 0 32) dr (va_cpy (fun _ => 0) s 0 0 i) im kp at_ so sr va wy)
      refine zq_if .ge 48 (1849 ≤ i) (by decide +kernel) (zq_cge (a := i) (b := 1849) (by omega) (by omega)) (fun c32 => absurd c32 (by omega)) (fun c32 => ?_)
      show zq_G _ _ _ _ _ 35 ([(0, .ref 41), (1, .int (nI i))], [], MH c tr tx ty (va_cpy dr td 0 0 32) dr (va_cpy (fun _ => 0) s 0 0 i) im kp at_ so sr va wy)
      refine zq_b [zq_al 0, zq_get 12 5, zq_il 1, zq_k 0, zq_iast i, zq_inc 1 1 (nI (i + 1)), zq_go] [zq_alchk 0, zq_getchk 12 5, zq_ilchk 1, zq_kchk 0, zq_is .iastore 1, zq_incchk 1 1, zq_gochk] 28 rfl (by decide +kernel) ?_
      refine ⟨rfl, (by omega), (by omega), nI_add i 1, ?_⟩
      show zq_G _ _ _ _ _ 28 ([(0, .ref 41), (1, .int (nI (i + 1)))], [], MH c tr tx ty (va_cpy dr td 0 0 32) dr (upd (va_cpy (fun _ => 0) s 0 0 i) i 0) im kp at_ so sr va wy)
      exact zq_eq (by rw [← cpy_succ (fun _ => 0) s 0 0 i, Nat.zero_add]) (ih28 trivial)
    · show zq_G _ _ _ _ _ 28 ([(0, .ref 41), (1, .int 1849)], [], MH c tr tx ty (va_cpy dr td 0 0 32) dr (va_cpy (fun _ => 0) s 0 0 1849) im kp at_ so sr va wy)
      refine zq_b [zq_il 1, zq_k 1849] [zq_ilchk 1, zq_kchk 1849] 32 rfl (by decide +kernel) ?_
      show zq_G _ _ _ _ _ 32 ([(0, .ref 41), (1, .int 1849)], [.int 1849, .int 1849], MH c tr tx ty (va_cpy dr td 0 0 32) dr (va_cpy (fun _ => 0) s 0 0 1849) im kp at_ so sr va wy)
      refine zq_if .ge 48 (1849 ≤ 1849) (by decide +kernel) (zq_cge (a := 1849) (b := 1849) (by omega) (by omega)) (fun c32 => ?_) (fun c32 => absurd (by omega) c32)
      show zq_G _ _ _ _ _ 48 ([(0, .ref 41), (1, .int 1849)], [], MH c tr tx ty (va_cpy dr td 0 0 32) dr (va_cpy (fun _ => 0) s 0 0 1849) im kp at_ so sr va wy)
      refine zq_b [zq_k 0, zq_is1 1] [zq_kchk 0, zq_is1chk 1] 50 rfl (by decide +kernel) ?_
      show zq_G _ _ _ _ _ 50 ([(0, .ref 41), (1, .int 0)], [], MH c tr tx ty (va_cpy dr td 0 0 32) dr (va_cpy (fun _ => 0) s 0 0 1849) im kp at_ so sr va wy)
      refine zq_eq (σ2 := ([(0, .ref 41), (1, .int (nI (0 : Nat)))], [], MH c tr tx ty (va_cpy dr td 0 0 32) dr (tlC P dr (va_cpy (fun _ => 0) s 0 0 1849) (0 : Nat)) im kp at_ so sr va wy)) (rfl) ?_
      refine zq_loop (fun i => ([(0, .ref 41), (1, .int (nI i))], [], MH c tr tx ty (va_cpy dr td 0 0 32) dr (tlC P dr (va_cpy (fun _ => 0) s 0 0 1849) i) im kp at_ so sr va wy)) (fun i => True) (6) (0) (by omega) (trivial) (fun i hl50 hi50 hI50 ih50 => ?_) (fun hI50 => ?_)
      · show zq_G _ _ _ _ _ 50 ([(0, .ref 41), (1, .int (nI i))], [], MH c tr tx ty (va_cpy dr td 0 0 32) dr (tlC P dr (va_cpy (fun _ => 0) s 0 0 1849) i) im kp at_ so sr va wy)
        refine zq_b [zq_il 1, zq_k 6] [zq_ilchk 1, zq_kchk 6] 53 rfl (by decide +kernel) ?_
        show zq_G _ _ _ _ _ 53 ([(0, .ref 41), (1, .int (nI i))], [.int 6, .int (nI i)], MH c tr tx ty (va_cpy dr td 0 0 32) dr (tlC P dr (va_cpy (fun _ => 0) s 0 0 1849) i) im kp at_ so sr va wy)
        refine zq_if .ge 94 (6 ≤ i) (by decide +kernel) (zq_cge (a := i) (b := 6) (by omega) (by omega)) (fun c53 => absurd c53 (by omega)) (fun c53 => ?_)
        show zq_G _ _ _ _ _ 56 ([(0, .ref 41), (1, .int (nI i))], [], MH c tr tx ty (va_cpy dr td 0 0 32) dr (tlC P dr (va_cpy (fun _ => 0) s 0 0 1849) i) im kp at_ so sr va wy)
        refine zq_b [zq_al 0, zq_get 12 5, zq_k 3, zq_il 1, zq_iadd (nI (3 + i)), zq_il 1, zq_al 0, zq_get 12 3, zq_k 0, zq_iald 0 (nI P)] [zq_alchk 0, zq_getchk 12 5, zq_kchk 3, zq_ilchk 1, zq_is .iadd 1, zq_ilchk 1, zq_alchk 0, zq_getchk 12 3, zq_kchk 0, zq_is .iaload 1] 70 rfl (by decide +kernel) ?_
        refine ⟨(nI_add 3 i), rfl, (by omega), (by omega), ((pk_cpy_in (by omega) (by omega)).trans h0), ?_⟩
        show zq_G _ _ _ _ _ 70 ([(0, .ref 41), (1, .int (nI i))], [.int (nI P), .int (nI i), .int (nI (3 + i)), .ref 45], MH c tr tx ty (va_cpy dr td 0 0 32) dr (tlC P dr (va_cpy (fun _ => 0) s 0 0 1849) i) im kp at_ so sr va wy)
        refine zq_if .ge 85 (P ≤ i) (by decide +kernel) (zq_cge (a := i) (b := P) (by omega) (by omega)) (fun c70 => ?_) (fun c70 => ?_)
        · show zq_G _ _ _ _ _ 85 ([(0, .ref 41), (1, .int (nI i))], [.int (nI (3 + i)), .ref 45], MH c tr tx ty (va_cpy dr td 0 0 32) dr (tlC P dr (va_cpy (fun _ => 0) s 0 0 1849) i) im kp at_ so sr va wy)
          refine zq_b [zq_k 26, zq_iast (3 + i), zq_inc 1 1 (nI (i + 1)), zq_go] [zq_kchk 26, zq_is .iastore 1, zq_incchk 1 1, zq_gochk] 50 rfl (by decide +kernel) ?_
          refine ⟨rfl, (by omega), (by omega), nI_add i 1, ?_⟩
          show zq_G _ _ _ _ _ 50 ([(0, .ref 41), (1, .int (nI (i + 1)))], [], MH c tr tx ty (va_cpy dr td 0 0 32) dr (upd (tlC P dr (va_cpy (fun _ => 0) s 0 0 1849) i) (3 + i) 26) im kp at_ so sr va wy)
          exact zq_eq (by rw [show tlC P dr (va_cpy (fun _ => 0) s 0 0 1849) (i + 1) = upd (tlC P dr (va_cpy (fun _ => 0) s 0 0 1849) i) (3 + i) (if i < P then dr (12 + i) else 26) from rfl, if_neg (by omega)]) (ih50 trivial)
        · show zq_G _ _ _ _ _ 73 ([(0, .ref 41), (1, .int (nI i))], [.int (nI (3 + i)), .ref 45], MH c tr tx ty (va_cpy dr td 0 0 32) dr (tlC P dr (va_cpy (fun _ => 0) s 0 0 1849) i) im kp at_ so sr va wy)
          refine zq_b [zq_al 0, zq_get 12 3, zq_k 12, zq_il 1, zq_iadd (nI (12 + i)), zq_iald (12 + i) (dr (12 + i)), zq_go, zq_iast (3 + i), zq_inc 1 1 (nI (i + 1)), zq_go] [zq_alchk 0, zq_getchk 12 3, zq_kchk 12, zq_ilchk 1, zq_is .iadd 1, zq_is .iaload 1, zq_gochk, zq_is .iastore 1, zq_incchk 1 1, zq_gochk] 50 rfl (by decide +kernel) ?_
          refine ⟨(nI_add 12 i), rfl, (by omega), (by omega), ((pk_cpy_in (by omega) (by omega)).trans (congrArg dr (by omega))), rfl, (by omega), (by omega), nI_add i 1, ?_⟩
          show zq_G _ _ _ _ _ 50 ([(0, .ref 41), (1, .int (nI (i + 1)))], [], MH c tr tx ty (va_cpy dr td 0 0 32) dr (upd (tlC P dr (va_cpy (fun _ => 0) s 0 0 1849) i) (3 + i) (dr (12 + i))) im kp at_ so sr va wy)
          exact zq_eq (by rw [show tlC P dr (va_cpy (fun _ => 0) s 0 0 1849) (i + 1) = upd (tlC P dr (va_cpy (fun _ => 0) s 0 0 1849) i) (3 + i) (if i < P then dr (12 + i) else 26) from rfl, if_pos (by omega)]) (ih50 trivial)
      · show zq_G _ _ _ _ _ 50 ([(0, .ref 41), (1, .int 6)], [], MH c tr tx ty (va_cpy dr td 0 0 32) dr (tlC P dr (va_cpy (fun _ => 0) s 0 0 1849) 6) im kp at_ so sr va wy)
        refine zq_b [zq_il 1, zq_k 6] [zq_ilchk 1, zq_kchk 6] 53 rfl (by decide +kernel) ?_
        show zq_G _ _ _ _ _ 53 ([(0, .ref 41), (1, .int 6)], [.int 6, .int 6], MH c tr tx ty (va_cpy dr td 0 0 32) dr (tlC P dr (va_cpy (fun _ => 0) s 0 0 1849) 6) im kp at_ so sr va wy)
        refine zq_if .ge 94 (6 ≤ 6) (by decide +kernel) (zq_cge (a := 6) (b := 6) (by omega) (by omega)) (fun c53 => ?_) (fun c53 => absurd (by omega) c53)
        show zq_G _ _ _ _ _ 94 ([(0, .ref 41), (1, .int 6)], [], MH c tr tx ty (va_cpy dr td 0 0 32) dr (tlC P dr (va_cpy (fun _ => 0) s 0 0 1849) 6) im kp at_ so sr va wy)
        refine zq_b [zq_al 0, zq_get 12 7, zq_k 0, zq_k 0, zq_zast 0, zq_al 0, zq_get 12 7, zq_k 1, zq_k 0, zq_zast 1] [zq_alchk 0, zq_getchk 12 7, zq_kchk 0, zq_kchk 0, zq_is .bastore 1, zq_alchk 0, zq_getchk 12 7, zq_kchk 1, zq_kchk 0, zq_is .bastore 1] 108 rfl (by decide +kernel) ?_
        refine ⟨rfl, (by omega), (by omega), (Or.inl rfl), rfl, (by omega), (by omega), (Or.inl rfl), ?_⟩
        show zq_G _ _ _ _ _ 108 ([(0, .ref 41), (1, .int 6)], [], MH c tr tx ty (va_cpy dr td 0 0 32) dr (tlC P dr (va_cpy (fun _ => 0) s 0 0 1849) 6) im (upd (upd kp 0 0) 1 0) at_ so sr va wy)
        exact zq_vret (by decide +kernel) rfl rfl rfl
set_option maxHeartbeats 4000000 in
set_option maxRecDepth 100000 in
theorem mq_bad  (hu : u ≤ 200) (hM : zq_P l mX12_reads 6 [.ref 41] (MH c tr tx (nI Z) td dr s im kp at_ so sr va wy) (some (.int 0)) (MH c tr tx (nI Z) td dr2 s im kp at2 so2 (nI u) va2 wy)) : zq_P l mX12_square 7 [.ref 41] (MH c tr tx (nI Z) td dr s im kp at_ so sr va wy) (some (.int (zi (-10 - (u : Int))))) (MH c tr tx (nI Z) td dr2 s im kp at2 so2 (nI u) va2 wy) := by
  refine zq_start (by decide +kernel) rfl (Nat.le_of_ble_eq_true rfl) ?_
  show zq_G _ _ _ _ _ 0 ([(0, .ref 41)], [], MH c tr tx (nI Z) td dr s im kp at_ so sr va wy)
  refine zq_b [zq_al 0] [zq_alchk 0] 1 rfl (by decide +kernel) ?_
  show zq_G _ _ _ _ _ 1 ([(0, .ref 41)], [.ref 41], MH c tr tx (nI Z) td dr s im kp at_ so sr va wy)
  refine zq_callV (av := []) (rest := []) (by decide +kernel) k12_32 (hM) rfl rfl rfl rfl ?_
  show zq_G _ _ _ _ _ 4 ([(0, .ref 41)], [.int 0], MH c tr tx (nI Z) td dr2 s im kp at2 so2 (nI u) va2 wy)
  refine zq_ifz .ne 15 (¬ 0 = 0) (by decide +kernel) (zq_cne (a := 0) (b := 0) (by omega) (by omega)) (fun c4 => absurd c4 (fun q => q rfl)) (fun c4 => ?_)
  show zq_G _ _ _ _ _ 7 ([(0, .ref 41)], [], MH c tr tx (nI Z) td dr2 s im kp at2 so2 (nI u) va2 wy)
  refine zq_b [zq_k (-10), zq_al 0, zq_get 12 10, zq_isub (zi (-10 - (u : Int)))] [zq_kchk (-10), zq_alchk 0, zq_getchk 12 10, zq_is .isub 1] 14 rfl (by decide +kernel) ?_
  refine ⟨(zi_m10 u), ?_⟩
  show zq_G _ _ _ _ _ 14 ([(0, .ref 41)], [.int (zi (-10 - (u : Int)))], MH c tr tx (nI Z) td dr2 s im kp at2 so2 (nI u) va2 wy)
  exact zq_iret (by decide +kernel) rfl rfl rfl
set_option maxHeartbeats 4000000 in
set_option maxRecDepth 100000 in
theorem mq_go  (h0 : dr2 0 = nI P) (hP : P ≤ 6) (h4 : dr2 4 = nI k) (hM : zq_P l mX12_reads 6 [.ref 41] (MH c tr tx (nI Z) td dr s im kp at_ so sr va wy) (some (.int 1)) (MH c tr tx (nI Z) td dr2 s im kp at2 so2 sr2 va2 wy)) : zq_P l mX12_square 7 [.ref 41] (MH c tr tx (nI Z) td dr s im kp at_ so sr va wy) (some (.int (nI k))) (MH c tr tx 0 (va_cpy dr2 td 0 0 32) dr2 (tlC P dr2 (va_cpy (fun _ => 0) s 0 0 1849) 6) im (upd (upd kp 0 0) 1 0) at2 so2 sr2 va2 wy) := by
  refine zq_start (by decide +kernel) rfl (Nat.le_of_ble_eq_true rfl) ?_
  show zq_G _ _ _ _ _ 0 ([(0, .ref 41)], [], MH c tr tx (nI Z) td dr s im kp at_ so sr va wy)
  refine zq_b [zq_al 0] [zq_alchk 0] 1 rfl (by decide +kernel) ?_
  show zq_G _ _ _ _ _ 1 ([(0, .ref 41)], [.ref 41], MH c tr tx (nI Z) td dr s im kp at_ so sr va wy)
  refine zq_callV (av := []) (rest := []) (by decide +kernel) k12_32 (hM) rfl rfl rfl rfl ?_
  show zq_G _ _ _ _ _ 4 ([(0, .ref 41)], [.int 1], MH c tr tx (nI Z) td dr2 s im kp at2 so2 sr2 va2 wy)
  refine zq_ifz .ne 15 (¬ 1 = 0) (by decide +kernel) (zq_cne (a := 1) (b := 0) (by omega) (by omega)) (fun c4 => ?_) (fun c4 => absurd (by decide) c4)
  show zq_G _ _ _ _ _ 15 ([(0, .ref 41)], [], MH c tr tx (nI Z) td dr2 s im kp at2 so2 sr2 va2 wy)
  refine zq_b [zq_al 0] [zq_alchk 0] 16 rfl (by decide +kernel) ?_
  show zq_G _ _ _ _ _ 16 ([(0, .ref 41)], [.ref 41], MH c tr tx (nI Z) td dr2 s im kp at2 so2 sr2 va2 wy)
  refine zq_callV (av := []) (rest := []) (by decide +kernel) k12_36 (m_tells h0 hP) rfl rfl rfl rfl ?_
  show zq_G _ _ _ _ _ 19 ([(0, .ref 41)], [], MH c tr tx (nI Z) (va_cpy dr2 td 0 0 32) dr2 (tlC P dr2 (va_cpy (fun _ => 0) s 0 0 1849) 6) im (upd (upd kp 0 0) 1 0) at2 so2 sr2 va2 wy)
  refine zq_b [zq_al 0, zq_k 0, zq_puti 12 2, zq_al 0, zq_get 12 3, zq_k 4, zq_iald 4 (nI k)] [zq_alchk 0, zq_kchk 0, zq_putchk 12 2 .int, zq_alchk 0, zq_getchk 12 3, zq_kchk 4, zq_is .iaload 1] 30 rfl (by decide +kernel) ?_
  refine ⟨rfl, (by omega), (by omega), ((pk_cpy_in (by omega) (by omega)).trans h4), ?_⟩
  show zq_G _ _ _ _ _ 30 ([(0, .ref 41)], [.int (nI k)], MH c tr tx 0 (va_cpy dr2 td 0 0 32) dr2 (tlC P dr2 (va_cpy (fun _ => 0) s 0 0 1849) 6) im (upd (upd kp 0 0) 1 0) at2 so2 sr2 va2 wy)
  exact zq_iret (by decide +kernel) rfl rfl rfl
theorem pItem_s {bt : Nat → Nat} {Z s0 v a s1 : Nat} {D : zD} (hS : s0 ≤ Z) (hE : a ≤ Z) (e1 : pItem bt Z s0 v a D = .inl s1) : s1 ≤ Z := by
  have hm : ∀ q, q ≤ Z → tkS bt Z q ≤ Z := fun q hq => tkS_max hq
  have m2 := tkE_max (bt := bt) hE
  have m3 := tkE_max (bt := bt) m2
  obtain ⟨P, C, R, L, lt, hs, ss, cs, ga, va⟩ := D
  unfold pItem at e1
  split at e1
  · unfold pPerson at e1; dsimp only at e1
    repeat' (split at e1)
    all_goals first | (cases e1; first | exact hS | exact hm _ hE | exact hm _ m2 | exact hm _ m3) | (cases e1)
  · split at e1
    · unfold pLate at e1; dsimp only at e1
      repeat' (split at e1)
      all_goals first | (cases e1; first | exact hS | exact hm _ hE | exact hm _ m2 | exact hm _ m3) | (cases e1)
    · split at e1
      · unfold pCloud at e1; dsimp only at e1
        repeat' (split at e1)
        all_goals first | (cases e1; first | exact hS | exact hm _ hE | exact hm _ m2 | exact hm _ m3) | (cases e1)
      · split at e1
        · unfold pRule at e1; dsimp only at e1
          repeat' (split at e1)
          all_goals first | (cases e1; first | exact hS | exact hm _ hE | exact hm _ m2 | exact hm _ m3) | (cases e1)
        · cases e1; exact hS
set_option maxHeartbeats 4000000 in
theorem m_item {D : zD} {s0 v : Nat} (hD : DOk D) (hr : DRM dr D k) (hZ : Z ≤ 200) (hbt : ∀ j, j < Z → tx j = nI (bt j) ∧ bt j ≤ 255) (ha : a ≤ Z) (hv : v ≤ 255) :
    (∃ s1, pItem bt Z s0 v a D = .inl s1 ∧ ∃ dr2 at2 so2 va2, zq_P l mX12_readsItem 5 [.ref 41] (MH c tr tx (nI Z) td dr s im kp (nI a) 1 (nI s0) (nI v) wy) (some (.int 0)) (MH c tr tx (nI Z) td dr2 s im kp at2 so2 (nI s1) va2 wy)) ∨
    (∃ a2 D2, a2 ≤ Z ∧ pItem bt Z s0 v a D = (if tkK bt Z a2 = 3 then .inr (tkE bt Z a2, D2) else .inl (tkS bt Z a2)) ∧ ∃ dr2 so2 sr2 va2, DRM dr2 D2 k ∧ zq_P l mX12_readsItem 5 [.ref 41] (MH c tr tx (nI Z) td dr s im kp (nI a) 1 (nI s0) (nI v) wy) (some (.int 1)) (MH c tr tx (nI Z) td dr2 s im kp (nI a2) so2 sr2 va2 wy)) := by
  obtain ⟨P, C, R, L, lt, hs, ss, cs, ga, vv⟩ := D
  obtain ⟨⟨e1, e2, e3, e4, e5, e6⟩, r1, r2, r3⟩ := hr
  dsimp only at e1 e2 e3 e4 e5 e6 r1 r2 r3
  obtain ⟨g1, g2, g3, g4, g5, g6, g7⟩ := hD
  dsimp only at g1 g2 g3 g4 g5 g6 g7
  have m1 := tkE_max (bt := bt) ha
  have m2 := tkE_max (bt := bt) m1
  by_cases v1 : v = 112
  · subst v1
    have eq : pItem bt Z s0 112 a (P, C, R, L, lt, hs, ss, cs, ga, vv) = pPerson bt Z s0 a (P, C, R, L, lt, hs, ss, cs, ga, vv) := by unfold pItem; rw [if_pos rfl]
    rw [eq]; unfold pPerson; dsimp only
    by_cases h6 : P = 6
    · rw [if_pos h6]
      exact Or.inl ⟨_, rfl, _, _, _, _, mi_p (Or.inl rfl) (mp_full hZ hbt ha e1 h6)⟩
    · rw [if_neg h6]
      by_cases n1 : tkK bt Z a = 2 ∧ 1 ≤ tkV bt Z a ∧ tkV bt Z a ≤ 9
      · rw [if_neg (fun q => q n1)]
        by_cases n2 : tkK bt Z (tkE bt Z a) = 2 ∧ 0 ≤ tkV bt Z (tkE bt Z a) ∧ tkV bt Z (tkE bt Z a) ≤ 25
        · rw [if_neg (fun q => q n2)]
          refine Or.inr ⟨tkE bt Z (tkE bt Z a), _, m2, rfl, _, _, _, _, ?_, mi_p (Or.inr rfl) (mp_go hZ hbt ha e1 (by omega) n1.1 n1.2.1 n1.2.2 n2.1 n2.2.1 n2.2.2)⟩
          refine ⟨⟨pk_us, by rw [pk_un (by omega), pk_un (by omega), pk_un (by omega)]; exact e2, by rw [pk_un (by omega), pk_un (by omega), pk_un (by omega)]; exact e3, by rw [pk_un (by omega), pk_un (by omega), pk_un (by omega)]; exact e4, by rw [pk_un (by omega), pk_un (by omega), pk_un (by omega)]; exact e5, by rw [pk_un (by omega), pk_un (by omega), pk_un (by omega)]; exact e6⟩, ?_, ?_, ?_⟩
          · intro j hj
            dsimp only at hj ⊢
            by_cases e : j = P
            · subst e; rw [pk_un (by omega), pk_un (by omega), pk_us, updN_s, pk_un (by omega), pk_us, updN_s]; exact ⟨rfl, rfl⟩
            · rw [pk_un (by omega), pk_un (by omega), pk_un (by omega), updN_n e, pk_un (by omega), pk_un (by omega), pk_un (by omega), updN_n e]; exact r1 j (by omega)
          · intro j hj; dsimp only at hj ⊢; rw [pk_un (by omega), pk_un (by omega), pk_un (by omega)]; exact r2 j hj
          · intro j hj; dsimp only at hj ⊢; rw [pk_un (by omega), pk_un (by omega), pk_un (by omega)]; exact r3 j hj
        · rw [if_pos n2]
          exact Or.inl ⟨_, rfl, _, _, _, _, mi_p (Or.inl rfl) (mp_n2 hZ hbt ha e1 (by omega) n1.1 n1.2.1 n1.2.2 n2)⟩
      · rw [if_pos n1]
        exact Or.inl ⟨_, rfl, _, _, _, _, mi_p (Or.inl rfl) (mp_n1 hZ hbt ha e1 (by omega) n1)⟩
  · by_cases v2 : v = 108
    · subst v2
      have eq : pItem bt Z s0 108 a (P, C, R, L, lt, hs, ss, cs, ga, vv) = pLate bt Z s0 a (P, C, R, L, lt, hs, ss, cs, ga, vv) := by unfold pItem; rw [if_neg (by decide), if_pos rfl]
      rw [eq]; unfold pLate; dsimp only
      cases lt with
      | true =>
        rw [if_pos rfl]
        exact Or.inl ⟨_, rfl, _, _, _, _, mi_l (Or.inl rfl) (ml_told e6)⟩
      | false =>
        rw [if_neg Bool.false_ne_true]
        by_cases n1 : tkK bt Z a = 2 ∧ 1 ≤ tkV bt Z a ∧ tkV bt Z a ≤ 30
        · rw [if_neg (fun q => q n1)]
          refine Or.inr ⟨tkE bt Z a, _, m1, rfl, _, _, _, _, ?_, mi_l (Or.inr rfl) (ml_go hZ hbt ha e6 n1.1 n1.2.1 n1.2.2)⟩
          refine ⟨⟨by rw [pk_un (by omega), pk_un (by omega)]; exact e1, by rw [pk_un (by omega), pk_un (by omega)]; exact e2, by rw [pk_un (by omega), pk_un (by omega)]; exact e3, pk_us, by rw [pk_un (by omega), pk_un (by omega)]; exact e5, by rw [pk_un (by omega), pk_us]; rfl⟩, ?_, ?_, ?_⟩
          · intro j hj; dsimp only at hj ⊢; rw [pk_un (by omega), pk_un (by omega), pk_un (by omega), pk_un (by omega)]; exact r1 j hj
          · intro j hj; dsimp only at hj ⊢; rw [pk_un (by omega), pk_un (by omega)]; exact r2 j hj
          · intro j hj; dsimp only at hj ⊢; rw [pk_un (by omega), pk_un (by omega)]; exact r3 j hj
        · rw [if_pos n1]
          exact Or.inl ⟨_, rfl, _, _, _, _, mi_l (Or.inl rfl) (ml_n hZ hbt ha e6 n1)⟩
    · by_cases v3 : v = 99
      · subst v3
        have eq : pItem bt Z s0 99 a (P, C, R, L, lt, hs, ss, cs, ga, vv) = pCloud bt Z s0 a (P, C, R, L, lt, hs, ss, cs, ga, vv) := by unfold pItem; rw [if_neg (by decide), if_neg (by decide), if_pos rfl]
        rw [eq]; unfold pCloud; dsimp only
        by_cases h6 : C = 8
        · rw [if_pos h6]
          exact Or.inl ⟨_, rfl, _, _, _, _, mi_c (Or.inl rfl) (mc_full hZ hbt ha e2 h6)⟩
        · rw [if_neg h6]
          by_cases n1 : tkK bt Z a = 2 ∧ 0 ≤ tkV bt Z a ∧ tkV bt Z a ≤ 99
          · rw [if_neg (fun q => q n1)]
            have hz := zany_nI (F := fun i => dr (18 + i)) (x := tkV bt Z a) r2 (fun j hj => by have := g6 j hj; omega) (by omega)
            have hM := mc_go (l := l) (c := c) (tr := tr) (td := td) (s := s) (im := im) (kp := kp) (so := 1) (sr := nI s0) (va := 99) (wy := wy) hZ hbt ha e2 (by omega) n1.1 n1.2.1 n1.2.2
            by_cases n2 : zany (fun i => decide (cs i = tkV bt Z a)) C = true
            · rw [if_pos n2]; rw [zb_0 (fun q => q (hz.trans n2))] at hM
              exact Or.inl ⟨_, rfl, _, _, _, _, mi_c (Or.inl rfl) hM⟩
            · rw [if_neg n2]; rw [zb_1 (show ¬ zany (fun i => decide (dr (18 + i) = nI (tkV bt Z a))) C = true from fun q => n2 (hz.symm.trans q))] at hM
              refine Or.inr ⟨tkE bt Z a, _, m1, rfl, _, _, _, _, ?_, mi_c (Or.inr rfl) hM⟩
              refine ⟨⟨by rw [pk_un (by omega), pk_un (by omega)]; exact e1, pk_us, by rw [pk_un (by omega), pk_un (by omega)]; exact e3, by rw [pk_un (by omega), pk_un (by omega)]; exact e4, by rw [pk_un (by omega), pk_un (by omega)]; exact e5, by rw [pk_un (by omega), pk_un (by omega)]; exact e6⟩, ?_, ?_, ?_⟩
              · intro j hj; dsimp only at hj ⊢; rw [pk_un (by omega), pk_un (by omega), pk_un (by omega), pk_un (by omega)]; exact r1 j hj
              · intro j hj
                dsimp only at hj ⊢
                by_cases e : j = C
                · subst e; rw [pk_un (by omega), pk_us, updN_s]
                · rw [pk_un (by omega), pk_un (by omega), updN_n e]; exact r2 j (by omega)
              · intro j hj; dsimp only at hj ⊢; rw [pk_un (by omega), pk_un (by omega)]; exact r3 j hj
          · rw [if_pos n1]
            exact Or.inl ⟨_, rfl, _, _, _, _, mi_c (Or.inl rfl) (mc_n hZ hbt ha e2 (by omega) n1)⟩
      · by_cases v4 : v = 114
        · subst v4
          have eq : pItem bt Z s0 114 a (P, C, R, L, lt, hs, ss, cs, ga, vv) = pRule bt Z s0 a (P, C, R, L, lt, hs, ss, cs, ga, vv) := by unfold pItem; rw [if_neg (by decide), if_neg (by decide), if_neg (by decide), if_pos rfl]
          rw [eq]; unfold pRule; dsimp only
          by_cases h6 : R = 6
          · rw [if_pos h6]
            exact Or.inl ⟨_, rfl, _, _, _, _, mi_r (Or.inl rfl) (mr_full hZ hbt ha e3 h6)⟩
          · rw [if_neg h6]
            by_cases n1 : tkK bt Z a = 2 ∧ 0 ≤ tkV bt Z a ∧ tkV bt Z a ≤ 7
            · rw [if_neg (fun q => q n1)]
              by_cases n2 : tkK bt Z (tkE bt Z a) = 2 ∧ 0 ≤ tkV bt Z (tkE bt Z a) ∧ tkV bt Z (tkE bt Z a) ≤ 7
              · rw [if_neg (fun q => q n2)]
                by_cases n4 : tkV bt Z (tkE bt Z a) = tkV bt Z a
                · rw [if_pos n4]
                  exact Or.inl ⟨_, rfl, _, _, _, _, mi_r (Or.inl rfl) (mr_eq hZ hbt ha e3 (by omega) n1.1 n1.2.1 n1.2.2 n2.1 n2.2.1 n2.2.2 n4)⟩
                · rw [if_neg n4]
                  refine Or.inr ⟨tkE bt Z (tkE bt Z a), _, m2, rfl, _, _, _, _, ?_, mi_r (Or.inr rfl) (mr_go hZ hbt ha e3 (by omega) n1.1 n1.2.1 n1.2.2 n2.1 n2.2.1 n2.2.2 n4)⟩
                  refine ⟨⟨by rw [pk_un (by omega), pk_un (by omega), pk_un (by omega), pk_un (by omega)]; exact e1, by rw [pk_un (by omega), pk_un (by omega), pk_un (by omega), pk_un (by omega)]; exact e2, pk_us, by rw [pk_un (by omega), pk_un (by omega), pk_un (by omega), pk_un (by omega)]; exact e4, by rw [pk_un (by omega), pk_un (by omega), pk_un (by omega), pk_un (by omega)]; exact e5, by rw [pk_un (by omega), pk_un (by omega), pk_un (by omega), pk_un (by omega)]; exact e6⟩, ?_, ?_, ?_⟩
                  · intro j hj; dsimp only at hj ⊢; rw [pk_un (by omega), pk_un (by omega), pk_un (by omega), pk_un (by omega), pk_un (by omega), pk_un (by omega), pk_un (by omega), pk_un (by omega)]; exact r1 j hj
                  · intro j hj; dsimp only at hj ⊢; rw [pk_un (by omega), pk_un (by omega), pk_un (by omega), pk_un (by omega)]; exact r2 j hj
                  · intro j hj
                    dsimp only at hj ⊢
                    by_cases e : j = R
                    · subst e; rw [pk_un (by omega), pk_us, updN_s, updN_s]
                    · rw [pk_un (by omega), pk_un (by omega), pk_un (by omega), pk_un (by omega), updN_n e, updN_n e]; exact r3 j (by omega)
              · rw [if_pos n2]
                exact Or.inl ⟨_, rfl, _, _, _, _, mi_r (Or.inl rfl) (mr_n2 hZ hbt ha e3 (by omega) n1.1 n1.2.1 n1.2.2 n2)⟩
            · rw [if_pos n1]
              exact Or.inl ⟨_, rfl, _, _, _, _, mi_r (Or.inl rfl) (mr_n1 hZ hbt ha e3 (by omega) n1)⟩
        · have eq : pItem bt Z s0 v a (P, C, R, L, lt, hs, ss, cs, ga, vv) = .inl s0 := by unfold pItem; rw [if_neg v1, if_neg v2, if_neg v3, if_neg v4]
          rw [eq]
          exact Or.inl ⟨_, rfl, _, _, _, _, mi_other hv v1 v2 v3 v4⟩
set_option maxHeartbeats 4000000 in
theorem m_loop (hZ : Z ≤ 200) (hbt : ∀ j, j < Z → tx j = nI (bt j) ∧ bt j ≤ 255) : ∀ (f k a : Nat) (D : zD) (dr : Nat → Int32), k + f = 201 → k ≤ a → a ≤ Z → DOk D → DRM dr D k →
    (∃ s1, s1 ≤ Z ∧ pAll bt Z f k a D = .inl s1 ∧ ∃ dr2 at2 so2 va2, zq_G l mX12_reads 6 (some (.int 0)) (MH c tr tx (nI Z) td dr2 s im kp at2 so2 (nI s1) va2 wy) 38 ([(0, .ref 41), (1, .int 32)], [], MH c tr tx (nI Z) td dr s im kp (nI (tkE bt Z a)) (nI (tkM bt Z a)) (nI (tkS bt Z a)) (tvM bt Z a) wy)) ∨
    (∃ k2 D2, pAll bt Z f k a D = .inr (k2, D2) ∧ DOk D2 ∧ ∃ dr2 at2 so2 sr2 va2, DRM dr2 D2 k2 ∧ zq_G l mX12_reads 6 (some (.int 1)) (MH c tr tx (nI Z) td dr2 s im kp at2 so2 sr2 va2 wy) 38 ([(0, .ref 41), (1, .int 32)], [], MH c tr tx (nI Z) td dr s im kp (nI (tkE bt Z a)) (nI (tkM bt Z a)) (nI (tkS bt Z a)) (tvM bt Z a) wy)) := by
  intro f
  induction f with
  | zero => intro k a D dr h1 h2 h3; omega
  | succ f ih =>
    intro k a D dr h1 h2 h3 hD hr
    have hE := tkE_max (bt := bt) h3
    have hS := tkS_max (bt := bt) h3
    by_cases k0 : tkK bt Z a = 0
    · exact Or.inr ⟨k, D, by rw [pAll, if_pos k0], hD, dr, _, _, _, _, hr, me_end hZ hbt h3 (tkM_0.mpr k0)⟩
    · have k0m : ¬ tkM bt Z a = 0 := fun q => k0 (tkM_0.mp q)
      by_cases k1 : tkK bt Z a = 1
      · have hv : tkV bt Z a ≤ 255 := tkV_le (fun j hj => (hbt j hj).2) k0
        have eq : pAll bt Z (f + 1) k a D = (match pItem bt Z (tkS bt Z a) (tkV bt Z a) (tkE bt Z a) D with | .inl s => .inl s | .inr (a', D') => pAll bt Z f (k + 1) a' D') := by rw [pAll, if_neg k0, if_pos k1]; rfl
        rw [eq]
        have e1m := tkM_1.mpr k1
        have e2m := tvM_1 k1
        rcases m_item (l := l) (c := c) (tr := tr) (td := td) (s := s) (im := im) (kp := kp) (wy := wy) (s0 := tkS bt Z a) (v := tkV bt Z a) hD hr hZ hbt hE hv with ⟨s1, q1, dr2, at2, so2, va2, hM⟩ | ⟨a2, D2, ha2, q1, dr2, so2, sr2, va2, hr2, hM⟩
        · have hs1 : s1 ≤ Z := pItem_s hS hE q1
          rw [q1]
          refine Or.inl ⟨s1, hs1, rfl, dr2, at2, so2, va2, me_bad hZ hbt h3 k0m ?_⟩
          rw [e1m, e2m]; exact hM
        · have hM2 : zq_P l mX12_readsItem 5 [.ref 41] (MH c tr tx (nI Z) td dr s im kp (nI (tkE bt Z a)) (nI (tkM bt Z a)) (nI (tkS bt Z a)) (tvM bt Z a) wy) (some (.int 1)) (MH c tr tx (nI Z) td dr2 s im kp (nI a2) so2 sr2 va2 wy) := by rw [e1m, e2m]; exact hM
          by_cases k3 : tkK bt Z a2 = 3
          · rw [if_pos k3] at q1
            rw [q1]
            obtain ⟨hD2, g1, g2⟩ := pItem_ok hD hE q1
            have gS := tkS_le bt Z a
            have gE := tkE_lt k0
            have h4 := hr2.1.2.2.2.2.1
            have hr3 : DRM (upd dr2 4 (nI (k + 1))) D2 (k + 1) := by
              obtain ⟨⟨e1, e2, e3, e4, e5, e6⟩, r1, r2, r3⟩ := hr2
              refine ⟨⟨by rw [pk_un (by omega)]; exact e1, by rw [pk_un (by omega)]; exact e2, by rw [pk_un (by omega)]; exact e3, by rw [pk_un (by omega)]; exact e4, pk_us, by rw [pk_un (by omega)]; exact e6⟩, ?_, ?_, ?_⟩
              · intro j hj; rw [pk_un (by omega), pk_un (by omega)]; exact r1 j hj
              · intro j hj; rw [pk_un (by omega)]; exact r2 j hj
              · intro j hj; rw [pk_un (by omega)]; exact r3 j hj
            rcases ih (k + 1) (tkE bt Z a2) D2 (upd dr2 4 (nI (k + 1))) (by omega) (by omega) g2 hD2 hr3 with ⟨s1, p1, p2, dr3, at3, so3, va3, hG⟩ | ⟨k2, D3, p2, p3, dr3, at3, so3, sr3, va3, p4, hG⟩
            · exact Or.inl ⟨s1, p1, p2, dr3, at3, so3, va3, me_go hZ hbt h3 ha2 k0m (tkM_3.mpr k3) h4 hM2 hG⟩
            · exact Or.inr ⟨k2, D3, p2, p3, dr3, at3, so3, sr3, va3, p4, me_go hZ hbt h3 ha2 k0m (tkM_3.mpr k3) h4 hM2 hG⟩
          · rw [if_neg k3] at q1
            rw [q1]
            exact Or.inl ⟨tkS bt Z a2, tkS_max ha2, rfl, dr2, _, _, _, me_bad2 hZ hbt h3 ha2 k0m (fun q => k3 (tkM_3.mp q)) hM2⟩
      · refine Or.inl ⟨tkS bt Z a, hS, by rw [pAll, if_neg k0, if_neg k1], dr, _, _, _, me_bad hZ hbt h3 k0m (mi_tok (fun q => k1 (tkM_1.mp q)) (tkM_le bt Z a))⟩
set_option maxHeartbeats 4000000 in
theorem m_square (hZ : Z ≤ 200) (hbt : ∀ j, j < Z → tx j = nI (bt j) ∧ bt j ≤ 255) :
    (∃ s1, s1 ≤ Z ∧ pAll bt Z 201 0 0 D00 = .inl s1 ∧ ∃ dr2 at2 so2 va2, zq_P l mX12_square 7 [.ref 41] (MH c tr tx (nI Z) td dr s im kp at_ so sr va wy) (some (.int (zi (-10 - (s1 : Int))))) (MH c tr tx (nI Z) td dr2 s im kp at2 so2 (nI s1) va2 wy)) ∨
    (∃ k D, pAll bt Z 201 0 0 D00 = .inr (k, D) ∧ DOk D ∧ ∃ dr2 at2 so2 sr2 va2, DRM dr2 D k ∧ zq_P l mX12_square 7 [.ref 41] (MH c tr tx (nI Z) td dr s im kp at_ so sr va wy) (some (.int (nI k))) (MH c tr tx 0 (va_cpy dr2 td 0 0 32) dr2 (tlC D.1 dr2 (va_cpy (fun _ => 0) s 0 0 1849) 6) im (upd (upd kp 0 0) 1 0) at2 so2 sr2 va2 wy)) := by
  have h00 : DRM (upd (va_cpy (fun _ => 0) dr 0 0 32) 3 12) D00 0 := by
    refine ⟨⟨?_, ?_, ?_, pk_us, ?_, ?_⟩, fun j h => absurd h (Nat.not_lt_zero j), fun j h => absurd h (Nat.not_lt_zero j), fun j h => absurd h (Nat.not_lt_zero j)⟩
    all_goals (rw [pk_un (by omega), pk_cpy_in (by omega) (by omega)]; rfl)
  rcases m_loop (l := l) (c := c) (tr := tr) (td := td) (s := s) (im := im) (kp := kp) (wy := wy) hZ hbt 201 0 0 D00 _ rfl (Nat.le_refl 0) (Nat.zero_le Z) D00_ok h00 with ⟨s1, q1, q2, dr2, at2, so2, va2, hG⟩ | ⟨k, D, q2, q3, dr2, at2, so2, sr2, va2, q4, hG⟩
  · exact Or.inl ⟨s1, q1, q2, dr2, at2, so2, va2, mq_bad (by omega) (me_start hZ hbt (Or.inl rfl) hG)⟩
  · exact Or.inr ⟨k, D, q2, q3, dr2, at2, so2, sr2, va2, q4, mq_go q4.1.1 q3.1 q4.1.2.2.2.2.1 (me_start hZ hbt (Or.inr rfl) hG)⟩
end MV6
