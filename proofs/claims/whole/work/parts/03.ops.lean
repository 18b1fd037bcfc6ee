/-! the operations, each with its proof -/
def zq_fl : List (Nat × Nat × Nat × Nat) := [(9, 31, 9, 0), (8, 69, 9, 0), (5, 67, 9, 0), (11, 240, 9, 0), (9, 34, 9, 1), (2, 23, 9, 1), (8, 88, 9, 1), (11, 243, 9, 1), (9, 37, 9, 2), (8, 98, 9, 2), (11, 246, 9, 2), (9, 9, 9, 3), (8, 85, 9, 3), (11, 135, 9, 3), (9, 15, 9, 4), (7, 25, 9, 4), (8, 76, 9, 4), (11, 109, 9, 4), (5, 90, 9, 4), (9, 19, 9, 5), (5, 41, 9, 5), (8, 79, 9, 5), (9, 22, 9, 6), (8, 95, 9, 6), (9, 25, 9, 7), (8, 101, 9, 7), (9, 28, 9, 8), (8, 104, 9, 8), (8, 9, 8, 0), (8, 15, 8, 1), (8, 25, 8, 2), (8, 29, 8, 3), (8, 32, 8, 4), (8, 51, 8, 5), (8, 44, 8, 6), (8, 54, 8, 7), (5, 24, 5, 0), (5, 28, 5, 1), (11, 129, 5, 1), (5, 32, 5, 2), (11, 126, 5, 2), (5, 35, 5, 3), (1, 36, 5, 3), (11, 153, 5, 3), (5, 38, 5, 4), (11, 162, 5, 4), (5, 9, 5, 5), (11, 112, 5, 5), (5, 15, 5, 6), (5, 18, 5, 7), (5, 21, 5, 8), (1, 9, 1, 0), (1, 15, 1, 1), (0, 7, 0, 0), (2, 19, 0, 0), (7, 21, 0, 0), (0, 13, 0, 1), (10, 21, 0, 1), (0, 17, 0, 2), (11, 230, 0, 2), (6, 9, 0, 3), (2, 7, 0, 3), (3, 9, 0, 3), (4, 7, 0, 3), (7, 9, 0, 3), (10, 9, 0, 3), (11, 249, 0, 3), (11, 9, 11, 0), (11, 91, 11, 1), (11, 16, 11, 2), (11, 20, 11, 3), (11, 28, 11, 4), (11, 37, 11, 5), (11, 41, 11, 6), (11, 45, 11, 7), (11, 54, 11, 8), (11, 61, 11, 9), (11, 83, 11, 10), (12, 139, 12, 0), (12, 7, 12, 1), (12, 43, 12, 2), (12, 13, 12, 3), (12, 16, 12, 4), (12, 19, 12, 5), (12, 22, 12, 6), (12, 25, 12, 7), (12, 47, 12, 8), (12, 64, 12, 9), (12, 54, 12, 10), (12, 67, 12, 11), (12, 29, 12, 12)]
def zq_kl : List (Nat × Nat × Int32) := [(13, 265, 1431655765), (13, 266, 858993459), (13, 267, 252645135), (11, 229, -1000000), (12, 138, -1000000)]
def zq_ll : List (Nat × Nat × Int64) := [(11, 200, -1), (11, 215, 10), (2, 13, 10000), (3, 15, 100), (4, 13, 1000), (7, 15, 10), (10, 15, 100000), (12, 130, -1), (12, 132, 10), (12, 143, 11), (12, 145, 101), (12, 147, 1011), (12, 149, 10101), (12, 151, 100001)]

def zq_fw (q : Nat × Nat × Nat × Nat) : Cond := let T := (vwCl.getD q.2.2.1 ("", fun _ => ("", "", "", false), 0)).2.1 q.2.2.2; Cond.fieldLink (zq_cn q.1) q.2.1 T.1 T.2.1 T.2.2.1
def zq_fchk (q : Nat × Nat × Nat × Nat) : Bool := decide (q.2.2.1 < 13) && decide (q.2.2.2 < (vwCl.getD q.2.2.1 ("", fun _ => ("", "", "", false), 0)).2.2) && decide (zq_fw q ∈ tables_1) && goodWord (zq_fw q)
set_option maxRecDepth 100000 in
theorem zq_fl_ok : zq_fl.all zq_fchk = true := by decide +kernel
set_option maxRecDepth 100000 in
theorem zq_kl_ok : zq_kl.all (fun q => decide (Cond.constant (zq_cn q.1) q.2.1 q.2.2 ∈ tables_1) && goodWord (Cond.constant (zq_cn q.1) q.2.1 q.2.2)) = true := by decide +kernel
set_option maxRecDepth 100000 in
theorem zq_ll_ok : zq_ll.all (fun q => decide (Cond.constantLong (zq_cn q.1) q.2.1 q.2.2 ∈ tables_1) && goodWord (Cond.constantLong (zq_cn q.1) q.2.1 q.2.2)) = true := by decide +kernel
set_option maxRecDepth 100000 in
theorem zq_us_ok : vwCl.all (fun c => (u_ws c.1 c.2.1 c.2.2).all (fun w => decide (w ∈ tables_1) && goodWord w)) = true := by decide +kernel
theorem zq_tg {w : Cond} (h : w ∈ tables_1) (hg : goodWord w = true) : w ∈ zq_g := List.mem_filter.mpr ⟨List.mem_append_right _ h, hg⟩
theorem zq_us {ci : Nat} {C : String} {T : u_T} {N : Nat} (h : vwCl[ci]? = some (C, T, N)) : ∀ w ∈ u_ws C T N, w ∈ zq_g := by
  intro w hw
  have h1 := List.all_eq_true.mp zq_us_ok (C, T, N) (List.mem_of_getElem? h)
  have h2 := List.all_eq_true.mp h1 w hw
  simp only [Bool.and_eq_true, decide_eq_true_eq] at h2
  exact zq_tg h2.1 h2.2
def zq_ty (ci : Nat) : Nat → FieldType := ([tyX0, tyX1, tyX2, tyX3, tyX4, tyX5, tyX6, tyX7, tyX8, tyX9, tyX10, tyX11, tyX12] : List (Nat → FieldType)).getD ci (fun _ => .int)
theorem zq_ty_ok {ci : Nat} {C : String} {T : u_T} {N : Nat} (h : vwCl[ci]? = some (C, T, N)) : ∀ k, k < N → parseFieldDescriptor (T k).2.2.1 = some (zq_ty ci k) := by
  match ci, h with
  | 0, h => cases h; exact tyX0_ok
  | 1, h => cases h; exact tyX1_ok
  | 2, h => cases h; exact tyX2_ok
  | 3, h => cases h; exact tyX3_ok
  | 4, h => cases h; exact tyX4_ok
  | 5, h => cases h; exact tyX5_ok
  | 6, h => cases h; exact tyX6_ok
  | 7, h => cases h; exact tyX7_ok
  | 8, h => cases h; exact tyX8_ok
  | 9, h => cases h; exact tyX9_ok
  | 10, h => cases h; exact tyX10_ok
  | 11, h => cases h; exact tyX11_ok
  | 12, h => cases h; exact tyX12_ok
  | n + 13, h => cases h
theorem zq_nm_ok {ci : Nat} {C : String} {T : u_T} {N : Nat} (h : vwCl[ci]? = some (C, T, N)) : ∀ a, a < N → ∀ b, b < N → a ≠ b → (T a).2.1 ≠ (T b).2.1 := by
  match ci, h with
  | 0, h => cases h; exact nmX0
  | 1, h => cases h; exact nmX1
  | 2, h => cases h; exact nmX2
  | 3, h => cases h; exact nmX3
  | 4, h => cases h; exact nmX4
  | 5, h => cases h; exact nmX5
  | 6, h => cases h; exact nmX6
  | 7, h => cases h; exact nmX7
  | 8, h => cases h; exact nmX8
  | 9, h => cases h; exact nmX9
  | 10, h => cases h; exact nmX10
  | 11, h => cases h; exact nmX11
  | 12, h => cases h; exact nmX12
  | n + 13, h => cases h
theorem zq_fl_at {o idx ci k : Nat} (h : (o, idx, ci, k) ∈ zq_fl) : ∃ (C : String) (T : u_T) (N : Nat), vwCl[ci]? = some (C, T, N) ∧ k < N ∧ Cond.fieldLink (zq_cn o) idx (T k).1 (T k).2.1 (T k).2.2.1 ∈ zq_g := by
  have h1 := List.all_eq_true.mp zq_fl_ok _ h
  unfold zq_fchk at h1
  simp only [Bool.and_eq_true, decide_eq_true_eq] at h1
  obtain ⟨⟨⟨h2, h3⟩, h4⟩, h5⟩ := h1
  have hl : ci < vwCl.length := h2
  have he : vwCl[ci]? = some vwCl[ci] := List.getElem?_eq_getElem hl
  have hg : vwCl.getD ci ("", fun _ => ("", "", "", false), 0) = vwCl[ci] := by rw [List.getD_eq_getElem?_getD, he]; rfl
  unfold zq_fw at h4 h5
  simp only [hg] at h3 h4 h5
  exact ⟨_, _, _, he, h3, zq_tg h4 h5⟩
theorem zq_iadd_ok (v : Int32) : zq_ok (zq_is .iadd 1, fun σ K => match σ with | (ls, .int y :: .int x :: st, h) => x + y = v ∧ K (ls, .int v :: st, h) | _ => False) := by
  intro l M d r h' pc len pc' i σ K hd hc hK hs
  obtain ⟨rfl, rfl, rfl⟩ := zq_is_spec (o := M) hc
  match σ, hs with
  | (ls, .int y :: .int x :: st, h), ⟨hv, hk⟩ =>
  subst hv
  intro p e s m args below meth c ad D cy A H locs la hX hP hD hS hl
  exact lv_iadd hX.1 hX.2.1 hd (hK _ hk p e s m args below meth c ad D cy A H locs la hX hP hD hS hl)
def zq_iadd (v : Int32) : zq_O := ⟨_, zq_iadd_ok v⟩
theorem zq_isub_ok (v : Int32) : zq_ok (zq_is .isub 1, fun σ K => match σ with | (ls, .int y :: .int x :: st, h) => x - y = v ∧ K (ls, .int v :: st, h) | _ => False) := by
  intro l M d r h' pc len pc' i σ K hd hc hK hs
  obtain ⟨rfl, rfl, rfl⟩ := zq_is_spec (o := M) hc
  match σ, hs with
  | (ls, .int y :: .int x :: st, h), ⟨hv, hk⟩ =>
  subst hv
  intro p e s m args below meth c ad D cy A H locs la hX hP hD hS hl
  exact lv_isub hX.1 hX.2.1 hd (hK _ hk p e s m args below meth c ad D cy A H locs la hX hP hD hS hl)
def zq_isub (v : Int32) : zq_O := ⟨_, zq_isub_ok v⟩
theorem zq_imul_ok (v : Int32) : zq_ok (zq_is .imul 1, fun σ K => match σ with | (ls, .int y :: .int x :: st, h) => x * y = v ∧ K (ls, .int v :: st, h) | _ => False) := by
  intro l M d r h' pc len pc' i σ K hd hc hK hs
  obtain ⟨rfl, rfl, rfl⟩ := zq_is_spec (o := M) hc
  match σ, hs with
  | (ls, .int y :: .int x :: st, h), ⟨hv, hk⟩ =>
  subst hv
  intro p e s m args below meth c ad D cy A H locs la hX hP hD hS hl
  exact lv_imul hX.1 hX.2.1 hd (hK _ hk p e s m args below meth c ad D cy A H locs la hX hP hD hS hl)
def zq_imul (v : Int32) : zq_O := ⟨_, zq_imul_ok v⟩
theorem zq_iand_ok (v : Int32) : zq_ok (zq_is .iand 1, fun σ K => match σ with | (ls, .int y :: .int x :: st, h) => x &&& y = v ∧ K (ls, .int v :: st, h) | _ => False) := by
  intro l M d r h' pc len pc' i σ K hd hc hK hs
  obtain ⟨rfl, rfl, rfl⟩ := zq_is_spec (o := M) hc
  match σ, hs with
  | (ls, .int y :: .int x :: st, h), ⟨hv, hk⟩ =>
  subst hv
  intro p e s m args below meth c ad D cy A H locs la hX hP hD hS hl
  exact lv_iand hX.1 hX.2.1 hd (hK _ hk p e s m args below meth c ad D cy A H locs la hX hP hD hS hl)
def zq_iand (v : Int32) : zq_O := ⟨_, zq_iand_ok v⟩
theorem zq_ior_ok (v : Int32) : zq_ok (zq_is .ior 1, fun σ K => match σ with | (ls, .int y :: .int x :: st, h) => x ||| y = v ∧ K (ls, .int v :: st, h) | _ => False) := by
  intro l M d r h' pc len pc' i σ K hd hc hK hs
  obtain ⟨rfl, rfl, rfl⟩ := zq_is_spec (o := M) hc
  match σ, hs with
  | (ls, .int y :: .int x :: st, h), ⟨hv, hk⟩ =>
  subst hv
  intro p e s m args below meth c ad D cy A H locs la hX hP hD hS hl
  exact lv_ior hX.1 hX.2.1 hd (hK _ hk p e s m args below meth c ad D cy A H locs la hX hP hD hS hl)
def zq_ior (v : Int32) : zq_O := ⟨_, zq_ior_ok v⟩
theorem zq_ixor_ok (v : Int32) : zq_ok (zq_is .ixor 1, fun σ K => match σ with | (ls, .int y :: .int x :: st, h) => x ^^^ y = v ∧ K (ls, .int v :: st, h) | _ => False) := by
  intro l M d r h' pc len pc' i σ K hd hc hK hs
  obtain ⟨rfl, rfl, rfl⟩ := zq_is_spec (o := M) hc
  match σ, hs with
  | (ls, .int y :: .int x :: st, h), ⟨hv, hk⟩ =>
  subst hv
  intro p e s m args below meth c ad D cy A H locs la hX hP hD hS hl
  exact lv_ixor hX.1 hX.2.1 hd (hK _ hk p e s m args below meth c ad D cy A H locs la hX hP hD hS hl)
def zq_ixor (v : Int32) : zq_O := ⟨_, zq_ixor_ok v⟩
theorem zq_ishl_ok (v : Int32) : zq_ok (zq_is .ishl 1, fun σ K => match σ with | (ls, .int y :: .int x :: st, h) => x <<< (y &&& 31) = v ∧ K (ls, .int v :: st, h) | _ => False) := by
  intro l M d r h' pc len pc' i σ K hd hc hK hs
  obtain ⟨rfl, rfl, rfl⟩ := zq_is_spec (o := M) hc
  match σ, hs with
  | (ls, .int y :: .int x :: st, h), ⟨hv, hk⟩ =>
  subst hv
  intro p e s m args below meth c ad D cy A H locs la hX hP hD hS hl
  exact lv_ishl hX.1 hX.2.1 hd (hK _ hk p e s m args below meth c ad D cy A H locs la hX hP hD hS hl)
def zq_ishl (v : Int32) : zq_O := ⟨_, zq_ishl_ok v⟩
theorem zq_ishr_ok (v : Int32) : zq_ok (zq_is .ishr 1, fun σ K => match σ with | (ls, .int y :: .int x :: st, h) => x >>> (y &&& 31) = v ∧ K (ls, .int v :: st, h) | _ => False) := by
  intro l M d r h' pc len pc' i σ K hd hc hK hs
  obtain ⟨rfl, rfl, rfl⟩ := zq_is_spec (o := M) hc
  match σ, hs with
  | (ls, .int y :: .int x :: st, h), ⟨hv, hk⟩ =>
  subst hv
  intro p e s m args below meth c ad D cy A H locs la hX hP hD hS hl
  exact lv_ishr hX.1 hX.2.1 hd (hK _ hk p e s m args below meth c ad D cy A H locs la hX hP hD hS hl)
def zq_ishr (v : Int32) : zq_O := ⟨_, zq_ishr_ok v⟩
theorem zq_iushr_ok (v : Int32) : zq_ok (zq_is .iushr 1, fun σ K => match σ with | (ls, .int y :: .int x :: st, h) => (x.toUInt32 >>> (y.toUInt32 &&& Int32.toUInt32 31)).toInt32 = v ∧ K (ls, .int v :: st, h) | _ => False) := by
  intro l M d r h' pc len pc' i σ K hd hc hK hs
  obtain ⟨rfl, rfl, rfl⟩ := zq_is_spec (o := M) hc
  match σ, hs with
  | (ls, .int y :: .int x :: st, h), ⟨hv, hk⟩ =>
  subst hv
  intro p e s m args below meth c ad D cy A H locs la hX hP hD hS hl
  exact lv_iushr hX.1 hX.2.1 hd rfl (hK _ hk p e s m args below meth c ad D cy A H locs la hX hP hD hS hl)
def zq_iushr (v : Int32) : zq_O := ⟨_, zq_iushr_ok v⟩
theorem zq_idiv_ok (v : Int32) : zq_ok (zq_is .idiv 1, fun σ K => match σ with | (ls, .int y :: .int x :: st, h) => (¬ y = 0) ∧ x / y = v ∧ K (ls, .int v :: st, h) | _ => False) := by
  intro l M d r h' pc len pc' i σ K hd hc hK hs
  obtain ⟨rfl, rfl, rfl⟩ := zq_is_spec (o := M) hc
  match σ, hs with
  | (ls, .int y :: .int x :: st, h), ⟨hne, hv, hk⟩ =>
  subst hv
  intro p e s m args below meth c ad D cy A H locs la hX hP hD hS hl
  exact lv_idiv hX.1 hX.2.1 hd hne (hK _ hk p e s m args below meth c ad D cy A H locs la hX hP hD hS hl)
def zq_idiv (v : Int32) : zq_O := ⟨_, zq_idiv_ok v⟩
theorem zq_irem_ok (v : Int32) : zq_ok (zq_is .irem 1, fun σ K => match σ with | (ls, .int y :: .int x :: st, h) => (¬ y = 0) ∧ x - x / y * y = v ∧ K (ls, .int v :: st, h) | _ => False) := by
  intro l M d r h' pc len pc' i σ K hd hc hK hs
  obtain ⟨rfl, rfl, rfl⟩ := zq_is_spec (o := M) hc
  match σ, hs with
  | (ls, .int y :: .int x :: st, h), ⟨hne, hv, hk⟩ =>
  subst hv
  intro p e s m args below meth c ad D cy A H locs la hX hP hD hS hl
  exact lv_irem hX.1 hX.2.1 hd hne (hK _ hk p e s m args below meth c ad D cy A H locs la hX hP hD hS hl)
def zq_irem (v : Int32) : zq_O := ⟨_, zq_irem_ok v⟩
theorem zq_ladd_ok (v : Int64) : zq_ok (zq_is .ladd 1, fun σ K => match σ with | (ls, .long y :: .long x :: st, h) => x + y = v ∧ K (ls, .long v :: st, h) | _ => False) := by
  intro l M d r h' pc len pc' i σ K hd hc hK hs
  obtain ⟨rfl, rfl, rfl⟩ := zq_is_spec (o := M) hc
  match σ, hs with
  | (ls, .long y :: .long x :: st, h), ⟨hv, hk⟩ =>
  subst hv
  intro p e s m args below meth c ad D cy A H locs la hX hP hD hS hl
  exact lv_ladd hX.1 hX.2.1 hd (hK _ hk p e s m args below meth c ad D cy A H locs la hX hP hD hS hl)
def zq_ladd (v : Int64) : zq_O := ⟨_, zq_ladd_ok v⟩
theorem zq_lsub_ok (v : Int64) : zq_ok (zq_is .lsub 1, fun σ K => match σ with | (ls, .long y :: .long x :: st, h) => x - y = v ∧ K (ls, .long v :: st, h) | _ => False) := by
  intro l M d r h' pc len pc' i σ K hd hc hK hs
  obtain ⟨rfl, rfl, rfl⟩ := zq_is_spec (o := M) hc
  match σ, hs with
  | (ls, .long y :: .long x :: st, h), ⟨hv, hk⟩ =>
  subst hv
  intro p e s m args below meth c ad D cy A H locs la hX hP hD hS hl
  exact lv_lsub hX.1 hX.2.1 hd (hK _ hk p e s m args below meth c ad D cy A H locs la hX hP hD hS hl)
def zq_lsub (v : Int64) : zq_O := ⟨_, zq_lsub_ok v⟩
theorem zq_lmul_ok (v : Int64) : zq_ok (zq_is .lmul 1, fun σ K => match σ with | (ls, .long y :: .long x :: st, h) => x * y = v ∧ K (ls, .long v :: st, h) | _ => False) := by
  intro l M d r h' pc len pc' i σ K hd hc hK hs
  obtain ⟨rfl, rfl, rfl⟩ := zq_is_spec (o := M) hc
  match σ, hs with
  | (ls, .long y :: .long x :: st, h), ⟨hv, hk⟩ =>
  subst hv
  intro p e s m args below meth c ad D cy A H locs la hX hP hD hS hl
  exact lv_lmul hX.1 hX.2.1 hd (hK _ hk p e s m args below meth c ad D cy A H locs la hX hP hD hS hl)
def zq_lmul (v : Int64) : zq_O := ⟨_, zq_lmul_ok v⟩
theorem zq_ldiv_ok (v : Int64) : zq_ok (zq_is .ldiv 1, fun σ K => match σ with | (ls, .long y :: .long x :: st, h) => (¬ y = 0) ∧ x / y = v ∧ K (ls, .long v :: st, h) | _ => False) := by
  intro l M d r h' pc len pc' i σ K hd hc hK hs
  obtain ⟨rfl, rfl, rfl⟩ := zq_is_spec (o := M) hc
  match σ, hs with
  | (ls, .long y :: .long x :: st, h), ⟨hne, hv, hk⟩ =>
  subst hv
  intro p e s m args below meth c ad D cy A H locs la hX hP hD hS hl
  exact lv_ldiv hX.1 hX.2.1 hd hne (hK _ hk p e s m args below meth c ad D cy A H locs la hX hP hD hS hl)
def zq_ldiv (v : Int64) : zq_O := ⟨_, zq_ldiv_ok v⟩
theorem zq_lrem_ok (v : Int64) : zq_ok (zq_is .lrem 1, fun σ K => match σ with | (ls, .long y :: .long x :: st, h) => (¬ y = 0) ∧ x - x / y * y = v ∧ K (ls, .long v :: st, h) | _ => False) := by
  intro l M d r h' pc len pc' i σ K hd hc hK hs
  obtain ⟨rfl, rfl, rfl⟩ := zq_is_spec (o := M) hc
  match σ, hs with
  | (ls, .long y :: .long x :: st, h), ⟨hne, hv, hk⟩ =>
  subst hv
  intro p e s m args below meth c ad D cy A H locs la hX hP hD hS hl
  exact lv_lrem hX.1 hX.2.1 hd hne (hK _ hk p e s m args below meth c ad D cy A H locs la hX hP hD hS hl)
def zq_lrem (v : Int64) : zq_O := ⟨_, zq_lrem_ok v⟩
theorem zq_i2l_ok (v : Int64) : zq_ok (zq_is .i2l 1, fun σ K => match σ with | (ls, .int x :: st, h) => x.toInt64 = v ∧ K (ls, .long v :: st, h) | _ => False) := by
  intro l M d r h' pc len pc' i σ K hd hc hK hs
  obtain ⟨rfl, rfl, rfl⟩ := zq_is_spec (o := M) hc
  match σ, hs with
  | (ls, .int x :: st, h), ⟨hv, hk⟩ =>
  intro p e s m args below meth c ad D cy A H locs la hX hP hD hS hl
  exact lv_i2l hX.1 hX.2.1 hd hv (hK _ hk p e s m args below meth c ad D cy A H locs la hX hP hD hS hl)
def zq_i2l (v : Int64) : zq_O := ⟨_, zq_i2l_ok v⟩
theorem zq_lcmp_ok (v : Int32) : zq_ok (zq_is .lcmp 1, fun σ K => match σ with | (ls, .long y :: .long x :: st, h) => lg_cmp x y = v ∧ K (ls, .int v :: st, h) | _ => False) := by
  intro l M d r h' pc len pc' i σ K hd hc hK hs
  obtain ⟨rfl, rfl, rfl⟩ := zq_is_spec (o := M) hc
  match σ, hs with
  | (ls, .long y :: .long x :: st, h), ⟨hv, hk⟩ =>
  subst hv
  intro p e s m args below meth c ad D cy A H locs la hX hP hD hS hl
  exact W.lcmp hX.1 hX.2.1 hd (hK _ hk p e s m args below meth c ad D cy A H locs la hX hP hD hS hl)
def zq_lcmp (v : Int32) : zq_O := ⟨_, zq_lcmp_ok v⟩
theorem zq_pop_ok  : zq_ok (zq_is .pop 1, fun σ K => match σ with | (ls, v :: st, h) => v.category = 1 ∧ K (ls, st, h) | _ => False) := by
  intro l M d r h' pc len pc' i σ K hd hc hK hs
  obtain ⟨rfl, rfl, rfl⟩ := zq_is_spec (o := M) hc
  match σ, hs with
  | (ls, v :: st, h), ⟨hv, hk⟩ =>
  intro p e s m args below meth c ad D cy A H locs la hX hP hD hS hl
  exact lv_pop hX.1 hX.2.1 hd ((zq_cat ad v).trans hv) (hK _ hk p e s m args below meth c ad D cy A H locs la hX hP hD hS hl)
def zq_pop  : zq_O := ⟨_, zq_pop_ok ⟩
theorem zq_dup_ok  : zq_ok (zq_is .dup 1, fun σ K => match σ with | (ls, .int v :: st, h) => K (ls, .int v :: .int v :: st, h) | (ls, .ref v :: st, h) => K (ls, .ref v :: .ref v :: st, h) | _ => False) := by
  intro l M d r h' pc len pc' i σ K hd hc hK hs
  obtain ⟨rfl, rfl, rfl⟩ := zq_is_spec (o := M) hc
  match σ, hs with
  | (ls, .int v :: st, h), hk =>
    intro p e s m args below meth c ad D cy A H locs la hX hP hD hS hl
    exact lv_dup hX.1 hX.2.1 hd rfl (hK _ hk p e s m args below meth c ad D cy A H locs la hX hP hD hS hl)
  | (ls, .ref v :: st, h), hk =>
    intro p e s m args below meth c ad D cy A H locs la hX hP hD hS hl
    exact lv_dup hX.1 hX.2.1 hd rfl (hK _ hk p e s m args below meth c ad D cy A H locs la hX hP hD hS hl)
def zq_dup  : zq_O := ⟨_, zq_dup_ok ⟩
theorem zq_dup2_ok  : zq_ok (zq_is .dup2 1, fun σ K => match σ with | (ls, .int v :: .ref w :: st, h) => K (ls, .int v :: .ref w :: .int v :: .ref w :: st, h) | (ls, .long v :: st, h) => K (ls, .long v :: .long v :: st, h) | _ => False) := by
  intro l M d r h' pc len pc' i σ K hd hc hK hs
  obtain ⟨rfl, rfl, rfl⟩ := zq_is_spec (o := M) hc
  match σ, hs with
  | (ls, .int v :: .ref w :: st, h), hk =>
    intro p e s m args below meth c ad D cy A H locs la hX hP hD hS hl
    exact lv_dup2_11 hX.1 hX.2.1 hd rfl rfl (hK _ hk p e s m args below meth c ad D cy A H locs la hX hP hD hS hl)
  | (ls, .long v :: st, h), hk =>
    intro p e s m args below meth c ad D cy A H locs la hX hP hD hS hl
    exact lv_dup2_2 hX.1 hX.2.1 hd rfl (hK _ hk p e s m args below meth c ad D cy A H locs la hX hP hD hS hl)
def zq_dup2  : zq_O := ⟨_, zq_dup2_ok ⟩
def zq_kchk (v : Int32) : zq_M → Nat → Nat → Instr → Option Nat := fun M pc len i => match i with
  | .iconst n => if Int32.ofInt n = v ∧ len = 1 then some (pc + 1) else none
  | .bipush n => if (Int8.ofInt n).toInt32 = v ∧ len = 2 then some (pc + 2) else none
  | .sipush n => if (Int16.ofInt n).toInt32 = v ∧ len = 3 then some (pc + 3) else none
  | .ldc k => if (M.1, k, v) ∈ zq_kl ∧ len = 2 then some (pc + 2) else none
  | .ldc_w k => if (M.1, k, v) ∈ zq_kl ∧ len = 3 then some (pc + 3) else none
  | _ => none
theorem zq_kl_at {o idx : Nat} {v : Int32} (h : (o, idx, v) ∈ zq_kl) : Cond.constant (zq_cn o) idx v ∈ zq_g := by
  have h1 := List.all_eq_true.mp zq_kl_ok _ h
  simp only [Bool.and_eq_true, decide_eq_true_eq] at h1
  exact zq_tg h1.1 h1.2
theorem zq_ll_at {o idx : Nat} {v : Int64} (h : (o, idx, v) ∈ zq_ll) : Cond.constantLong (zq_cn o) idx v ∈ zq_g := by
  have h1 := List.all_eq_true.mp zq_ll_ok _ h
  simp only [Bool.and_eq_true, decide_eq_true_eq] at h1
  exact zq_tg h1.1 h1.2
theorem zq_k_ok (v : Int32) : zq_ok (zq_kchk v, fun σ K => K (σ.1, .int v :: σ.2.1, σ.2.2)) := by
  intro l M d r h' pc len pc' i σ K hd hc hK hs
  intro p e s m args below meth c ad D cy A H locs la hX hP hD hS hl
  have hk := hK _ hs p e s m args below meth c ad D cy A H locs la hX hP hD hS hl
  replace hc : zq_kchk v M pc len i = some pc' := hc
  unfold zq_kchk at hc
  split at hc
  · split at hc
    · rename_i hq; obtain ⟨h1, rfl⟩ := hq; cases hc; exact lv_iconst hX.1 hX.2.1 hd h1 hk
    · cases hc
  · split at hc
    · rename_i hq; obtain ⟨h1, rfl⟩ := hq; cases hc; exact lv_bipush hX.1 hX.2.1 hd h1 hk
    · cases hc
  · split at hc
    · rename_i hq; obtain ⟨h1, rfl⟩ := hq; cases hc; exact lv_sipush hX.1 hX.2.1 hd h1 hk
    · cases hc
  · split at hc
    · rename_i hq; obtain ⟨h1, rfl⟩ := hq; cases hc; exact lv_ldc hX.1 hX.2.1 hX.2.2.2.2.2.1 (hX.2.2.2.2.2.2.1 _ (zq_kl_at h1)) hd hk
    · cases hc
  · split at hc
    · rename_i hq; obtain ⟨h1, rfl⟩ := hq; cases hc; exact lv_ldcw hX.1 hX.2.1 hX.2.2.2.2.2.1 (hX.2.2.2.2.2.2.1 _ (zq_kl_at h1)) hd hk
    · cases hc
  · cases hc
def zq_k (v : Int32) : zq_O := ⟨_, zq_k_ok v⟩
def zq_klchk (v : Int64) : zq_M → Nat → Nat → Instr → Option Nat := fun M pc len i => match i with
  | .lconst n => if Int64.ofNat (n : Nat) = v ∧ len = 1 then some (pc + 1) else none
  | .ldc2_w k => if (M.1, k, v) ∈ zq_ll ∧ len = 3 then some (pc + 3) else none
  | _ => none
theorem zq_kj_ok (v : Int64) : zq_ok (zq_klchk v, fun σ K => K (σ.1, .long v :: σ.2.1, σ.2.2)) := by
  intro l M d r h' pc len pc' i σ K hd hc hK hs
  intro p e s m args below meth c ad D cy A H locs la hX hP hD hS hl
  have hk := hK _ hs p e s m args below meth c ad D cy A H locs la hX hP hD hS hl
  replace hc : zq_klchk v M pc len i = some pc' := hc
  unfold zq_klchk at hc
  split at hc
  · split at hc
    · rename_i hq; obtain ⟨h1, rfl⟩ := hq; cases hc; exact lv_lconst hX.1 hX.2.1 hd h1 hk
    · cases hc
  · split at hc
    · rename_i hq; obtain ⟨h1, rfl⟩ := hq; cases hc; exact lv_ldc2 hX.1 hX.2.1 hX.2.2.2.2.2.1 (hX.2.2.2.2.2.2.1 _ (zq_ll_at h1)) hd hk
    · cases hc
  · cases hc
def zq_kj (v : Int64) : zq_O := ⟨_, zq_kj_ok v⟩
def zq_ilchk (j : Nat) : zq_M → Nat → Nat → Instr → Option Nat := fun _ pc len i => match i with
  | .iload k => if k = j ∧ len = 2 then some (pc + 2) else none
  | .iload_n k => if (k : Nat) = j ∧ len = 1 then some (pc + 1) else none
  | _ => none
theorem zq_il_ok (j : Nat) : zq_ok (zq_ilchk j, fun σ K => match zq_ld j σ.1 with | some (.int x) => K (σ.1, .int x :: σ.2.1, σ.2.2) | _ => False) := by
  intro l M d r h' pc len pc' i σ K hd hc hK hs
  intro p e s m args below meth c ad D cy A H locs la hX hP hD hS hl
  dsimp only at hs
  split at hs
  · rename_i x hx
    have hk := hK _ hs p e s m args below meth c ad D cy A H locs la hX hP hD hS hl
    have ha := zq_at hl hx
    replace hc : zq_ilchk j M pc len i = some pc' := hc
    unfold zq_ilchk at hc
    split at hc
    · split at hc
      · rename_i hq; obtain ⟨rfl, rfl⟩ := hq; cases hc; exact lv_iload hX.1 hX.2.1 hd ha hk
      · cases hc
    · split at hc
      · rename_i hq; obtain ⟨h1, rfl⟩ := hq; cases hc; exact lv_iload_n hX.1 hX.2.1 hd h1 ha hk
      · cases hc
    · cases hc
  · exact hs.elim
def zq_il (j : Nat) : zq_O := ⟨_, zq_il_ok j⟩
def zq_jlchk (j : Nat) : zq_M → Nat → Nat → Instr → Option Nat := fun _ pc len i => match i with
  | .lload k => if k = j ∧ len = 2 then some (pc + 2) else none
  | .lload_n k => if (k : Nat) = j ∧ len = 1 then some (pc + 1) else none
  | _ => none
theorem zq_jl_ok (j : Nat) : zq_ok (zq_jlchk j, fun σ K => match zq_ld j σ.1 with | some (.long x) => K (σ.1, .long x :: σ.2.1, σ.2.2) | _ => False) := by
  intro l M d r h' pc len pc' i σ K hd hc hK hs
  intro p e s m args below meth c ad D cy A H locs la hX hP hD hS hl
  dsimp only at hs
  split at hs
  · rename_i x hx
    have hk := hK _ hs p e s m args below meth c ad D cy A H locs la hX hP hD hS hl
    have ha := zq_at hl hx
    replace hc : zq_jlchk j M pc len i = some pc' := hc
    unfold zq_jlchk at hc
    split at hc
    · split at hc
      · rename_i hq; obtain ⟨rfl, rfl⟩ := hq; cases hc; exact lv_lload hX.1 hX.2.1 hd ha hk
      · cases hc
    · split at hc
      · rename_i hq; obtain ⟨h1, rfl⟩ := hq; cases hc; exact lv_lload_n hX.1 hX.2.1 hd h1 ha hk
      · cases hc
    · cases hc
  · exact hs.elim
def zq_jl (j : Nat) : zq_O := ⟨_, zq_jl_ok j⟩
def zq_alchk (j : Nat) : zq_M → Nat → Nat → Instr → Option Nat := fun _ pc len i => match i with
  | .aload k => if k = j ∧ len = 2 then some (pc + 2) else none
  | .aload_n k => if (k : Nat) = j ∧ len = 1 then some (pc + 1) else none
  | _ => none
theorem zq_al_ok (j : Nat) : zq_ok (zq_alchk j, fun σ K => match zq_ld j σ.1 with | some (.ref x) => K (σ.1, .ref x :: σ.2.1, σ.2.2) | _ => False) := by
  intro l M d r h' pc len pc' i σ K hd hc hK hs
  intro p e s m args below meth c ad D cy A H locs la hX hP hD hS hl
  dsimp only at hs
  split at hs
  · rename_i x hx
    have hk := hK _ hs p e s m args below meth c ad D cy A H locs la hX hP hD hS hl
    have ha := zq_at hl hx
    replace hc : zq_alchk j M pc len i = some pc' := hc
    unfold zq_alchk at hc
    split at hc
    · split at hc
      · rename_i hq; obtain ⟨rfl, rfl⟩ := hq; cases hc; exact lv_aload hX.1 hX.2.1 hd ha hk
      · cases hc
    · split at hc
      · rename_i hq; obtain ⟨h1, rfl⟩ := hq; cases hc; exact lv_aload_n hX.1 hX.2.1 hd h1 ha hk
      · cases hc
    · cases hc
  · exact hs.elim
def zq_al (j : Nat) : zq_O := ⟨_, zq_al_ok j⟩
def zq_is1chk (j : Nat) : zq_M → Nat → Nat → Instr → Option Nat := fun M pc len i => match i with
  | .istore k => if k = j ∧ len = 2 ∧ j < M.2.2.2.1 then some (pc + 2) else none
  | .istore_n k => if (k : Nat) = j ∧ len = 1 ∧ j < M.2.2.2.1 then some (pc + 1) else none
  | _ => none
theorem zq_is1_ok (j : Nat) : zq_ok (zq_is1chk j, fun σ K => match σ with | (ls, .int x :: st, h) => K (zq_s1 j (.int x) ls, st, h) | _ => False) := by
  intro l M d r h' pc len pc' i σ K hd hc hK hs
  match σ, hs with
  | (ls, .int x :: st, h), hk =>
  intro p e s m args below meth c ad D cy A H locs la hX hP hD hS hl
  have hk := fun la2 hl2 => hK _ hk p e s m args below meth c ad D cy A H locs la2 hX hP hD hS hl2
  replace hc : zq_is1chk j M pc len i = some pc' := hc
  unfold zq_is1chk at hc
  split at hc
  · split at hc
    · rename_i hq; obtain ⟨rfl, rfl, hj⟩ := hq; cases hc; exact lv_istore hX.1 hX.2.1 hd hl hj rfl (fun la2 hl2 => hk la2 (zq_s1_has (v := .int x) hl2))
    · cases hc
  · split at hc
    · rename_i hq; obtain ⟨h1, rfl, hj⟩ := hq; cases hc; exact lv_istore_n hX.1 hX.2.1 hd h1 hl hj rfl (fun la2 hl2 => hk la2 (zq_s1_has (v := .int x) hl2))
    · cases hc
  · cases hc
def zq_is1 (j : Nat) : zq_O := ⟨_, zq_is1_ok j⟩
def zq_ls1chk (j : Nat) : zq_M → Nat → Nat → Instr → Option Nat := fun M pc len i => match i with
  | .lstore k => if k = j ∧ len = 2 ∧ j + 1 < M.2.2.2.1 then some (pc + 2) else none
  | .lstore_n k => if (k : Nat) = j ∧ len = 1 ∧ j + 1 < M.2.2.2.1 then some (pc + 1) else none
  | _ => none
theorem zq_ls1_ok (j : Nat) : zq_ok (zq_ls1chk j, fun σ K => match σ with | (ls, .long x :: st, h) => K (zq_s2 j (.long x) ls, st, h) | _ => False) := by
  intro l M d r h' pc len pc' i σ K hd hc hK hs
  match σ, hs with
  | (ls, .long x :: st, h), hk =>
  intro p e s m args below meth c ad D cy A H locs la hX hP hD hS hl
  have hk := fun la2 hl2 => hK _ hk p e s m args below meth c ad D cy A H locs la2 hX hP hD hS hl2
  replace hc : zq_ls1chk j M pc len i = some pc' := hc
  unfold zq_ls1chk at hc
  split at hc
  · split at hc
    · rename_i hq; obtain ⟨rfl, rfl, hj⟩ := hq; cases hc; exact lv_lstore hX.1 hX.2.1 hd hl hj rfl (fun la2 hl2 => hk la2 (zq_s2_has (v := .long x) hl2))
    · cases hc
  · split at hc
    · rename_i hq; obtain ⟨h1, rfl, hj⟩ := hq; cases hc; exact lv_lstore_n hX.1 hX.2.1 hd h1 hl hj rfl (fun la2 hl2 => hk la2 (zq_s2_has (v := .long x) hl2))
    · cases hc
  · cases hc
def zq_ls1 (j : Nat) : zq_O := ⟨_, zq_ls1_ok j⟩
def zq_as1chk (j : Nat) : zq_M → Nat → Nat → Instr → Option Nat := fun M pc len i => match i with
  | .astore k => if k = j ∧ len = 2 ∧ j < M.2.2.2.1 then some (pc + 2) else none
  | .astore_n k => if (k : Nat) = j ∧ len = 1 ∧ j < M.2.2.2.1 then some (pc + 1) else none
  | _ => none
theorem zq_as1_ok (j : Nat) : zq_ok (zq_as1chk j, fun σ K => match σ with | (ls, .ref x :: st, h) => K (zq_s1 j (.ref x) ls, st, h) | _ => False) := by
  intro l M d r h' pc len pc' i σ K hd hc hK hs
  match σ, hs with
  | (ls, .ref x :: st, h), hk =>
  intro p e s m args below meth c ad D cy A H locs la hX hP hD hS hl
  have hk := fun la2 hl2 => hK _ hk p e s m args below meth c ad D cy A H locs la2 hX hP hD hS hl2
  replace hc : zq_as1chk j M pc len i = some pc' := hc
  unfold zq_as1chk at hc
  split at hc
  · split at hc
    · rename_i hq; obtain ⟨rfl, rfl, hj⟩ := hq; cases hc; exact lv_astore hX.1 hX.2.1 hd hl hj rfl (fun la2 hl2 => hk la2 (zq_s1_has (v := .ref x) hl2))
    · cases hc
  · split at hc
    · rename_i hq; obtain ⟨h1, rfl, hj⟩ := hq; cases hc; exact lv_astore_n hX.1 hX.2.1 hd h1 hl hj rfl (fun la2 hl2 => hk la2 (zq_s1_has (v := .ref x) hl2))
    · cases hc
  · cases hc
def zq_as1 (j : Nat) : zq_O := ⟨_, zq_as1_ok j⟩
def zq_incchk (j : Nat) (n : Int) : zq_M → Nat → Nat → Instr → Option Nat := fun M pc len i => if i = .iinc j n ∧ len = 3 ∧ j < M.2.2.2.1 then some (pc + 3) else none
theorem zq_inc_ok (j : Nat) (n : Int) (v : Int32) : zq_ok (zq_incchk j n, fun σ K => match zq_ld j σ.1 with | some (.int x) => x + Int32.ofInt n = v ∧ K (zq_s1 j (.int v) σ.1, σ.2.1, σ.2.2) | _ => False) := by
  intro l M d r h' pc len pc' i σ K hd hc hK hs
  intro p e s m args below meth c ad D cy A H locs la hX hP hD hS hl
  dsimp only at hs
  split at hs
  · rename_i x hx
    obtain ⟨hv, hs⟩ := hs
    have hk := fun la2 hl2 => hK _ hs p e s m args below meth c ad D cy A H locs la2 hX hP hD hS hl2
    replace hc : zq_incchk j n M pc len i = some pc' := hc
    unfold zq_incchk at hc
    split at hc
    · rename_i hq
      obtain ⟨rfl, rfl, hj⟩ := hq
      cases hc
      obtain ⟨k, hk2⟩ := List.getElem?_of_mem (List.mem_map.mpr ⟨(j, Value.int x), zq_ld_mem hx, rfl⟩ : (j, zq_v ad (.int x)) ∈ σ.1.map (fun q => (q.1, zq_v ad q.2)))
      exact lv_iinc hX.1 hX.2.1 hd hl hk2 hv hj rfl (fun la2 hl2 => hk la2 (zq_s1_has (v := .int v) hl2))
    · cases hc
  · exact hs.elim
def zq_inc (j : Nat) (n : Int) (v : Int32) : zq_O := ⟨_, zq_inc_ok j n v⟩
def zq_gochk : zq_M → Nat → Nat → Instr → Option Nat := fun _ pc len i => match i with
  | .goto off => if len = 3 ∧ 0 ≤ (pc : Int) + off then some ((pc : Int) + off).toNat else none
  | _ => none
theorem zq_go_ok : zq_ok (zq_gochk, fun σ K => K σ) := by
  intro l M d r h' pc len pc' i σ K hd hc hK hs
  intro p e s m args below meth c ad D cy A H locs la hX hP hD hS hl
  have hk := hK _ hs p e s m args below meth c ad D cy A H locs la hX hP hD hS hl
  replace hc : zq_gochk M pc len i = some pc' := hc
  unfold zq_gochk at hc
  split at hc
  · split at hc
    · rename_i hq; obtain ⟨rfl, h1⟩ := hq; cases hc; exact lv_goto hX.1 hX.2.1 hd (by omega) hk
    · cases hc
  · cases hc
def zq_go : zq_O := ⟨_, zq_go_ok⟩
def zq_hp : zq_H → Nat → Option zq_C
  | [], _ => none
  | c :: _, 0 => some c
  | _ :: h, n + 1 => zq_hp h n
theorem zq_hp_eq (h : zq_H) (i : Nat) : zq_hp h i = h[i]? := by
  induction h generalizing i with
  | nil => rfl
  | cons c h ih => cases i with
    | zero => rfl
    | succ n => exact ih n
def zq_fd : List Value → Nat → Option Value
  | [], _ => none
  | c :: _, 0 => some c
  | _ :: h, n + 1 => zq_fd h n
theorem zq_fd_eq (h : List Value) (i : Nat) : zq_fd h i = h[i]? := by
  induction h generalizing i with
  | nil => rfl
  | cons c h ih => cases i with
    | zero => rfl
    | succ n => exact ih n
def zq_getchk (ci k : Nat) : zq_M → Nat → Nat → Instr → Option Nat := fun M pc len i => match i with
  | .getfield idx => if (M.1, idx, ci, k) ∈ zq_fl ∧ len = 3 then some (pc + 3) else none
  | _ => none
theorem zq_get_ok (ci k : Nat) : zq_ok (zq_getchk ci k, fun σ K => match σ with | (ls, .ref a :: st, h) => (match zq_hp h a with | some (.inr (c2, fs)) => (match Nat.beq c2 ci, zq_fd fs k with | true, some v => K (ls, v :: st, h) | _, _ => False) | _ => False) | _ => False) := by
  intro l M d r h' pc len pc' i σ K hd hc hK hs
  match σ, hs with
  | (ls, .ref a :: st, h), hs =>
  intro p e s m args below meth c ad D cy A H locs la hX hP hD hS hl
  dsimp only at hs
  split at hs
  · rename_i c2 fs hh
    rw [zq_hp_eq] at hh
    split at hs
    · rename_i v hb hv
      have hk := hK _ hs p e s m args below meth c ad D cy A H locs la hX hP hD hS hl
      have := Nat.eq_of_beq_eq_true hb
      subst this
      rw [zq_fd_eq] at hv
      replace hc : zq_getchk c2 k M pc len i = some pc' := hc
      unfold zq_getchk at hc
      split at hc
      · split at hc
        · rename_i hq
          obtain ⟨h1, rfl⟩ := hq
          cases hc
          obtain ⟨C, T, N, g1, g2, g3⟩ := zq_fl_at h1
          exact va_get hX.1 hX.2.1 hX.2.2.2.2.2.2.1 (zq_us g1) hX.2.2.2.2.2.1 hX.2.2.2.2.2.2.2.1 hP a (zq_w_at hh) g1 k g2 (hX.2.2.2.2.2.2.1 _ g3) (fun _ h9 => h9) (v := zq_v ad v) (by simp [hv]) hd hk
        · cases hc
      · cases hc
    · exact hs.elim
  · exact hs.elim
def zq_get (ci k : Nat) : zq_O := ⟨_, zq_get_ok ci k⟩
theorem zq_len (fs : List Value) {k : Nat} {v : Value} (h : zq_fd fs k = some v) : k < fs.length := by
  rw [zq_fd_eq] at h
  exact (List.getElem?_eq_some_iff.mp h).1
def zq_putchk (ci k : Nat) (ty : FieldType) : zq_M → Nat → Nat → Instr → Option Nat := fun M pc len i => match i with
  | .putfield idx => if (M.1, idx, ci, k) ∈ zq_fl ∧ len = 3 ∧ zq_ty ci k = ty ∧ ((vwCl.getD ci ("", fun _ => ("", "", "", false), 0)).2.1 k).2.2.2 = false then some (pc + 3) else none
  | _ => none
theorem zq_puti_ok (ci k : Nat) : zq_ok (zq_putchk ci k .int, fun σ K => match σ with | (ls, .int x :: .ref a :: st, h) => (match zq_hp h a with | some (.inr (c2, fs)) => (match Nat.beq c2 ci, zq_fd fs k with | true, some _ => K (ls, st, h.set a (.inr (c2, fs.set k (.int x)))) | _, _ => False) | _ => False) | _ => False) := by
  intro l M d r h' pc len pc' i σ K hd hc hK hs
  match σ, hs with
  | (ls, .int x :: .ref a :: st, h), hs =>
  intro p e s m args below meth c ad D cy A H locs la hX hP hD hS hl
  dsimp only at hs
  split at hs
  · rename_i c2 fs hh
    rw [zq_hp_eq] at hh
    split at hs
    · rename_i v0 hb hv
      have hk := fun H2 locs2 hP2 hD2 hS2 => hK _ hs p e s m args below meth c ad D cy A H2 locs2 la hX hP2 hD2 hS2 hl
      have := Nat.eq_of_beq_eq_true hb
      subst this
      replace hc : zq_putchk c2 k .int M pc len i = some pc' := hc
      unfold zq_putchk at hc
      split at hc
      · split at hc
        · rename_i hq
          obtain ⟨h1, rfl, hty, hfin⟩ := hq
          cases hc
          obtain ⟨C, T, N, g1, g2, g3⟩ := zq_fl_at h1
          have hg : vwCl.getD c2 ("", fun _ => ("", "", "", false), 0) = (C, T, N) := by rw [List.getD_eq_getElem?_getD, g1]; rfl
          rw [hg] at hfin
          have he : zq_c ad cy (.inr (c2, fs.set k (.int x))) = .inr (c2, (fs.map (zq_v ad)).set k (.int x)) := by
            show Sum.inr (c2, (fs.set k (.int x)).map (zq_v ad)) = _
            rw [List.map_set]; rfl
          refine va_put (ty := .int) hX.1 hX.2.1 hX.2.2.2.2.2.2.1 (zq_us g1) (zq_ty c2) (zq_ty_ok g1) (zq_nm_ok g1) hX.2.2.2.2.2.1 hX.2.2.2.2.2.2.2.1 hP hD hS a (zq_w_at hh) g1 k g2 (hX.2.2.2.2.2.2.1 _ g3) (fun _ h9 => h9) hfin (by rw [zq_ty_ok g1 k g2, hty]) rfl rfl (by rw [List.length_map]; exact zq_len fs hv) hd (fun H2 locs2 hP2 hD2 hS2 => hk H2 locs2 ?_ ?_ hS2)
          · have e := zq_w_set ad cy h a (.inr (c2, fs.set k (.int x)))
            rw [he] at e
            rw [← e]; exact hP2
          · have e := zq_w_set ad cy h a (.inr (c2, fs.set k (.int x)))
            rw [he] at e
            rw [← e]; exact hD2
        · cases hc
      · cases hc
    · exact hs.elim
  · exact hs.elim
def zq_puti (ci k : Nat) : zq_O := ⟨_, zq_puti_ok ci k⟩
theorem zq_putj_ok (ci k : Nat) : zq_ok (zq_putchk ci k .long, fun σ K => match σ with | (ls, .long x :: .ref a :: st, h) => (match zq_hp h a with | some (.inr (c2, fs)) => (match Nat.beq c2 ci, zq_fd fs k with | true, some _ => K (ls, st, h.set a (.inr (c2, fs.set k (.long x)))) | _, _ => False) | _ => False) | _ => False) := by
  intro l M d r h' pc len pc' i σ K hd hc hK hs
  match σ, hs with
  | (ls, .long x :: .ref a :: st, h), hs =>
  intro p e s m args below meth c ad D cy A H locs la hX hP hD hS hl
  dsimp only at hs
  split at hs
  · rename_i c2 fs hh
    rw [zq_hp_eq] at hh
    split at hs
    · rename_i v0 hb hv
      have hk := fun H2 locs2 hP2 hD2 hS2 => hK _ hs p e s m args below meth c ad D cy A H2 locs2 la hX hP2 hD2 hS2 hl
      have := Nat.eq_of_beq_eq_true hb
      subst this
      replace hc : zq_putchk c2 k .long M pc len i = some pc' := hc
      unfold zq_putchk at hc
      split at hc
      · split at hc
        · rename_i hq
          obtain ⟨h1, rfl, hty, hfin⟩ := hq
          cases hc
          obtain ⟨C, T, N, g1, g2, g3⟩ := zq_fl_at h1
          have hg : vwCl.getD c2 ("", fun _ => ("", "", "", false), 0) = (C, T, N) := by rw [List.getD_eq_getElem?_getD, g1]; rfl
          rw [hg] at hfin
          have he : zq_c ad cy (.inr (c2, fs.set k (.long x))) = .inr (c2, (fs.map (zq_v ad)).set k (.long x)) := by
            show Sum.inr (c2, (fs.set k (.long x)).map (zq_v ad)) = _
            rw [List.map_set]; rfl
          refine va_put (ty := .long) hX.1 hX.2.1 hX.2.2.2.2.2.2.1 (zq_us g1) (zq_ty c2) (zq_ty_ok g1) (zq_nm_ok g1) hX.2.2.2.2.2.1 hX.2.2.2.2.2.2.2.1 hP hD hS a (zq_w_at hh) g1 k g2 (hX.2.2.2.2.2.2.1 _ g3) (fun _ h9 => h9) hfin (by rw [zq_ty_ok g1 k g2, hty]) rfl rfl (by rw [List.length_map]; exact zq_len fs hv) hd (fun H2 locs2 hP2 hD2 hS2 => hk H2 locs2 ?_ ?_ hS2)
          · have e := zq_w_set ad cy h a (.inr (c2, fs.set k (.long x)))
            rw [he] at e
            rw [← e]; exact hP2
          · have e := zq_w_set ad cy h a (.inr (c2, fs.set k (.long x)))
            rw [he] at e
            rw [← e]; exact hD2
        · cases hc
      · cases hc
    · exact hs.elim
  · exact hs.elim
def zq_putj (ci k : Nat) : zq_O := ⟨_, zq_putj_ok ci k⟩
theorem zq_putz_ok (ci k : Nat) : zq_ok (zq_putchk ci k .boolean, fun σ K => match σ with | (ls, .int x :: .ref a :: st, h) => (match zq_hp h a with | some (.inr (c2, fs)) => (match Nat.beq c2 ci, zq_fd fs k with | true, some _ => (x = 0 ∨ x = 1) ∧ K (ls, st, h.set a (.inr (c2, fs.set k (.int x)))) | _, _ => False) | _ => False) | _ => False) := by
  intro l M d r h' pc len pc' i σ K hd hc hK hs
  match σ, hs with
  | (ls, .int x :: .ref a :: st, h), hs =>
  intro p e s m args below meth c ad D cy A H locs la hX hP hD hS hl
  dsimp only at hs
  split at hs
  · rename_i c2 fs hh
    rw [zq_hp_eq] at hh
    split at hs
    · rename_i v0 hb hv
      obtain ⟨hx01, hs⟩ := hs
      have hk := fun H2 locs2 hP2 hD2 hS2 => hK _ hs p e s m args below meth c ad D cy A H2 locs2 la hX hP2 hD2 hS2 hl
      have := Nat.eq_of_beq_eq_true hb
      subst this
      replace hc : zq_putchk c2 k .boolean M pc len i = some pc' := hc
      unfold zq_putchk at hc
      split at hc
      · split at hc
        · rename_i hq
          obtain ⟨h1, rfl, hty, hfin⟩ := hq
          cases hc
          obtain ⟨C, T, N, g1, g2, g3⟩ := zq_fl_at h1
          have hg : vwCl.getD c2 ("", fun _ => ("", "", "", false), 0) = (C, T, N) := by rw [List.getD_eq_getElem?_getD, g1]; rfl
          rw [hg] at hfin
          have he : zq_c ad cy (.inr (c2, fs.set k (.int x))) = .inr (c2, (fs.map (zq_v ad)).set k (.int x)) := by
            show Sum.inr (c2, (fs.set k (.int x)).map (zq_v ad)) = _
            rw [List.map_set]; rfl
          refine va_put (ty := .boolean) hX.1 hX.2.1 hX.2.2.2.2.2.2.1 (zq_us g1) (zq_ty c2) (zq_ty_ok g1) (zq_nm_ok g1) hX.2.2.2.2.2.1 hX.2.2.2.2.2.2.2.1 hP hD hS a (zq_w_at hh) g1 k g2 (hX.2.2.2.2.2.2.1 _ g3) (fun _ h9 => h9) hfin (by rw [zq_ty_ok g1 k g2, hty]) (by rcases hx01 with rfl | rfl <;> rfl) (by rcases hx01 with rfl | rfl <;> rfl) (by rw [List.length_map]; exact zq_len fs hv) hd (fun H2 locs2 hP2 hD2 hS2 => hk H2 locs2 ?_ ?_ hS2)
          · have e := zq_w_set ad cy h a (.inr (c2, fs.set k (.int x)))
            rw [he] at e
            rw [← e]; exact hP2
          · have e := zq_w_set ad cy h a (.inr (c2, fs.set k (.int x)))
            rw [he] at e
            rw [← e]; exact hD2
        · cases hc
      · cases hc
    · exact hs.elim
  · exact hs.elim
def zq_putz (ci k : Nat) : zq_O := ⟨_, zq_putz_ok ci k⟩
theorem zq_iald_ok (j : Nat) (v : Int32) : zq_ok (zq_is .iaload 1, fun σ K => match σ with | (ls, .int x :: .ref a :: st, h) => (match zq_hp h a with | some (.inl (t, n, .inl f)) => (match Nat.beq t 0 with | true => x = nI j ∧ j < n ∧ j < 2147483648 ∧ f j = v ∧ K (ls, .int v :: st, h) | false => False) | _ => False) | _ => False) := by
  intro l M d r h' pc len pc' i σ K hd hc hK hs
  obtain ⟨rfl, rfl, rfl⟩ := zq_is_spec (o := M) hc
  match σ, hs with
  | (ls, .int x :: .ref a :: st, h), hs =>
  intro p e s m args below meth c ad D cy A H locs la hX hP hD hS hl
  dsimp only at hs
  split at hs
  · rename_i t n f hh
    rw [zq_hp_eq] at hh
    split at hs
    · rename_i hb
      have := Nat.eq_of_beq_eq_true hb
      subst this
      obtain ⟨rfl, h1, h2, hv, hs⟩ := hs
      subst hv
      have hk := hK _ hs p e s m args below meth c ad D cy A H locs la hX hP hD hS hl
      have hin : vp_in (nI j) n := vp_in_iff.mpr (by rw [nI_toInt h2]; omega)
      refine va_iald hX.1 hX.2.1 hX.2.2.2.2.2.2.2.1 hP a 0 (zq_w_at hh) rfl hin hd ?_
      rw [nI_clamp h2]
      exact hk
    · exact hs.elim
  · exact hs.elim
def zq_iald (j : Nat) (v : Int32) : zq_O := ⟨_, zq_iald_ok j v⟩
theorem zq_zald_ok (j : Nat) (v : Int32) : zq_ok (zq_is .baload 1, fun σ K => match σ with | (ls, .int x :: .ref a :: st, h) => (match zq_hp h a with | some (.inl (t, n, .inl f)) => (match Nat.beq t 1 with | true => x = nI j ∧ j < n ∧ j < 2147483648 ∧ f j = v ∧ K (ls, .int v :: st, h) | false => False) | _ => False) | _ => False) := by
  intro l M d r h' pc len pc' i σ K hd hc hK hs
  obtain ⟨rfl, rfl, rfl⟩ := zq_is_spec (o := M) hc
  match σ, hs with
  | (ls, .int x :: .ref a :: st, h), hs =>
  intro p e s m args below meth c ad D cy A H locs la hX hP hD hS hl
  dsimp only at hs
  split at hs
  · rename_i t n f hh
    rw [zq_hp_eq] at hh
    split at hs
    · rename_i hb
      have := Nat.eq_of_beq_eq_true hb
      subst this
      obtain ⟨rfl, h1, h2, hv, hs⟩ := hs
      subst hv
      have hk := hK _ hs p e s m args below meth c ad D cy A H locs la hX hP hD hS hl
      have hin : vp_in (nI j) n := vp_in_iff.mpr (by rw [nI_toInt h2]; omega)
      refine va_zald hX.1 hX.2.1 hX.2.2.2.2.2.2.2.1 hP a 1 (zq_w_at hh) rfl hin hd ?_
      rw [nI_clamp h2]
      exact hk
    · exact hs.elim
  · exact hs.elim
def zq_zald (j : Nat) (v : Int32) : zq_O := ⟨_, zq_zald_ok j v⟩
theorem zq_aald_ok (j : Nat) : zq_ok (zq_is .aaload 1, fun σ K => match σ with | (ls, .int x :: .ref a :: st, h) => (match zq_hp h a with | some (.inl (t, n, .inr (.inr (.inr (.inr f))))) => (match Nat.blt 1 t, Nat.blt t 4, f j with | true, true, some q => x = nI j ∧ j < n ∧ j < 2147483648 ∧ K (ls, .ref q :: st, h) | _, _, _ => False) | _ => False) | _ => False) := by
  intro l M d r h' pc len pc' i σ K hd hc hK hs
  obtain ⟨rfl, rfl, rfl⟩ := zq_is_spec (o := M) hc
  match σ, hs with
  | (ls, .int x :: .ref a :: st, h), hs =>
  intro p e s m args below meth c ad D cy A H locs la hX hP hD hS hl
  dsimp only at hs
  split at hs
  · rename_i t n f hh
    rw [zq_hp_eq] at hh
    split at hs
    · rename_i q hb1 hb2 hq
      obtain ⟨rfl, h1, h2, hs⟩ := hs
      have hk := hK _ hs p e s m args below meth c ad D cy A H locs la hX hP hD hS hl
      have hin : vp_in (nI j) n := vp_in_iff.mpr (by rw [nI_toInt h2]; omega)
      have ht : t = 2 ∨ t = 3 := by
        have := Nat.le_of_ble_eq_true hb1
        have := Nat.le_of_ble_eq_true hb2
        omega
      have hv : va_rf ((f (nI j).toNatClampNeg).map ad) = .ref (ad q) := by rw [nI_clamp h2, hq]; rfl
      rcases ht with rfl | rfl
      · refine va_aldq (C := "SquareLate$Now") (f := fun j => (f j).map ad) hX.1 hX.2.1 hX.2.2.2.2.2.2.2.1 hP a 2 (zq_w_at hh) rfl hin hd ?_
        rw [hv]; exact hk
      · refine va_aldq (C := "SquareLate$Plain") (f := fun j => (f j).map ad) hX.1 hX.2.1 hX.2.2.2.2.2.2.2.1 hP a 3 (zq_w_at hh) rfl hin hd ?_
        rw [hv]; exact hk
    · exact hs.elim
  · exact hs.elim
def zq_aald (j : Nat) : zq_O := ⟨_, zq_aald_ok j⟩
theorem zq_alen_ok : zq_ok (zq_is .arraylength 1, fun σ K => match σ with | (ls, .ref a :: st, h) => (match zq_hp h a with | some (.inl (t, n, .inl f)) => (match Nat.blt t 2 with | true => K (ls, .int (nI n) :: st, h) | false => False) | _ => False) | _ => False) := by
  intro l M d r h' pc len pc' i σ K hd hc hK hs
  obtain ⟨rfl, rfl, rfl⟩ := zq_is_spec (o := M) hc
  match σ, hs with
  | (ls, .ref a :: st, h), hs =>
  intro p e s m args below meth c ad D cy A H locs la hX hP hD hS hl
  dsimp only at hs
  split at hs
  · rename_i t n f hh
    rw [zq_hp_eq] at hh
    split at hs
    · rename_i hb
      have hk := hK _ hs p e s m args below meth c ad D cy A H locs la hX hP hD hS hl
      have ht : t = 0 ∨ t = 1 := by
        have := Nat.le_of_ble_eq_true hb
        omega
      rcases ht with rfl | rfl
      · exact va_alen (ty := .int) hX.1 hX.2.1 hX.2.2.2.2.2.2.2.1 hP a 0 (zq_w_at hh) rfl rfl hd hk
      · exact va_alen (ty := .boolean) hX.1 hX.2.1 hX.2.2.2.2.2.2.2.1 hP a 1 (zq_w_at hh) rfl rfl hd hk
    · exact hs.elim
  · exact hs.elim
def zq_alen : zq_O := ⟨_, zq_alen_ok⟩
theorem zq_iast_ok (j : Nat) : zq_ok (zq_is .iastore 1, fun σ K => match σ with | (ls, .int v :: .int x :: .ref a :: st, h) => (match zq_hp h a with | some (.inl (t, n, .inl f)) => (match Nat.beq t 0 with | true => x = nI j ∧ j < n ∧ j < 2147483648 ∧ K (ls, st, h.set a (.inl (t, n, .inl (upd f j v)))) | false => False) | _ => False) | _ => False) := by
  intro l M d r h' pc len pc' i σ K hd hc hK hs
  obtain ⟨rfl, rfl, rfl⟩ := zq_is_spec (o := M) hc
  match σ, hs with
  | (ls, .int v :: .int x :: .ref a :: st, h), hs =>
  intro p e s m args below meth c ad D cy A H locs la hX hP hD hS hl
  dsimp only at hs
  split at hs
  · rename_i t n f hh
    rw [zq_hp_eq] at hh
    split at hs
    · rename_i hb
      have := Nat.eq_of_beq_eq_true hb
      subst this
      obtain ⟨rfl, h1, h2, hs⟩ := hs
      have hk := fun H2 locs2 hP2 hD2 hS2 => hK _ hs p e s m args below meth c ad D cy A H2 locs2 la hX hP2 hD2 hS2 hl
      have hin : vp_in (nI j) n := vp_in_iff.mpr (by rw [nI_toInt h2]; omega)
      have e := zq_w_set ad cy h a (.inl (0, n, .inl (upd f j v)))
      refine va_iast hX.1 hX.2.1 hX.2.2.2.2.2.2.2.1 hP hD hS a 0 (zq_w_at hh) rfl hin hd (fun H2 locs2 hP2 hD2 hS2 => hk H2 locs2 ?_ ?_ hS2)
      · rw [nI_clamp h2] at hP2
        rw [← e]; exact hP2
      · rw [nI_clamp h2] at hD2
        rw [← e]; exact hD2
    · exact hs.elim
  · exact hs.elim
def zq_iast (j : Nat) : zq_O := ⟨_, zq_iast_ok j⟩
theorem zq_zast_ok (j : Nat) : zq_ok (zq_is .bastore 1, fun σ K => match σ with | (ls, .int v :: .int x :: .ref a :: st, h) => (match zq_hp h a with | some (.inl (t, n, .inl f)) => (match Nat.beq t 1 with | true => x = nI j ∧ j < n ∧ j < 2147483648 ∧ (v = 0 ∨ v = 1) ∧ K (ls, st, h.set a (.inl (t, n, .inl (upd f j v)))) | false => False) | _ => False) | _ => False) := by
  intro l M d r h' pc len pc' i σ K hd hc hK hs
  obtain ⟨rfl, rfl, rfl⟩ := zq_is_spec (o := M) hc
  match σ, hs with
  | (ls, .int v :: .int x :: .ref a :: st, h), hs =>
  intro p e s m args below meth c ad D cy A H locs la hX hP hD hS hl
  dsimp only at hs
  split at hs
  · rename_i t n f hh
    rw [zq_hp_eq] at hh
    split at hs
    · rename_i hb
      have := Nat.eq_of_beq_eq_true hb
      subst this
      obtain ⟨rfl, h1, h2, hs⟩ := hs
      obtain ⟨hv01, hs⟩ := hs
      have hnar : vp_nar .boolean v = v := by rcases hv01 with rfl | rfl <;> decide
      have hk := fun H2 locs2 hP2 hD2 hS2 => hK _ hs p e s m args below meth c ad D cy A H2 locs2 la hX hP2 hD2 hS2 hl
      have hin : vp_in (nI j) n := vp_in_iff.mpr (by rw [nI_toInt h2]; omega)
      have e := zq_w_set ad cy h a (.inl (1, n, .inl (upd f j v)))
      refine va_zast hX.1 hX.2.1 hX.2.2.2.2.2.2.2.1 hP hD hS a 1 (zq_w_at hh) rfl hin hd (fun H2 locs2 hP2 hD2 hS2 => hk H2 locs2 ?_ ?_ hS2)
      · rw [nI_clamp h2, hnar] at hP2
        rw [← e]; exact hP2
      · rw [nI_clamp h2, hnar] at hD2
        rw [← e]; exact hD2
    · exact hs.elim
  · exact hs.elim
def zq_zast (j : Nat) : zq_O := ⟨_, zq_zast_ok j⟩
