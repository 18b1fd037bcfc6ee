/-! the cases of the law -/
set_option maxRecDepth 100000 in
theorem lz_ci0 {l : Launch} {p : Program} {e : Env} {s : State} {m : MethodId} {below : List Frame} {meth : Method} {c : Code} {b L : Nat} {xs : Nat → Int32} {D : va_G} {cy : Nat → ClassId} {i : Int32} {h : zq_H} (C : lz_C p s m meth c b L xs D cy) {rx rm : zq_M} {T ix im : Nat} {off : Int} (hd : lz_d T [(.aload_n 1, 1), (.invokevirtual ix, 3), (.aload_n 2, 1), (.invokevirtual im, 3), (.if_icmp .eq off, 3)] = true) (ht : ((T + 8 : Nat) : Int) + off = ((997 : Nat) : Int)) (hwx : lz_cv ix rx 0) (hwm : lz_cv im rm 0) (hL : rx.2.2.2.1 ≤ 40 ∧ rm.2.2.2.1 ≤ 40) (hcx : (vwCl[11]?).map (fun q => q.1) = some rx.2.1.cls ∧ (vwCl[12]?).map (fun q => q.1) = some rm.2.1.cls) (hr : rx.2.2.2.2 = some .int) (hS0 : Sim h) (ho : Opx l rx rm [] h) (kk : ∀ h2, Sim h2 → lz_G l p e s m below meth c b D cy i 997 [] h2) : lz_G l p e s m below meth c b D cy i T [] h := by
  obtain ⟨r, h1, h2, dx, dm, ⟨e1, e2, e3, fs2, e4⟩, hx, hm, hS2⟩ := ho
  obtain ⟨fs, hh⟩ := sim_x hS0
  obtain ⟨v, rfl⟩ : ∃ v, r = .int v := by
    rcases e3 with ⟨g1, g2⟩ | ⟨g1, g2⟩
    · exact g2
    · rw [hr] at g1; cases g1
  simp only [lz_d, Bool.and_eq_true, decide_eq_true_eq] at hd
  obtain ⟨d0, d1, d2, d3, d4, -⟩ := hd
  obtain ⟨⟨x1, x2⟩, -, -, -, ⟨hX, hbl⟩, -, -⟩ := id C
  have hbA : ¬ lz_A s b := Nat.not_le.mpr hbl
  intro H locs la hP hD hS hl
  refine lv_aload_n x1 x2 d0 rfl (lv_at hl 1 rfl) ?_
  refine lz_call (i := i) (av := []) (rest := []) C d1 hwx hx e1 hL.1 rfl hh hcx.1 (by decide) ?_ H locs la hP hD hS hl
  intro H locs la hP hD hS hl
  refine lv_aload_n x1 x2 d2 rfl (lv_at hl 2 rfl) ?_
  refine lz_call (i := i) (av := []) (rest := [.int v]) C d3 hwm hm e2 hL.2 rfl e4 hcx.2 (show 1 + 0 ≤ 8 by decide) ?_ H locs la hP hD hS hl
  intro H locs la hP hD hS hl
  exact lv_icmp_eq (tgt := 997) x1 x2 d4 (by omega) (fun _ => kk h2 hS2 H locs la hP hD hS hl) (fun q => absurd rfl q)
set_option maxRecDepth 100000 in
theorem lz_ci1 {l : Launch} {p : Program} {e : Env} {s : State} {m : MethodId} {below : List Frame} {meth : Method} {c : Code} {b L : Nat} {xs : Nat → Int32} {D : va_G} {cy : Nat → ClassId} {i : Int32} {h : zq_H} (C : lz_C p s m meth c b L xs D cy) {rx rm : zq_M} {T ix im : Nat} {off : Int} (hd : lz_d T [(.aload_n 1, 1), (.aload_n 0, 1), (.iload_n 3, 1), (.iconst 1, 1), (.iadd, 1), (.iaload, 1), (.invokevirtual ix, 3), (.aload_n 2, 1), (.aload_n 0, 1), (.iload_n 3, 1), (.iconst 1, 1), (.iadd, 1), (.iaload, 1), (.invokevirtual im, 3), (.if_icmp .eq off, 3)] = true) (ht : ((T + 18 : Nat) : Int) + off = ((997 : Nat) : Int)) (hwx : lz_cv ix rx 1) (hwm : lz_cv im rm 1) (hL : rx.2.2.2.1 ≤ 40 ∧ rm.2.2.2.1 ≤ 40) (hcx : (vwCl[11]?).map (fun q => q.1) = some rx.2.1.cls ∧ (vwCl[12]?).map (fun q => q.1) = some rm.2.1.cls) (hr : rx.2.2.2.2 = some .int) (hi1 : vp_in (i + 1) L) (hS0 : Sim h) (ho : Opx l rx rm [.int (xs (i + 1).toNatClampNeg)] h) (kk : ∀ h2, Sim h2 → lz_G l p e s m below meth c b D cy i 997 [] h2) : lz_G l p e s m below meth c b D cy i T [] h := by
  obtain ⟨r, h1, h2, dx, dm, ⟨e1, e2, e3, fs2, e4⟩, hx, hm, hS2⟩ := ho
  obtain ⟨fs, hh⟩ := sim_x hS0
  obtain ⟨v, rfl⟩ : ∃ v, r = .int v := by
    rcases e3 with ⟨g1, g2⟩ | ⟨g1, g2⟩
    · exact g2
    · rw [hr] at g1; cases g1
  simp only [lz_d, Bool.and_eq_true, decide_eq_true_eq] at hd
  obtain ⟨d0, d1, d2, d3, d4, d5, d6, d7, d8, d9, d10, d11, d12, d13, d14, -⟩ := hd
  obtain ⟨⟨x1, x2⟩, -, -, -, ⟨hX, hbl⟩, -, -⟩ := id C
  have hbA : ¬ lz_A s b := Nat.not_le.mpr hbl
  intro H locs la hP hD hS hl
  refine lv_aload_n x1 x2 d0 rfl (lv_at hl 1 rfl) ?_
  refine lv_aload_n x1 x2 d1 rfl (lv_at hl 0 rfl) ?_
  refine lv_iload_n x1 x2 d2 rfl (lv_at hl 3 rfl) ?_
  refine lv_iconst (v := 1) x1 x2 d3 (by decide) ?_
  refine lv_iadd x1 x2 d4 ?_
  refine va_sld x1 x2 hX hbl hbA hS hi1 d5 ?_
  refine lz_call (i := i) (av := [.int (xs (i + 1).toNatClampNeg)]) (rest := []) C d6 hwx hx e1 hL.1 rfl hh hcx.1 (by decide) ?_ H locs la hP hD hS hl
  intro H locs la hP hD hS hl
  refine lv_aload_n x1 x2 d7 rfl (lv_at hl 2 rfl) ?_
  refine lv_aload_n x1 x2 d8 rfl (lv_at hl 0 rfl) ?_
  refine lv_iload_n x1 x2 d9 rfl (lv_at hl 3 rfl) ?_
  refine lv_iconst (v := 1) x1 x2 d10 (by decide) ?_
  refine lv_iadd x1 x2 d11 ?_
  refine va_sld x1 x2 hX hbl hbA hS hi1 d12 ?_
  refine lz_call (i := i) (av := [.int (xs (i + 1).toNatClampNeg)]) (rest := [.int v]) C d13 hwm hm e2 hL.2 rfl e4 hcx.2 (show 1 + 0 ≤ 8 by decide) ?_ H locs la hP hD hS hl
  intro H locs la hP hD hS hl
  exact lv_icmp_eq (tgt := 997) x1 x2 d14 (by omega) (fun _ => kk h2 hS2 H locs la hP hD hS hl) (fun q => absurd rfl q)
set_option maxRecDepth 100000 in
theorem lz_ci2 {l : Launch} {p : Program} {e : Env} {s : State} {m : MethodId} {below : List Frame} {meth : Method} {c : Code} {b L : Nat} {xs : Nat → Int32} {D : va_G} {cy : Nat → ClassId} {i : Int32} {h : zq_H} (C : lz_C p s m meth c b L xs D cy) {rx rm : zq_M} {T ix im : Nat} {off : Int} (hd : lz_d T [(.aload_n 1, 1), (.aload_n 0, 1), (.iload_n 3, 1), (.iconst 1, 1), (.iadd, 1), (.iaload, 1), (.aload_n 0, 1), (.iload_n 3, 1), (.iconst 2, 1), (.iadd, 1), (.iaload, 1), (.invokevirtual ix, 3), (.aload_n 2, 1), (.aload_n 0, 1), (.iload_n 3, 1), (.iconst 1, 1), (.iadd, 1), (.iaload, 1), (.aload_n 0, 1), (.iload_n 3, 1), (.iconst 2, 1), (.iadd, 1), (.iaload, 1), (.invokevirtual im, 3), (.if_icmp .eq off, 3)] = true) (ht : ((T + 28 : Nat) : Int) + off = ((997 : Nat) : Int)) (hwx : lz_cv ix rx 2) (hwm : lz_cv im rm 2) (hL : rx.2.2.2.1 ≤ 40 ∧ rm.2.2.2.1 ≤ 40) (hcx : (vwCl[11]?).map (fun q => q.1) = some rx.2.1.cls ∧ (vwCl[12]?).map (fun q => q.1) = some rm.2.1.cls) (hr : rx.2.2.2.2 = some .int) (hi1 : vp_in (i + 1) L) (hi2 : vp_in (i + 2) L) (hS0 : Sim h) (ho : Opx l rx rm [.int (xs (i + 1).toNatClampNeg), .int (xs (i + 2).toNatClampNeg)] h) (kk : ∀ h2, Sim h2 → lz_G l p e s m below meth c b D cy i 997 [] h2) : lz_G l p e s m below meth c b D cy i T [] h := by
  obtain ⟨r, h1, h2, dx, dm, ⟨e1, e2, e3, fs2, e4⟩, hx, hm, hS2⟩ := ho
  obtain ⟨fs, hh⟩ := sim_x hS0
  obtain ⟨v, rfl⟩ : ∃ v, r = .int v := by
    rcases e3 with ⟨g1, g2⟩ | ⟨g1, g2⟩
    · exact g2
    · rw [hr] at g1; cases g1
  simp only [lz_d, Bool.and_eq_true, decide_eq_true_eq] at hd
  obtain ⟨d0, d1, d2, d3, d4, d5, d6, d7, d8, d9, d10, d11, d12, d13, d14, d15, d16, d17, d18, d19, d20, d21, d22, d23, d24, -⟩ := hd
  obtain ⟨⟨x1, x2⟩, -, -, -, ⟨hX, hbl⟩, -, -⟩ := id C
  have hbA : ¬ lz_A s b := Nat.not_le.mpr hbl
  intro H locs la hP hD hS hl
  refine lv_aload_n x1 x2 d0 rfl (lv_at hl 1 rfl) ?_
  refine lv_aload_n x1 x2 d1 rfl (lv_at hl 0 rfl) ?_
  refine lv_iload_n x1 x2 d2 rfl (lv_at hl 3 rfl) ?_
  refine lv_iconst (v := 1) x1 x2 d3 (by decide) ?_
  refine lv_iadd x1 x2 d4 ?_
  refine va_sld x1 x2 hX hbl hbA hS hi1 d5 ?_
  refine lv_aload_n x1 x2 d6 rfl (lv_at hl 0 rfl) ?_
  refine lv_iload_n x1 x2 d7 rfl (lv_at hl 3 rfl) ?_
  refine lv_iconst (v := 2) x1 x2 d8 (by decide) ?_
  refine lv_iadd x1 x2 d9 ?_
  refine va_sld x1 x2 hX hbl hbA hS hi2 d10 ?_
  refine lz_call (i := i) (av := [.int (xs (i + 1).toNatClampNeg), .int (xs (i + 2).toNatClampNeg)]) (rest := []) C d11 hwx hx e1 hL.1 rfl hh hcx.1 (by decide) ?_ H locs la hP hD hS hl
  intro H locs la hP hD hS hl
  refine lv_aload_n x1 x2 d12 rfl (lv_at hl 2 rfl) ?_
  refine lv_aload_n x1 x2 d13 rfl (lv_at hl 0 rfl) ?_
  refine lv_iload_n x1 x2 d14 rfl (lv_at hl 3 rfl) ?_
  refine lv_iconst (v := 1) x1 x2 d15 (by decide) ?_
  refine lv_iadd x1 x2 d16 ?_
  refine va_sld x1 x2 hX hbl hbA hS hi1 d17 ?_
  refine lv_aload_n x1 x2 d18 rfl (lv_at hl 0 rfl) ?_
  refine lv_iload_n x1 x2 d19 rfl (lv_at hl 3 rfl) ?_
  refine lv_iconst (v := 2) x1 x2 d20 (by decide) ?_
  refine lv_iadd x1 x2 d21 ?_
  refine va_sld x1 x2 hX hbl hbA hS hi2 d22 ?_
  refine lz_call (i := i) (av := [.int (xs (i + 1).toNatClampNeg), .int (xs (i + 2).toNatClampNeg)]) (rest := [.int v]) C d23 hwm hm e2 hL.2 rfl e4 hcx.2 (show 1 + 0 ≤ 8 by decide) ?_ H locs la hP hD hS hl
  intro H locs la hP hD hS hl
  exact lv_icmp_eq (tgt := 997) x1 x2 d24 (by omega) (fun _ => kk h2 hS2 H locs la hP hD hS hl) (fun q => absurd rfl q)
set_option maxRecDepth 100000 in
theorem lz_ci3 {l : Launch} {p : Program} {e : Env} {s : State} {m : MethodId} {below : List Frame} {meth : Method} {c : Code} {b L : Nat} {xs : Nat → Int32} {D : va_G} {cy : Nat → ClassId} {i : Int32} {h : zq_H} (C : lz_C p s m meth c b L xs D cy) {rx rm : zq_M} {T ix im : Nat} {off : Int} (hd : lz_d T [(.aload_n 1, 1), (.aload_n 0, 1), (.iload_n 3, 1), (.iconst 1, 1), (.iadd, 1), (.iaload, 1), (.aload_n 0, 1), (.iload_n 3, 1), (.iconst 2, 1), (.iadd, 1), (.iaload, 1), (.aload_n 0, 1), (.iload_n 3, 1), (.iconst 3, 1), (.iadd, 1), (.iaload, 1), (.invokevirtual ix, 3), (.aload_n 2, 1), (.aload_n 0, 1), (.iload_n 3, 1), (.iconst 1, 1), (.iadd, 1), (.iaload, 1), (.aload_n 0, 1), (.iload_n 3, 1), (.iconst 2, 1), (.iadd, 1), (.iaload, 1), (.aload_n 0, 1), (.iload_n 3, 1), (.iconst 3, 1), (.iadd, 1), (.iaload, 1), (.invokevirtual im, 3), (.if_icmp .eq off, 3)] = true) (ht : ((T + 38 : Nat) : Int) + off = ((997 : Nat) : Int)) (hwx : lz_cv ix rx 3) (hwm : lz_cv im rm 3) (hL : rx.2.2.2.1 ≤ 40 ∧ rm.2.2.2.1 ≤ 40) (hcx : (vwCl[11]?).map (fun q => q.1) = some rx.2.1.cls ∧ (vwCl[12]?).map (fun q => q.1) = some rm.2.1.cls) (hr : rx.2.2.2.2 = some .int) (hi1 : vp_in (i + 1) L) (hi2 : vp_in (i + 2) L) (hi3 : vp_in (i + 3) L) (hS0 : Sim h) (ho : Opx l rx rm [.int (xs (i + 1).toNatClampNeg), .int (xs (i + 2).toNatClampNeg), .int (xs (i + 3).toNatClampNeg)] h) (kk : ∀ h2, Sim h2 → lz_G l p e s m below meth c b D cy i 997 [] h2) : lz_G l p e s m below meth c b D cy i T [] h := by
  obtain ⟨r, h1, h2, dx, dm, ⟨e1, e2, e3, fs2, e4⟩, hx, hm, hS2⟩ := ho
  obtain ⟨fs, hh⟩ := sim_x hS0
  obtain ⟨v, rfl⟩ : ∃ v, r = .int v := by
    rcases e3 with ⟨g1, g2⟩ | ⟨g1, g2⟩
    · exact g2
    · rw [hr] at g1; cases g1
  simp only [lz_d, Bool.and_eq_true, decide_eq_true_eq] at hd
  obtain ⟨d0, d1, d2, d3, d4, d5, d6, d7, d8, d9, d10, d11, d12, d13, d14, d15, d16, d17, d18, d19, d20, d21, d22, d23, d24, d25, d26, d27, d28, d29, d30, d31, d32, d33, d34, -⟩ := hd
  obtain ⟨⟨x1, x2⟩, -, -, -, ⟨hX, hbl⟩, -, -⟩ := id C
  have hbA : ¬ lz_A s b := Nat.not_le.mpr hbl
  intro H locs la hP hD hS hl
  refine lv_aload_n x1 x2 d0 rfl (lv_at hl 1 rfl) ?_
  refine lv_aload_n x1 x2 d1 rfl (lv_at hl 0 rfl) ?_
  refine lv_iload_n x1 x2 d2 rfl (lv_at hl 3 rfl) ?_
  refine lv_iconst (v := 1) x1 x2 d3 (by decide) ?_
  refine lv_iadd x1 x2 d4 ?_
  refine va_sld x1 x2 hX hbl hbA hS hi1 d5 ?_
  refine lv_aload_n x1 x2 d6 rfl (lv_at hl 0 rfl) ?_
  refine lv_iload_n x1 x2 d7 rfl (lv_at hl 3 rfl) ?_
  refine lv_iconst (v := 2) x1 x2 d8 (by decide) ?_
  refine lv_iadd x1 x2 d9 ?_
  refine va_sld x1 x2 hX hbl hbA hS hi2 d10 ?_
  refine lv_aload_n x1 x2 d11 rfl (lv_at hl 0 rfl) ?_
  refine lv_iload_n x1 x2 d12 rfl (lv_at hl 3 rfl) ?_
  refine lv_iconst (v := 3) x1 x2 d13 (by decide) ?_
  refine lv_iadd x1 x2 d14 ?_
  refine va_sld x1 x2 hX hbl hbA hS hi3 d15 ?_
  refine lz_call (i := i) (av := [.int (xs (i + 1).toNatClampNeg), .int (xs (i + 2).toNatClampNeg), .int (xs (i + 3).toNatClampNeg)]) (rest := []) C d16 hwx hx e1 hL.1 rfl hh hcx.1 (by decide) ?_ H locs la hP hD hS hl
  intro H locs la hP hD hS hl
  refine lv_aload_n x1 x2 d17 rfl (lv_at hl 2 rfl) ?_
  refine lv_aload_n x1 x2 d18 rfl (lv_at hl 0 rfl) ?_
  refine lv_iload_n x1 x2 d19 rfl (lv_at hl 3 rfl) ?_
  refine lv_iconst (v := 1) x1 x2 d20 (by decide) ?_
  refine lv_iadd x1 x2 d21 ?_
  refine va_sld x1 x2 hX hbl hbA hS hi1 d22 ?_
  refine lv_aload_n x1 x2 d23 rfl (lv_at hl 0 rfl) ?_
  refine lv_iload_n x1 x2 d24 rfl (lv_at hl 3 rfl) ?_
  refine lv_iconst (v := 2) x1 x2 d25 (by decide) ?_
  refine lv_iadd x1 x2 d26 ?_
  refine va_sld x1 x2 hX hbl hbA hS hi2 d27 ?_
  refine lv_aload_n x1 x2 d28 rfl (lv_at hl 0 rfl) ?_
  refine lv_iload_n x1 x2 d29 rfl (lv_at hl 3 rfl) ?_
  refine lv_iconst (v := 3) x1 x2 d30 (by decide) ?_
  refine lv_iadd x1 x2 d31 ?_
  refine va_sld x1 x2 hX hbl hbA hS hi3 d32 ?_
  refine lz_call (i := i) (av := [.int (xs (i + 1).toNatClampNeg), .int (xs (i + 2).toNatClampNeg), .int (xs (i + 3).toNatClampNeg)]) (rest := [.int v]) C d33 hwm hm e2 hL.2 rfl e4 hcx.2 (show 1 + 0 ≤ 8 by decide) ?_ H locs la hP hD hS hl
  intro H locs la hP hD hS hl
  exact lv_icmp_eq (tgt := 997) x1 x2 d34 (by omega) (fun _ => kk h2 hS2 H locs la hP hD hS hl) (fun q => absurd rfl q)
set_option maxRecDepth 100000 in
theorem lz_cj3 {l : Launch} {p : Program} {e : Env} {s : State} {m : MethodId} {below : List Frame} {meth : Method} {c : Code} {b L : Nat} {xs : Nat → Int32} {D : va_G} {cy : Nat → ClassId} {i : Int32} {h : zq_H} (C : lz_C p s m meth c b L xs D cy) {rx rm : zq_M} {T ix im : Nat} {off : Int} (hd : lz_d T [(.aload_n 1, 1), (.aload_n 0, 1), (.iload_n 3, 1), (.iconst 1, 1), (.iadd, 1), (.iaload, 1), (.aload_n 0, 1), (.iload_n 3, 1), (.iconst 2, 1), (.iadd, 1), (.iaload, 1), (.aload_n 0, 1), (.iload_n 3, 1), (.iconst 3, 1), (.iadd, 1), (.iaload, 1), (.invokevirtual ix, 3), (.aload_n 2, 1), (.aload_n 0, 1), (.iload_n 3, 1), (.iconst 1, 1), (.iadd, 1), (.iaload, 1), (.aload_n 0, 1), (.iload_n 3, 1), (.iconst 2, 1), (.iadd, 1), (.iaload, 1), (.aload_n 0, 1), (.iload_n 3, 1), (.iconst 3, 1), (.iadd, 1), (.iaload, 1), (.invokevirtual im, 3), (.lcmp, 1), (.ifCond .eq off, 3)] = true) (ht : ((T + 39 : Nat) : Int) + off = ((997 : Nat) : Int)) (hwx : lz_cv ix rx 3) (hwm : lz_cv im rm 3) (hL : rx.2.2.2.1 ≤ 40 ∧ rm.2.2.2.1 ≤ 40) (hcx : (vwCl[11]?).map (fun q => q.1) = some rx.2.1.cls ∧ (vwCl[12]?).map (fun q => q.1) = some rm.2.1.cls) (hr : rx.2.2.2.2 = some .long) (hi1 : vp_in (i + 1) L) (hi2 : vp_in (i + 2) L) (hi3 : vp_in (i + 3) L) (hS0 : Sim h) (ho : Opx l rx rm [.int (xs (i + 1).toNatClampNeg), .int (xs (i + 2).toNatClampNeg), .int (xs (i + 3).toNatClampNeg)] h) (kk : ∀ h2, Sim h2 → lz_G l p e s m below meth c b D cy i 997 [] h2) : lz_G l p e s m below meth c b D cy i T [] h := by
  obtain ⟨r, h1, h2, dx, dm, ⟨e1, e2, e3, fs2, e4⟩, hx, hm, hS2⟩ := ho
  obtain ⟨fs, hh⟩ := sim_x hS0
  obtain ⟨v, rfl⟩ : ∃ v, r = .long v := by
    rcases e3 with ⟨g1, g2⟩ | ⟨g1, g2⟩
    · rw [hr] at g1; cases g1
    · exact g2
  simp only [lz_d, Bool.and_eq_true, decide_eq_true_eq] at hd
  obtain ⟨d0, d1, d2, d3, d4, d5, d6, d7, d8, d9, d10, d11, d12, d13, d14, d15, d16, d17, d18, d19, d20, d21, d22, d23, d24, d25, d26, d27, d28, d29, d30, d31, d32, d33, d34, d35, -⟩ := hd
  obtain ⟨⟨x1, x2⟩, -, -, -, ⟨hX, hbl⟩, -, -⟩ := id C
  have hbA : ¬ lz_A s b := Nat.not_le.mpr hbl
  intro H locs la hP hD hS hl
  refine lv_aload_n x1 x2 d0 rfl (lv_at hl 1 rfl) ?_
  refine lv_aload_n x1 x2 d1 rfl (lv_at hl 0 rfl) ?_
  refine lv_iload_n x1 x2 d2 rfl (lv_at hl 3 rfl) ?_
  refine lv_iconst (v := 1) x1 x2 d3 (by decide) ?_
  refine lv_iadd x1 x2 d4 ?_
  refine va_sld x1 x2 hX hbl hbA hS hi1 d5 ?_
  refine lv_aload_n x1 x2 d6 rfl (lv_at hl 0 rfl) ?_
  refine lv_iload_n x1 x2 d7 rfl (lv_at hl 3 rfl) ?_
  refine lv_iconst (v := 2) x1 x2 d8 (by decide) ?_
  refine lv_iadd x1 x2 d9 ?_
  refine va_sld x1 x2 hX hbl hbA hS hi2 d10 ?_
  refine lv_aload_n x1 x2 d11 rfl (lv_at hl 0 rfl) ?_
  refine lv_iload_n x1 x2 d12 rfl (lv_at hl 3 rfl) ?_
  refine lv_iconst (v := 3) x1 x2 d13 (by decide) ?_
  refine lv_iadd x1 x2 d14 ?_
  refine va_sld x1 x2 hX hbl hbA hS hi3 d15 ?_
  refine lz_call (i := i) (av := [.int (xs (i + 1).toNatClampNeg), .int (xs (i + 2).toNatClampNeg), .int (xs (i + 3).toNatClampNeg)]) (rest := []) C d16 hwx hx e1 hL.1 rfl hh hcx.1 (by decide) ?_ H locs la hP hD hS hl
  intro H locs la hP hD hS hl
  refine lv_aload_n x1 x2 d17 rfl (lv_at hl 2 rfl) ?_
  refine lv_aload_n x1 x2 d18 rfl (lv_at hl 0 rfl) ?_
  refine lv_iload_n x1 x2 d19 rfl (lv_at hl 3 rfl) ?_
  refine lv_iconst (v := 1) x1 x2 d20 (by decide) ?_
  refine lv_iadd x1 x2 d21 ?_
  refine va_sld x1 x2 hX hbl hbA hS hi1 d22 ?_
  refine lv_aload_n x1 x2 d23 rfl (lv_at hl 0 rfl) ?_
  refine lv_iload_n x1 x2 d24 rfl (lv_at hl 3 rfl) ?_
  refine lv_iconst (v := 2) x1 x2 d25 (by decide) ?_
  refine lv_iadd x1 x2 d26 ?_
  refine va_sld x1 x2 hX hbl hbA hS hi2 d27 ?_
  refine lv_aload_n x1 x2 d28 rfl (lv_at hl 0 rfl) ?_
  refine lv_iload_n x1 x2 d29 rfl (lv_at hl 3 rfl) ?_
  refine lv_iconst (v := 3) x1 x2 d30 (by decide) ?_
  refine lv_iadd x1 x2 d31 ?_
  refine va_sld x1 x2 hX hbl hbA hS hi3 d32 ?_
  refine lz_call (i := i) (av := [.int (xs (i + 1).toNatClampNeg), .int (xs (i + 2).toNatClampNeg), .int (xs (i + 3).toNatClampNeg)]) (rest := [.long v]) C d33 hwm hm e2 hL.2 rfl e4 hcx.2 (show 2 + 0 ≤ 8 by decide) ?_ H locs la hP hD hS hl
  intro H locs la hP hD hS hl
  refine W.lcmp x1 x2 d34 ?_
  exact lv_if_eq (tgt := 997) x1 x2 d35 (by omega) (fun _ => kk h2 hS2 H locs la hP hD hS hl) (fun q => absurd (lg_same v) q)
set_option maxRecDepth 100000 in
theorem lz_cj0 {l : Launch} {p : Program} {e : Env} {s : State} {m : MethodId} {below : List Frame} {meth : Method} {c : Code} {b L : Nat} {xs : Nat → Int32} {D : va_G} {cy : Nat → ClassId} {i : Int32} {h : zq_H} (C : lz_C p s m meth c b L xs D cy) {rx rm : zq_M} {T ix im : Nat} {off : Int} (hd : lz_d T [(.aload_n 1, 1), (.invokevirtual ix, 3), (.aload_n 2, 1), (.invokevirtual im, 3), (.lcmp, 1), (.ifCond .eq off, 3)] = true) (ht : ((T + 9 : Nat) : Int) + off = ((997 : Nat) : Int)) (hwx : lz_cv ix rx 0) (hwm : lz_cv im rm 0) (hL : rx.2.2.2.1 ≤ 40 ∧ rm.2.2.2.1 ≤ 40) (hcx : (vwCl[11]?).map (fun q => q.1) = some rx.2.1.cls ∧ (vwCl[12]?).map (fun q => q.1) = some rm.2.1.cls) (hr : rx.2.2.2.2 = some .long) (hS0 : Sim h) (ho : Opx l rx rm [] h) (kk : ∀ h2, Sim h2 → lz_G l p e s m below meth c b D cy i 997 [] h2) : lz_G l p e s m below meth c b D cy i T [] h := by
  obtain ⟨r, h1, h2, dx, dm, ⟨e1, e2, e3, fs2, e4⟩, hx, hm, hS2⟩ := ho
  obtain ⟨fs, hh⟩ := sim_x hS0
  obtain ⟨v, rfl⟩ : ∃ v, r = .long v := by
    rcases e3 with ⟨g1, g2⟩ | ⟨g1, g2⟩
    · rw [hr] at g1; cases g1
    · exact g2
  simp only [lz_d, Bool.and_eq_true, decide_eq_true_eq] at hd
  obtain ⟨d0, d1, d2, d3, d4, d5, -⟩ := hd
  obtain ⟨⟨x1, x2⟩, -, -, -, ⟨hX, hbl⟩, -, -⟩ := id C
  have hbA : ¬ lz_A s b := Nat.not_le.mpr hbl
  intro H locs la hP hD hS hl
  refine lv_aload_n x1 x2 d0 rfl (lv_at hl 1 rfl) ?_
  refine lz_call (i := i) (av := []) (rest := []) C d1 hwx hx e1 hL.1 rfl hh hcx.1 (by decide) ?_ H locs la hP hD hS hl
  intro H locs la hP hD hS hl
  refine lv_aload_n x1 x2 d2 rfl (lv_at hl 2 rfl) ?_
  refine lz_call (i := i) (av := []) (rest := [.long v]) C d3 hwm hm e2 hL.2 rfl e4 hcx.2 (show 2 + 0 ≤ 8 by decide) ?_ H locs la hP hD hS hl
  intro H locs la hP hD hS hl
  refine W.lcmp x1 x2 d4 ?_
  exact lv_if_eq (tgt := 997) x1 x2 d5 (by omega) (fun _ => kk h2 hS2 H locs la hP hD hS hl) (fun q => absurd (lg_same v) q)
set_option maxRecDepth 100000 in
theorem lwx_type : lz_cv 13 mX11_type 1 := ⟨zq_tg (List.mem_of_getElem? (i := 271) rfl) rfl, zq_tg (List.mem_of_getElem? (i := 1) rfl) rfl, wX11_type, by decide +kernel, zq_tg (List.mem_of_getElem? (i := 272) rfl) rfl, zq_tg (List.mem_of_getElem? (i := 273) rfl) rfl⟩
set_option maxRecDepth 100000 in
theorem lwm_type : lz_cv 17 mX12_type 1 := ⟨zq_tg (List.mem_of_getElem? (i := 779) rfl) rfl, zq_tg (List.mem_of_getElem? (i := 13) rfl) rfl, wX12_type, by decide +kernel, zq_tg (List.mem_of_getElem? (i := 780) rfl) rfl, zq_tg (List.mem_of_getElem? (i := 781) rfl) rfl⟩
set_option maxRecDepth 100000 in
theorem lc_type {l : Launch} {p : Program} {e : Env} {s : State} {m : MethodId} {below : List Frame} {meth : Method} {c : Code} {b L : Nat} {xs : Nat → Int32} {D : va_G} {cy : Nat → ClassId} {i : Int32} {h : zq_H} (C : lz_C p s m meth c b L xs D cy) (hi1 : vp_in (i + 1) L) (hS0 : Sim h) (kk : ∀ h2, Sim h2 → lz_G l p e s m below meth c b D cy i 997 [] h2) : lz_G l p e s m below meth c b D cy i 172 [] h :=
  lz_ci1 (ix := 13) (im := 17) (off := 807) (rx := mX11_type) (rm := mX12_type) C (by decide +kernel) (by decide) lwx_type lwm_type ⟨by decide, by decide⟩ ⟨rfl, rfl⟩ rfl hi1 hS0 (s_type hS0 (xs (i + 1).toNatClampNeg)) kk
set_option maxRecDepth 100000 in
theorem lwx_clear : lz_cv 18 mX11_clear 0 := ⟨zq_tg (List.mem_of_getElem? (i := 278) rfl) rfl, zq_tg (List.mem_of_getElem? (i := 1) rfl) rfl, wX11_clear, by decide +kernel, zq_tg (List.mem_of_getElem? (i := 279) rfl) rfl, zq_tg (List.mem_of_getElem? (i := 280) rfl) rfl⟩
set_option maxRecDepth 100000 in
theorem lwm_clear : lz_cv 22 mX12_clear 0 := ⟨zq_tg (List.mem_of_getElem? (i := 783) rfl) rfl, zq_tg (List.mem_of_getElem? (i := 13) rfl) rfl, wX12_clear, by decide +kernel, zq_tg (List.mem_of_getElem? (i := 784) rfl) rfl, zq_tg (List.mem_of_getElem? (i := 785) rfl) rfl⟩
set_option maxRecDepth 100000 in
theorem lc_clear {l : Launch} {p : Program} {e : Env} {s : State} {m : MethodId} {below : List Frame} {meth : Method} {c : Code} {b L : Nat} {xs : Nat → Int32} {D : va_G} {cy : Nat → ClassId} {i : Int32} {h : zq_H} (C : lz_C p s m meth c b L xs D cy) (hS0 : Sim h) (kk : ∀ h2, Sim h2 → lz_G l p e s m below meth c b D cy i 997 [] h2) : lz_G l p e s m below meth c b D cy i 195 [] h :=
  lz_ci0 (ix := 18) (im := 22) (off := 794) (rx := mX11_clear) (rm := mX12_clear) C (by decide +kernel) (by decide) lwx_clear lwm_clear ⟨by decide, by decide⟩ ⟨rfl, rfl⟩ rfl hS0 (s_clear hS0 ) kk
set_option maxRecDepth 100000 in
theorem lwx_square : lz_cv 23 mX11_square 0 := ⟨zq_tg (List.mem_of_getElem? (i := 282) rfl) rfl, zq_tg (List.mem_of_getElem? (i := 1) rfl) rfl, wX11_square, by decide +kernel, zq_tg (List.mem_of_getElem? (i := 283) rfl) rfl, zq_tg (List.mem_of_getElem? (i := 284) rfl) rfl⟩
set_option maxRecDepth 100000 in
theorem lwm_square : lz_cv 26 mX12_square 0 := ⟨zq_tg (List.mem_of_getElem? (i := 787) rfl) rfl, zq_tg (List.mem_of_getElem? (i := 13) rfl) rfl, wX12_square, by decide +kernel, zq_tg (List.mem_of_getElem? (i := 788) rfl) rfl, zq_tg (List.mem_of_getElem? (i := 789) rfl) rfl⟩
set_option maxRecDepth 100000 in
theorem lc_square {l : Launch} {p : Program} {e : Env} {s : State} {m : MethodId} {below : List Frame} {meth : Method} {c : Code} {b L : Nat} {xs : Nat → Int32} {D : va_G} {cy : Nat → ClassId} {i : Int32} {h : zq_H} (C : lz_C p s m meth c b L xs D cy) (hS0 : Sim h) (kk : ∀ h2, Sim h2 → lz_G l p e s m below meth c b D cy i 997 [] h2) : lz_G l p e s m below meth c b D cy i 208 [] h :=
  lz_ci0 (ix := 23) (im := 26) (off := 781) (rx := mX11_square) (rm := mX12_square) C (by decide +kernel) (by decide) lwx_square lwm_square ⟨by decide, by decide⟩ ⟨rfl, rfl⟩ rfl hS0 (s_square hS0 ) kk
set_option maxRecDepth 100000 in
theorem lwx_person : lz_cv 27 mX11_person 2 := ⟨zq_tg (List.mem_of_getElem? (i := 359) rfl) rfl, zq_tg (List.mem_of_getElem? (i := 1) rfl) rfl, wX11_person, by decide +kernel, zq_tg (List.mem_of_getElem? (i := 360) rfl) rfl, zq_tg (List.mem_of_getElem? (i := 361) rfl) rfl⟩
set_option maxRecDepth 100000 in
theorem lwm_person : lz_cv 31 mX12_person 2 := ⟨zq_tg (List.mem_of_getElem? (i := 791) rfl) rfl, zq_tg (List.mem_of_getElem? (i := 13) rfl) rfl, wX12_person, by decide +kernel, zq_tg (List.mem_of_getElem? (i := 792) rfl) rfl, zq_tg (List.mem_of_getElem? (i := 793) rfl) rfl⟩
set_option maxRecDepth 100000 in
theorem lc_person {l : Launch} {p : Program} {e : Env} {s : State} {m : MethodId} {below : List Frame} {meth : Method} {c : Code} {b L : Nat} {xs : Nat → Int32} {D : va_G} {cy : Nat → ClassId} {i : Int32} {h : zq_H} (C : lz_C p s m meth c b L xs D cy) (hi1 : vp_in (i + 1) L) (hi2 : vp_in (i + 2) L) (hS0 : Sim h) (kk : ∀ h2, Sim h2 → lz_G l p e s m below meth c b D cy i 997 [] h2) : lz_G l p e s m below meth c b D cy i 221 [] h :=
  lz_ci2 (ix := 27) (im := 31) (off := 748) (rx := mX11_person) (rm := mX12_person) C (by decide +kernel) (by decide) lwx_person lwm_person ⟨by decide, by decide⟩ ⟨rfl, rfl⟩ rfl hi1 hi2 hS0 (s_person hS0 (xs (i + 1).toNatClampNeg) (xs (i + 2).toNatClampNeg)) kk
set_option maxRecDepth 100000 in
theorem lwx_cell : lz_cv 32 mX11_cell 2 := ⟨zq_tg (List.mem_of_getElem? (i := 398) rfl) rfl, zq_tg (List.mem_of_getElem? (i := 1) rfl) rfl, wX11_cell, by decide +kernel, zq_tg (List.mem_of_getElem? (i := 399) rfl) rfl, zq_tg (List.mem_of_getElem? (i := 400) rfl) rfl⟩
set_option maxRecDepth 100000 in
theorem lwm_cell : lz_cv 35 mX12_cell 2 := ⟨zq_tg (List.mem_of_getElem? (i := 811) rfl) rfl, zq_tg (List.mem_of_getElem? (i := 13) rfl) rfl, wX12_cell, by decide +kernel, zq_tg (List.mem_of_getElem? (i := 812) rfl) rfl, zq_tg (List.mem_of_getElem? (i := 813) rfl) rfl⟩
set_option maxRecDepth 100000 in
theorem lc_cell {l : Launch} {p : Program} {e : Env} {s : State} {m : MethodId} {below : List Frame} {meth : Method} {c : Code} {b L : Nat} {xs : Nat → Int32} {D : va_G} {cy : Nat → ClassId} {i : Int32} {h : zq_H} (C : lz_C p s m meth c b L xs D cy) (hi1 : vp_in (i + 1) L) (hi2 : vp_in (i + 2) L) (hS0 : Sim h) (kk : ∀ h2, Sim h2 → lz_G l p e s m below meth c b D cy i 997 [] h2) : lz_G l p e s m below meth c b D cy i 254 [] h :=
  lz_ci2 (ix := 32) (im := 35) (off := 715) (rx := mX11_cell) (rm := mX12_cell) C (by decide +kernel) (by decide) lwx_cell lwm_cell ⟨by decide, by decide⟩ ⟨rfl, rfl⟩ rfl hi1 hi2 hS0 (s_cell hS0 (xs (i + 1).toNatClampNeg) (xs (i + 2).toNatClampNeg)) kk
set_option maxRecDepth 100000 in
theorem lwx_now : lz_cv 36 mX11_now 1 := ⟨zq_tg (List.mem_of_getElem? (i := 406) rfl) rfl, zq_tg (List.mem_of_getElem? (i := 1) rfl) rfl, wX11_now, by decide +kernel, zq_tg (List.mem_of_getElem? (i := 407) rfl) rfl, zq_tg (List.mem_of_getElem? (i := 408) rfl) rfl⟩
set_option maxRecDepth 100000 in
theorem lwm_now : lz_cv 39 mX12_now 1 := ⟨zq_tg (List.mem_of_getElem? (i := 815) rfl) rfl, zq_tg (List.mem_of_getElem? (i := 13) rfl) rfl, wX12_now, by decide +kernel, zq_tg (List.mem_of_getElem? (i := 816) rfl) rfl, zq_tg (List.mem_of_getElem? (i := 817) rfl) rfl⟩
set_option maxRecDepth 100000 in
theorem lc_now {l : Launch} {p : Program} {e : Env} {s : State} {m : MethodId} {below : List Frame} {meth : Method} {c : Code} {b L : Nat} {xs : Nat → Int32} {D : va_G} {cy : Nat → ClassId} {i : Int32} {h : zq_H} (C : lz_C p s m meth c b L xs D cy) (hi1 : vp_in (i + 1) L) (hS0 : Sim h) (kk : ∀ h2, Sim h2 → lz_G l p e s m below meth c b D cy i 997 [] h2) : lz_G l p e s m below meth c b D cy i 287 [] h :=
  lz_ci1 (ix := 36) (im := 39) (off := 692) (rx := mX11_now) (rm := mX12_now) C (by decide +kernel) (by decide) lwx_now lwm_now ⟨by decide, by decide⟩ ⟨rfl, rfl⟩ rfl hi1 hS0 (s_now hS0 (xs (i + 1).toNatClampNeg)) kk
set_option maxRecDepth 100000 in
theorem lwx_walk : lz_cv 40 mX11_walk 2 := ⟨zq_tg (List.mem_of_getElem? (i := 411) rfl) rfl, zq_tg (List.mem_of_getElem? (i := 1) rfl) rfl, wX11_walk, by decide +kernel, zq_tg (List.mem_of_getElem? (i := 412) rfl) rfl, zq_tg (List.mem_of_getElem? (i := 413) rfl) rfl⟩
set_option maxRecDepth 100000 in
theorem lwm_walk : lz_cv 43 mX12_walk 2 := ⟨zq_tg (List.mem_of_getElem? (i := 823) rfl) rfl, zq_tg (List.mem_of_getElem? (i := 13) rfl) rfl, wX12_walk, by decide +kernel, zq_tg (List.mem_of_getElem? (i := 824) rfl) rfl, zq_tg (List.mem_of_getElem? (i := 825) rfl) rfl⟩
set_option maxRecDepth 100000 in
theorem lc_walk {l : Launch} {p : Program} {e : Env} {s : State} {m : MethodId} {below : List Frame} {meth : Method} {c : Code} {b L : Nat} {xs : Nat → Int32} {D : va_G} {cy : Nat → ClassId} {i : Int32} {h : zq_H} (C : lz_C p s m meth c b L xs D cy) (hi1 : vp_in (i + 1) L) (hi2 : vp_in (i + 2) L) (hS0 : Sim h) (kk : ∀ h2, Sim h2 → lz_G l p e s m below meth c b D cy i 997 [] h2) : lz_G l p e s m below meth c b D cy i 310 [] h :=
  lz_ci2 (ix := 40) (im := 43) (off := 659) (rx := mX11_walk) (rm := mX12_walk) C (by decide +kernel) (by decide) lwx_walk lwm_walk ⟨by decide, by decide⟩ ⟨rfl, rfl⟩ rfl hi1 hi2 hS0 (s_walk hS0 (xs (i + 1).toNatClampNeg) (xs (i + 2).toNatClampNeg)) kk
set_option maxRecDepth 100000 in
theorem lwx_die : lz_cv 44 mX11_die 1 := ⟨zq_tg (List.mem_of_getElem? (i := 423) rfl) rfl, zq_tg (List.mem_of_getElem? (i := 1) rfl) rfl, wX11_die, by decide +kernel, zq_tg (List.mem_of_getElem? (i := 424) rfl) rfl, zq_tg (List.mem_of_getElem? (i := 425) rfl) rfl⟩
set_option maxRecDepth 100000 in
theorem lwm_die : lz_cv 47 mX12_die 1 := ⟨zq_tg (List.mem_of_getElem? (i := 831) rfl) rfl, zq_tg (List.mem_of_getElem? (i := 13) rfl) rfl, wX12_die, by decide +kernel, zq_tg (List.mem_of_getElem? (i := 832) rfl) rfl, zq_tg (List.mem_of_getElem? (i := 833) rfl) rfl⟩
set_option maxRecDepth 100000 in
theorem lc_die {l : Launch} {p : Program} {e : Env} {s : State} {m : MethodId} {below : List Frame} {meth : Method} {c : Code} {b L : Nat} {xs : Nat → Int32} {D : va_G} {cy : Nat → ClassId} {i : Int32} {h : zq_H} (C : lz_C p s m meth c b L xs D cy) (hi1 : vp_in (i + 1) L) (hS0 : Sim h) (kk : ∀ h2, Sim h2 → lz_G l p e s m below meth c b D cy i 997 [] h2) : lz_G l p e s m below meth c b D cy i 343 [] h :=
  lz_ci1 (ix := 44) (im := 47) (off := 636) (rx := mX11_die) (rm := mX12_die) C (by decide +kernel) (by decide) lwx_die lwm_die ⟨by decide, by decide⟩ ⟨rfl, rfl⟩ rfl hi1 hS0 (s_die hS0 (xs (i + 1).toNatClampNeg)) kk
set_option maxRecDepth 100000 in
theorem lwx_smoke : lz_cv 48 mX11_smoke 2 := ⟨zq_tg (List.mem_of_getElem? (i := 427) rfl) rfl, zq_tg (List.mem_of_getElem? (i := 1) rfl) rfl, wX11_smoke, by decide +kernel, zq_tg (List.mem_of_getElem? (i := 428) rfl) rfl, zq_tg (List.mem_of_getElem? (i := 429) rfl) rfl⟩
set_option maxRecDepth 100000 in
theorem lwm_smoke : lz_cv 51 mX12_smoke 2 := ⟨zq_tg (List.mem_of_getElem? (i := 835) rfl) rfl, zq_tg (List.mem_of_getElem? (i := 13) rfl) rfl, wX12_smoke, by decide +kernel, zq_tg (List.mem_of_getElem? (i := 836) rfl) rfl, zq_tg (List.mem_of_getElem? (i := 837) rfl) rfl⟩
set_option maxRecDepth 100000 in
theorem lc_smoke {l : Launch} {p : Program} {e : Env} {s : State} {m : MethodId} {below : List Frame} {meth : Method} {c : Code} {b L : Nat} {xs : Nat → Int32} {D : va_G} {cy : Nat → ClassId} {i : Int32} {h : zq_H} (C : lz_C p s m meth c b L xs D cy) (hi1 : vp_in (i + 1) L) (hi2 : vp_in (i + 2) L) (hS0 : Sim h) (kk : ∀ h2, Sim h2 → lz_G l p e s m below meth c b D cy i 997 [] h2) : lz_G l p e s m below meth c b D cy i 366 [] h :=
  lz_ci2 (ix := 48) (im := 51) (off := 603) (rx := mX11_smoke) (rm := mX12_smoke) C (by decide +kernel) (by decide) lwx_smoke lwm_smoke ⟨by decide, by decide⟩ ⟨rfl, rfl⟩ rfl hi1 hi2 hS0 (s_smoke hS0 (xs (i + 1).toNatClampNeg) (xs (i + 2).toNatClampNeg)) kk
set_option maxRecDepth 100000 in
theorem lwx_deed : lz_cv 52 mX11_deed 2 := ⟨zq_tg (List.mem_of_getElem? (i := 441) rfl) rfl, zq_tg (List.mem_of_getElem? (i := 1) rfl) rfl, wX11_deed, by decide +kernel, zq_tg (List.mem_of_getElem? (i := 442) rfl) rfl, zq_tg (List.mem_of_getElem? (i := 443) rfl) rfl⟩
set_option maxRecDepth 100000 in
theorem lwm_deed : lz_cv 55 mX12_deed 2 := ⟨zq_tg (List.mem_of_getElem? (i := 842) rfl) rfl, zq_tg (List.mem_of_getElem? (i := 13) rfl) rfl, wX12_deed, by decide +kernel, zq_tg (List.mem_of_getElem? (i := 843) rfl) rfl, zq_tg (List.mem_of_getElem? (i := 844) rfl) rfl⟩
set_option maxRecDepth 100000 in
theorem lc_deed {l : Launch} {p : Program} {e : Env} {s : State} {m : MethodId} {below : List Frame} {meth : Method} {c : Code} {b L : Nat} {xs : Nat → Int32} {D : va_G} {cy : Nat → ClassId} {i : Int32} {h : zq_H} (C : lz_C p s m meth c b L xs D cy) (hi1 : vp_in (i + 1) L) (hi2 : vp_in (i + 2) L) (hS0 : Sim h) (kk : ∀ h2, Sim h2 → lz_G l p e s m below meth c b D cy i 997 [] h2) : lz_G l p e s m below meth c b D cy i 399 [] h :=
  lz_ci2 (ix := 52) (im := 55) (off := 570) (rx := mX11_deed) (rm := mX12_deed) C (by decide +kernel) (by decide) lwx_deed lwm_deed ⟨by decide, by decide⟩ ⟨rfl, rfl⟩ rfl hi1 hi2 hS0 (s_deed hS0 (xs (i + 1).toNatClampNeg) (xs (i + 2).toNatClampNeg)) kk
set_option maxRecDepth 100000 in
theorem lwx_day : lz_cv 56 mX11_day 0 := ⟨zq_tg (List.mem_of_getElem? (i := 451) rfl) rfl, zq_tg (List.mem_of_getElem? (i := 1) rfl) rfl, wX11_day, by decide +kernel, zq_tg (List.mem_of_getElem? (i := 452) rfl) rfl, zq_tg (List.mem_of_getElem? (i := 453) rfl) rfl⟩
set_option maxRecDepth 100000 in
theorem lwm_day : lz_cv 59 mX12_day 0 := ⟨zq_tg (List.mem_of_getElem? (i := 846) rfl) rfl, zq_tg (List.mem_of_getElem? (i := 13) rfl) rfl, wX12_day, by decide +kernel, zq_tg (List.mem_of_getElem? (i := 847) rfl) rfl, zq_tg (List.mem_of_getElem? (i := 848) rfl) rfl⟩
set_option maxRecDepth 100000 in
theorem lc_day {l : Launch} {p : Program} {e : Env} {s : State} {m : MethodId} {below : List Frame} {meth : Method} {c : Code} {b L : Nat} {xs : Nat → Int32} {D : va_G} {cy : Nat → ClassId} {i : Int32} {h : zq_H} (C : lz_C p s m meth c b L xs D cy) (hS0 : Sim h) (kk : ∀ h2, Sim h2 → lz_G l p e s m below meth c b D cy i 997 [] h2) : lz_G l p e s m below meth c b D cy i 432 [] h :=
  lz_ci0 (ix := 56) (im := 59) (off := 557) (rx := mX11_day) (rm := mX12_day) C (by decide +kernel) (by decide) lwx_day lwm_day ⟨by decide, by decide⟩ ⟨rfl, rfl⟩ rfl hS0 (s_day hS0 ) kk
set_option maxRecDepth 100000 in
theorem lwx_undo : lz_cv 60 mX11_undo 0 := ⟨zq_tg (List.mem_of_getElem? (i := 459) rfl) rfl, zq_tg (List.mem_of_getElem? (i := 1) rfl) rfl, wX11_undo, by decide +kernel, zq_tg (List.mem_of_getElem? (i := 460) rfl) rfl, zq_tg (List.mem_of_getElem? (i := 461) rfl) rfl⟩
set_option maxRecDepth 100000 in
theorem lwm_undo : lz_cv 63 mX12_undo 0 := ⟨zq_tg (List.mem_of_getElem? (i := 850) rfl) rfl, zq_tg (List.mem_of_getElem? (i := 13) rfl) rfl, wX12_undo, by decide +kernel, zq_tg (List.mem_of_getElem? (i := 851) rfl) rfl, zq_tg (List.mem_of_getElem? (i := 852) rfl) rfl⟩
set_option maxRecDepth 100000 in
theorem lc_undo {l : Launch} {p : Program} {e : Env} {s : State} {m : MethodId} {below : List Frame} {meth : Method} {c : Code} {b L : Nat} {xs : Nat → Int32} {D : va_G} {cy : Nat → ClassId} {i : Int32} {h : zq_H} (C : lz_C p s m meth c b L xs D cy) (hS0 : Sim h) (kk : ∀ h2, Sim h2 → lz_G l p e s m below meth c b D cy i 997 [] h2) : lz_G l p e s m below meth c b D cy i 445 [] h :=
  lz_ci0 (ix := 60) (im := 63) (off := 544) (rx := mX11_undo) (rm := mX12_undo) C (by decide +kernel) (by decide) lwx_undo lwm_undo ⟨by decide, by decide⟩ ⟨rfl, rfl⟩ rfl hS0 (s_undo hS0 ) kk
set_option maxRecDepth 100000 in
theorem lwx_done : lz_cv 64 mX11_done 2 := ⟨zq_tg (List.mem_of_getElem? (i := 467) rfl) rfl, zq_tg (List.mem_of_getElem? (i := 1) rfl) rfl, wX11_done, by decide +kernel, zq_tg (List.mem_of_getElem? (i := 468) rfl) rfl, zq_tg (List.mem_of_getElem? (i := 469) rfl) rfl⟩
set_option maxRecDepth 100000 in
theorem lwm_done : lz_cv 67 mX12_done 2 := ⟨zq_tg (List.mem_of_getElem? (i := 854) rfl) rfl, zq_tg (List.mem_of_getElem? (i := 13) rfl) rfl, wX12_done, by decide +kernel, zq_tg (List.mem_of_getElem? (i := 855) rfl) rfl, zq_tg (List.mem_of_getElem? (i := 856) rfl) rfl⟩
set_option maxRecDepth 100000 in
theorem lc_done {l : Launch} {p : Program} {e : Env} {s : State} {m : MethodId} {below : List Frame} {meth : Method} {c : Code} {b L : Nat} {xs : Nat → Int32} {D : va_G} {cy : Nat → ClassId} {i : Int32} {h : zq_H} (C : lz_C p s m meth c b L xs D cy) (hi1 : vp_in (i + 1) L) (hi2 : vp_in (i + 2) L) (hS0 : Sim h) (kk : ∀ h2, Sim h2 → lz_G l p e s m below meth c b D cy i 997 [] h2) : lz_G l p e s m below meth c b D cy i 458 [] h :=
  lz_ci2 (ix := 64) (im := 67) (off := 511) (rx := mX11_done) (rm := mX12_done) C (by decide +kernel) (by decide) lwx_done lwm_done ⟨by decide, by decide⟩ ⟨rfl, rfl⟩ rfl hi1 hi2 hS0 (s_done hS0 (xs (i + 1).toNatClampNeg) (xs (i + 2).toNatClampNeg)) kk
set_option maxRecDepth 100000 in
theorem lwx_counts : lz_cv 68 mX11_counts 1 := ⟨zq_tg (List.mem_of_getElem? (i := 479) rfl) rfl, zq_tg (List.mem_of_getElem? (i := 1) rfl) rfl, wX11_counts, by decide +kernel, zq_tg (List.mem_of_getElem? (i := 480) rfl) rfl, zq_tg (List.mem_of_getElem? (i := 481) rfl) rfl⟩
set_option maxRecDepth 100000 in
theorem lwm_counts : lz_cv 71 mX12_counts 1 := ⟨zq_tg (List.mem_of_getElem? (i := 862) rfl) rfl, zq_tg (List.mem_of_getElem? (i := 13) rfl) rfl, wX12_counts, by decide +kernel, zq_tg (List.mem_of_getElem? (i := 863) rfl) rfl, zq_tg (List.mem_of_getElem? (i := 864) rfl) rfl⟩
set_option maxRecDepth 100000 in
theorem lc_counts {l : Launch} {p : Program} {e : Env} {s : State} {m : MethodId} {below : List Frame} {meth : Method} {c : Code} {b L : Nat} {xs : Nat → Int32} {D : va_G} {cy : Nat → ClassId} {i : Int32} {h : zq_H} (C : lz_C p s m meth c b L xs D cy) (hi1 : vp_in (i + 1) L) (hS0 : Sim h) (kk : ∀ h2, Sim h2 → lz_G l p e s m below meth c b D cy i 997 [] h2) : lz_G l p e s m below meth c b D cy i 491 [] h :=
  lz_ci1 (ix := 68) (im := 71) (off := 488) (rx := mX11_counts) (rm := mX12_counts) C (by decide +kernel) (by decide) lwx_counts lwm_counts ⟨by decide, by decide⟩ ⟨rfl, rfl⟩ rfl hi1 hS0 (s_counts hS0 (xs (i + 1).toNatClampNeg)) kk
set_option maxRecDepth 100000 in
theorem lwx_holder : lz_cv 72 mX11_holder 2 := ⟨zq_tg (List.mem_of_getElem? (i := 483) rfl) rfl, zq_tg (List.mem_of_getElem? (i := 1) rfl) rfl, wX11_holder, by decide +kernel, zq_tg (List.mem_of_getElem? (i := 484) rfl) rfl, zq_tg (List.mem_of_getElem? (i := 485) rfl) rfl⟩
set_option maxRecDepth 100000 in
theorem lwm_holder : lz_cv 75 mX12_holder 2 := ⟨zq_tg (List.mem_of_getElem? (i := 866) rfl) rfl, zq_tg (List.mem_of_getElem? (i := 13) rfl) rfl, wX12_holder, by decide +kernel, zq_tg (List.mem_of_getElem? (i := 867) rfl) rfl, zq_tg (List.mem_of_getElem? (i := 868) rfl) rfl⟩
set_option maxRecDepth 100000 in
theorem lc_holder {l : Launch} {p : Program} {e : Env} {s : State} {m : MethodId} {below : List Frame} {meth : Method} {c : Code} {b L : Nat} {xs : Nat → Int32} {D : va_G} {cy : Nat → ClassId} {i : Int32} {h : zq_H} (C : lz_C p s m meth c b L xs D cy) (hi1 : vp_in (i + 1) L) (hi2 : vp_in (i + 2) L) (hS0 : Sim h) (kk : ∀ h2, Sim h2 → lz_G l p e s m below meth c b D cy i 997 [] h2) : lz_G l p e s m below meth c b D cy i 514 [] h :=
  lz_ci2 (ix := 72) (im := 75) (off := 455) (rx := mX11_holder) (rm := mX12_holder) C (by decide +kernel) (by decide) lwx_holder lwm_holder ⟨by decide, by decide⟩ ⟨rfl, rfl⟩ rfl hi1 hi2 hS0 (s_holder hS0 (xs (i + 1).toNatClampNeg) (xs (i + 2).toNatClampNeg)) kk
set_option maxRecDepth 100000 in
theorem lwx_round : lz_cv 76 mX11_round 0 := ⟨zq_tg (List.mem_of_getElem? (i := 510) rfl) rfl, zq_tg (List.mem_of_getElem? (i := 1) rfl) rfl, wX11_round, by decide +kernel, zq_tg (List.mem_of_getElem? (i := 511) rfl) rfl, zq_tg (List.mem_of_getElem? (i := 512) rfl) rfl⟩
set_option maxRecDepth 100000 in
theorem lwm_round : lz_cv 79 mX12_round 0 := ⟨zq_tg (List.mem_of_getElem? (i := 882) rfl) rfl, zq_tg (List.mem_of_getElem? (i := 13) rfl) rfl, wX12_round, by decide +kernel, zq_tg (List.mem_of_getElem? (i := 883) rfl) rfl, zq_tg (List.mem_of_getElem? (i := 884) rfl) rfl⟩
set_option maxRecDepth 100000 in
theorem lc_round {l : Launch} {p : Program} {e : Env} {s : State} {m : MethodId} {below : List Frame} {meth : Method} {c : Code} {b L : Nat} {xs : Nat → Int32} {D : va_G} {cy : Nat → ClassId} {i : Int32} {h : zq_H} (C : lz_C p s m meth c b L xs D cy) (hS0 : Sim h) (kk : ∀ h2, Sim h2 → lz_G l p e s m below meth c b D cy i 997 [] h2) : lz_G l p e s m below meth c b D cy i 547 [] h :=
  lz_ci0 (ix := 76) (im := 79) (off := 442) (rx := mX11_round) (rm := mX12_round) C (by decide +kernel) (by decide) lwx_round lwm_round ⟨by decide, by decide⟩ ⟨rfl, rfl⟩ rfl hS0 (s_round hS0 ) kk
set_option maxRecDepth 100000 in
theorem lwx_votes : lz_cv 80 mX11_votes 1 := ⟨zq_tg (List.mem_of_getElem? (i := 522) rfl) rfl, zq_tg (List.mem_of_getElem? (i := 1) rfl) rfl, wX11_votes, by decide +kernel, zq_tg (List.mem_of_getElem? (i := 523) rfl) rfl, zq_tg (List.mem_of_getElem? (i := 524) rfl) rfl⟩
set_option maxRecDepth 100000 in
theorem lwm_votes : lz_cv 83 mX12_votes 1 := ⟨zq_tg (List.mem_of_getElem? (i := 886) rfl) rfl, zq_tg (List.mem_of_getElem? (i := 13) rfl) rfl, wX12_votes, by decide +kernel, zq_tg (List.mem_of_getElem? (i := 887) rfl) rfl, zq_tg (List.mem_of_getElem? (i := 888) rfl) rfl⟩
set_option maxRecDepth 100000 in
theorem lc_votes {l : Launch} {p : Program} {e : Env} {s : State} {m : MethodId} {below : List Frame} {meth : Method} {c : Code} {b L : Nat} {xs : Nat → Int32} {D : va_G} {cy : Nat → ClassId} {i : Int32} {h : zq_H} (C : lz_C p s m meth c b L xs D cy) (hi1 : vp_in (i + 1) L) (hS0 : Sim h) (kk : ∀ h2, Sim h2 → lz_G l p e s m below meth c b D cy i 997 [] h2) : lz_G l p e s m below meth c b D cy i 560 [] h :=
  lz_ci1 (ix := 80) (im := 83) (off := 419) (rx := mX11_votes) (rm := mX12_votes) C (by decide +kernel) (by decide) lwx_votes lwm_votes ⟨by decide, by decide⟩ ⟨rfl, rfl⟩ rfl hi1 hS0 (s_votes hS0 (xs (i + 1).toNatClampNeg)) kk
set_option maxRecDepth 100000 in
theorem lwx_nearer : lz_cv 84 mX11_nearer 2 := ⟨zq_tg (List.mem_of_getElem? (i := 530) rfl) rfl, zq_tg (List.mem_of_getElem? (i := 1) rfl) rfl, wX11_nearer, by decide +kernel, zq_tg (List.mem_of_getElem? (i := 531) rfl) rfl, zq_tg (List.mem_of_getElem? (i := 532) rfl) rfl⟩
set_option maxRecDepth 100000 in
theorem lwm_nearer : lz_cv 87 mX12_nearer 2 := ⟨zq_tg (List.mem_of_getElem? (i := 890) rfl) rfl, zq_tg (List.mem_of_getElem? (i := 13) rfl) rfl, wX12_nearer, by decide +kernel, zq_tg (List.mem_of_getElem? (i := 891) rfl) rfl, zq_tg (List.mem_of_getElem? (i := 892) rfl) rfl⟩
set_option maxRecDepth 100000 in
theorem lc_nearer {l : Launch} {p : Program} {e : Env} {s : State} {m : MethodId} {below : List Frame} {meth : Method} {c : Code} {b L : Nat} {xs : Nat → Int32} {D : va_G} {cy : Nat → ClassId} {i : Int32} {h : zq_H} (C : lz_C p s m meth c b L xs D cy) (hi1 : vp_in (i + 1) L) (hi2 : vp_in (i + 2) L) (hS0 : Sim h) (kk : ∀ h2, Sim h2 → lz_G l p e s m below meth c b D cy i 997 [] h2) : lz_G l p e s m below meth c b D cy i 583 [] h :=
  lz_ci2 (ix := 84) (im := 87) (off := 386) (rx := mX11_nearer) (rm := mX12_nearer) C (by decide +kernel) (by decide) lwx_nearer lwm_nearer ⟨by decide, by decide⟩ ⟨rfl, rfl⟩ rfl hi1 hi2 hS0 (s_nearer hS0 (xs (i + 1).toNatClampNeg) (xs (i + 2).toNatClampNeg)) kk
set_option maxRecDepth 100000 in
theorem lwx_hide : lz_cv 88 mX11_hide 3 := ⟨zq_tg (List.mem_of_getElem? (i := 534) rfl) rfl, zq_tg (List.mem_of_getElem? (i := 1) rfl) rfl, wX11_hide, by decide +kernel, zq_tg (List.mem_of_getElem? (i := 535) rfl) rfl, zq_tg (List.mem_of_getElem? (i := 536) rfl) rfl⟩
set_option maxRecDepth 100000 in
theorem lwm_hide : lz_cv 92 mX12_hide 3 := ⟨zq_tg (List.mem_of_getElem? (i := 894) rfl) rfl, zq_tg (List.mem_of_getElem? (i := 13) rfl) rfl, wX12_hide, by decide +kernel, zq_tg (List.mem_of_getElem? (i := 895) rfl) rfl, zq_tg (List.mem_of_getElem? (i := 896) rfl) rfl⟩
set_option maxRecDepth 100000 in
theorem lc_hide {l : Launch} {p : Program} {e : Env} {s : State} {m : MethodId} {below : List Frame} {meth : Method} {c : Code} {b L : Nat} {xs : Nat → Int32} {D : va_G} {cy : Nat → ClassId} {i : Int32} {h : zq_H} (C : lz_C p s m meth c b L xs D cy) (hi1 : vp_in (i + 1) L) (hi2 : vp_in (i + 2) L) (hi3 : vp_in (i + 3) L) (hS0 : Sim h) (kk : ∀ h2, Sim h2 → lz_G l p e s m below meth c b D cy i 997 [] h2) : lz_G l p e s m below meth c b D cy i 616 [] h :=
  lz_ci3 (ix := 88) (im := 92) (off := 343) (rx := mX11_hide) (rm := mX12_hide) C (by decide +kernel) (by decide) lwx_hide lwm_hide ⟨by decide, by decide⟩ ⟨rfl, rfl⟩ rfl hi1 hi2 hi3 hS0 (s_hide hS0 (xs (i + 1).toNatClampNeg) (xs (i + 2).toNatClampNeg) (xs (i + 3).toNatClampNeg)) kk
set_option maxRecDepth 100000 in
theorem lwx_blocks : lz_cv 93 mX11_blocks 2 := ⟨zq_tg (List.mem_of_getElem? (i := 558) rfl) rfl, zq_tg (List.mem_of_getElem? (i := 1) rfl) rfl, wX11_blocks, by decide +kernel, zq_tg (List.mem_of_getElem? (i := 559) rfl) rfl, zq_tg (List.mem_of_getElem? (i := 560) rfl) rfl⟩
set_option maxRecDepth 100000 in
theorem lwm_blocks : lz_cv 96 mX12_blocks 2 := ⟨zq_tg (List.mem_of_getElem? (i := 902) rfl) rfl, zq_tg (List.mem_of_getElem? (i := 13) rfl) rfl, wX12_blocks, by decide +kernel, zq_tg (List.mem_of_getElem? (i := 903) rfl) rfl, zq_tg (List.mem_of_getElem? (i := 904) rfl) rfl⟩
set_option maxRecDepth 100000 in
theorem lc_blocks {l : Launch} {p : Program} {e : Env} {s : State} {m : MethodId} {below : List Frame} {meth : Method} {c : Code} {b L : Nat} {xs : Nat → Int32} {D : va_G} {cy : Nat → ClassId} {i : Int32} {h : zq_H} (C : lz_C p s m meth c b L xs D cy) (hi1 : vp_in (i + 1) L) (hi2 : vp_in (i + 2) L) (hS0 : Sim h) (kk : ∀ h2, Sim h2 → lz_G l p e s m below meth c b D cy i 997 [] h2) : lz_G l p e s m below meth c b D cy i 659 [] h :=
  lz_ci2 (ix := 93) (im := 96) (off := 310) (rx := mX11_blocks) (rm := mX12_blocks) C (by decide +kernel) (by decide) lwx_blocks lwm_blocks ⟨by decide, by decide⟩ ⟨rfl, rfl⟩ rfl hi1 hi2 hS0 (s_blocks hS0 (xs (i + 1).toNatClampNeg) (xs (i + 2).toNatClampNeg)) kk
set_option maxRecDepth 100000 in
theorem lwx_hides : lz_cv 97 mX11_hides 1 := ⟨zq_tg (List.mem_of_getElem? (i := 563) rfl) rfl, zq_tg (List.mem_of_getElem? (i := 1) rfl) rfl, wX11_hides, by decide +kernel, zq_tg (List.mem_of_getElem? (i := 564) rfl) rfl, zq_tg (List.mem_of_getElem? (i := 565) rfl) rfl⟩
set_option maxRecDepth 100000 in
theorem lwm_hides : lz_cv 100 mX12_hides 1 := ⟨zq_tg (List.mem_of_getElem? (i := 906) rfl) rfl, zq_tg (List.mem_of_getElem? (i := 13) rfl) rfl, wX12_hides, by decide +kernel, zq_tg (List.mem_of_getElem? (i := 907) rfl) rfl, zq_tg (List.mem_of_getElem? (i := 908) rfl) rfl⟩
set_option maxRecDepth 100000 in
theorem lc_hides {l : Launch} {p : Program} {e : Env} {s : State} {m : MethodId} {below : List Frame} {meth : Method} {c : Code} {b L : Nat} {xs : Nat → Int32} {D : va_G} {cy : Nat → ClassId} {i : Int32} {h : zq_H} (C : lz_C p s m meth c b L xs D cy) (hi1 : vp_in (i + 1) L) (hS0 : Sim h) (kk : ∀ h2, Sim h2 → lz_G l p e s m below meth c b D cy i 997 [] h2) : lz_G l p e s m below meth c b D cy i 692 [] h :=
  lz_ci1 (ix := 97) (im := 100) (off := 287) (rx := mX11_hides) (rm := mX12_hides) C (by decide +kernel) (by decide) lwx_hides lwm_hides ⟨by decide, by decide⟩ ⟨rfl, rfl⟩ rfl hi1 hS0 (s_hides hS0 (xs (i + 1).toNatClampNeg)) kk
set_option maxRecDepth 100000 in
theorem lwx_odds : lz_cv 101 mX11_odds 3 := ⟨zq_tg (List.mem_of_getElem? (i := 569) rfl) rfl, zq_tg (List.mem_of_getElem? (i := 1) rfl) rfl, wX11_odds, by decide +kernel, zq_tg (List.mem_of_getElem? (i := 570) rfl) rfl, zq_tg (List.mem_of_getElem? (i := 571) rfl) rfl⟩
set_option maxRecDepth 100000 in
theorem lwm_odds : lz_cv 105 mX12_odds 3 := ⟨zq_tg (List.mem_of_getElem? (i := 910) rfl) rfl, zq_tg (List.mem_of_getElem? (i := 13) rfl) rfl, wX12_odds, by decide +kernel, zq_tg (List.mem_of_getElem? (i := 911) rfl) rfl, zq_tg (List.mem_of_getElem? (i := 912) rfl) rfl⟩
set_option maxRecDepth 100000 in
theorem lc_odds {l : Launch} {p : Program} {e : Env} {s : State} {m : MethodId} {below : List Frame} {meth : Method} {c : Code} {b L : Nat} {xs : Nat → Int32} {D : va_G} {cy : Nat → ClassId} {i : Int32} {h : zq_H} (C : lz_C p s m meth c b L xs D cy) (hi1 : vp_in (i + 1) L) (hi2 : vp_in (i + 2) L) (hi3 : vp_in (i + 3) L) (hS0 : Sim h) (kk : ∀ h2, Sim h2 → lz_G l p e s m below meth c b D cy i 997 [] h2) : lz_G l p e s m below meth c b D cy i 715 [] h :=
  lz_cj3 (ix := 101) (im := 105) (off := 243) (rx := mX11_odds) (rm := mX12_odds) C (by decide +kernel) (by decide) lwx_odds lwm_odds ⟨by decide, by decide⟩ ⟨rfl, rfl⟩ rfl hi1 hi2 hi3 hS0 (s_odds hS0 (xs (i + 1).toNatClampNeg) (xs (i + 2).toNatClampNeg) (xs (i + 3).toNatClampNeg)) kk
set_option maxRecDepth 100000 in
theorem lwx_often : lz_cv 106 mX11_often 2 := ⟨zq_tg (List.mem_of_getElem? (i := 583) rfl) rfl, zq_tg (List.mem_of_getElem? (i := 1) rfl) rfl, wX11_often, by decide +kernel, zq_tg (List.mem_of_getElem? (i := 584) rfl) rfl, zq_tg (List.mem_of_getElem? (i := 585) rfl) rfl⟩
set_option maxRecDepth 100000 in
theorem lwm_often : lz_cv 109 mX12_often 2 := ⟨zq_tg (List.mem_of_getElem? (i := 919) rfl) rfl, zq_tg (List.mem_of_getElem? (i := 13) rfl) rfl, wX12_often, by decide +kernel, zq_tg (List.mem_of_getElem? (i := 920) rfl) rfl, zq_tg (List.mem_of_getElem? (i := 921) rfl) rfl⟩
set_option maxRecDepth 100000 in
theorem lc_often {l : Launch} {p : Program} {e : Env} {s : State} {m : MethodId} {below : List Frame} {meth : Method} {c : Code} {b L : Nat} {xs : Nat → Int32} {D : va_G} {cy : Nat → ClassId} {i : Int32} {h : zq_H} (C : lz_C p s m meth c b L xs D cy) (hi1 : vp_in (i + 1) L) (hi2 : vp_in (i + 2) L) (hS0 : Sim h) (kk : ∀ h2, Sim h2 → lz_G l p e s m below meth c b D cy i 997 [] h2) : lz_G l p e s m below meth c b D cy i 759 [] h :=
  lz_ci2 (ix := 106) (im := 109) (off := 210) (rx := mX11_often) (rm := mX12_often) C (by decide +kernel) (by decide) lwx_often lwm_often ⟨by decide, by decide⟩ ⟨rfl, rfl⟩ rfl hi1 hi2 hS0 (s_often hS0 (xs (i + 1).toNatClampNeg) (xs (i + 2).toNatClampNeg)) kk
set_option maxRecDepth 100000 in
theorem lwx_stood : lz_cv 110 mX11_stood 2 := ⟨zq_tg (List.mem_of_getElem? (i := 588) rfl) rfl, zq_tg (List.mem_of_getElem? (i := 1) rfl) rfl, wX11_stood, by decide +kernel, zq_tg (List.mem_of_getElem? (i := 589) rfl) rfl, zq_tg (List.mem_of_getElem? (i := 590) rfl) rfl⟩
set_option maxRecDepth 100000 in
theorem lwm_stood : lz_cv 113 mX12_stood 2 := ⟨zq_tg (List.mem_of_getElem? (i := 923) rfl) rfl, zq_tg (List.mem_of_getElem? (i := 13) rfl) rfl, wX12_stood, by decide +kernel, zq_tg (List.mem_of_getElem? (i := 924) rfl) rfl, zq_tg (List.mem_of_getElem? (i := 925) rfl) rfl⟩
set_option maxRecDepth 100000 in
theorem lc_stood {l : Launch} {p : Program} {e : Env} {s : State} {m : MethodId} {below : List Frame} {meth : Method} {c : Code} {b L : Nat} {xs : Nat → Int32} {D : va_G} {cy : Nat → ClassId} {i : Int32} {h : zq_H} (C : lz_C p s m meth c b L xs D cy) (hi1 : vp_in (i + 1) L) (hi2 : vp_in (i + 2) L) (hS0 : Sim h) (kk : ∀ h2, Sim h2 → lz_G l p e s m below meth c b D cy i 997 [] h2) : lz_G l p e s m below meth c b D cy i 792 [] h :=
  lz_ci2 (ix := 110) (im := 113) (off := 177) (rx := mX11_stood) (rm := mX12_stood) C (by decide +kernel) (by decide) lwx_stood lwm_stood ⟨by decide, by decide⟩ ⟨rfl, rfl⟩ rfl hi1 hi2 hS0 (s_stood hS0 (xs (i + 1).toNatClampNeg) (xs (i + 2).toNatClampNeg)) kk
set_option maxRecDepth 100000 in
theorem lwx_days : lz_cv 114 mX11_days 2 := ⟨zq_tg (List.mem_of_getElem? (i := 596) rfl) rfl, zq_tg (List.mem_of_getElem? (i := 1) rfl) rfl, wX11_days, by decide +kernel, zq_tg (List.mem_of_getElem? (i := 597) rfl) rfl, zq_tg (List.mem_of_getElem? (i := 598) rfl) rfl⟩
set_option maxRecDepth 100000 in
theorem lwm_days : lz_cv 117 mX12_days 2 := ⟨zq_tg (List.mem_of_getElem? (i := 927) rfl) rfl, zq_tg (List.mem_of_getElem? (i := 13) rfl) rfl, wX12_days, by decide +kernel, zq_tg (List.mem_of_getElem? (i := 928) rfl) rfl, zq_tg (List.mem_of_getElem? (i := 929) rfl) rfl⟩
set_option maxRecDepth 100000 in
theorem lc_days {l : Launch} {p : Program} {e : Env} {s : State} {m : MethodId} {below : List Frame} {meth : Method} {c : Code} {b L : Nat} {xs : Nat → Int32} {D : va_G} {cy : Nat → ClassId} {i : Int32} {h : zq_H} (C : lz_C p s m meth c b L xs D cy) (hi1 : vp_in (i + 1) L) (hi2 : vp_in (i + 2) L) (hS0 : Sim h) (kk : ∀ h2, Sim h2 → lz_G l p e s m below meth c b D cy i 997 [] h2) : lz_G l p e s m below meth c b D cy i 825 [] h :=
  lz_ci2 (ix := 114) (im := 117) (off := 144) (rx := mX11_days) (rm := mX12_days) C (by decide +kernel) (by decide) lwx_days lwm_days ⟨by decide, by decide⟩ ⟨rfl, rfl⟩ rfl hi1 hi2 hS0 (s_days hS0 (xs (i + 1).toNatClampNeg) (xs (i + 2).toNatClampNeg)) kk
set_option maxRecDepth 100000 in
theorem lwx_together : lz_cv 118 mX11_together 1 := ⟨zq_tg (List.mem_of_getElem? (i := 612) rfl) rfl, zq_tg (List.mem_of_getElem? (i := 1) rfl) rfl, wX11_together, by decide +kernel, zq_tg (List.mem_of_getElem? (i := 613) rfl) rfl, zq_tg (List.mem_of_getElem? (i := 614) rfl) rfl⟩
set_option maxRecDepth 100000 in
theorem lwm_together : lz_cv 121 mX12_together 1 := ⟨zq_tg (List.mem_of_getElem? (i := 931) rfl) rfl, zq_tg (List.mem_of_getElem? (i := 13) rfl) rfl, wX12_together, by decide +kernel, zq_tg (List.mem_of_getElem? (i := 932) rfl) rfl, zq_tg (List.mem_of_getElem? (i := 933) rfl) rfl⟩
set_option maxRecDepth 100000 in
theorem lc_together {l : Launch} {p : Program} {e : Env} {s : State} {m : MethodId} {below : List Frame} {meth : Method} {c : Code} {b L : Nat} {xs : Nat → Int32} {D : va_G} {cy : Nat → ClassId} {i : Int32} {h : zq_H} (C : lz_C p s m meth c b L xs D cy) (hi1 : vp_in (i + 1) L) (hS0 : Sim h) (kk : ∀ h2, Sim h2 → lz_G l p e s m below meth c b D cy i 997 [] h2) : lz_G l p e s m below meth c b D cy i 858 [] h :=
  lz_ci1 (ix := 118) (im := 121) (off := 121) (rx := mX11_together) (rm := mX12_together) C (by decide +kernel) (by decide) lwx_together lwm_together ⟨by decide, by decide⟩ ⟨rfl, rfl⟩ rfl hi1 hS0 (s_together hS0 (xs (i + 1).toNatClampNeg)) kk
set_option maxRecDepth 100000 in
theorem lwx_mark : lz_cv 122 mX11_mark 2 := ⟨zq_tg (List.mem_of_getElem? (i := 616) rfl) rfl, zq_tg (List.mem_of_getElem? (i := 1) rfl) rfl, wX11_mark, by decide +kernel, zq_tg (List.mem_of_getElem? (i := 617) rfl) rfl, zq_tg (List.mem_of_getElem? (i := 618) rfl) rfl⟩
set_option maxRecDepth 100000 in
theorem lwm_mark : lz_cv 125 mX12_mark 2 := ⟨zq_tg (List.mem_of_getElem? (i := 935) rfl) rfl, zq_tg (List.mem_of_getElem? (i := 13) rfl) rfl, wX12_mark, by decide +kernel, zq_tg (List.mem_of_getElem? (i := 936) rfl) rfl, zq_tg (List.mem_of_getElem? (i := 937) rfl) rfl⟩
set_option maxRecDepth 100000 in
theorem lc_mark {l : Launch} {p : Program} {e : Env} {s : State} {m : MethodId} {below : List Frame} {meth : Method} {c : Code} {b L : Nat} {xs : Nat → Int32} {D : va_G} {cy : Nat → ClassId} {i : Int32} {h : zq_H} (C : lz_C p s m meth c b L xs D cy) (hi1 : vp_in (i + 1) L) (hi2 : vp_in (i + 2) L) (hS0 : Sim h) (kk : ∀ h2, Sim h2 → lz_G l p e s m below meth c b D cy i 997 [] h2) : lz_G l p e s m below meth c b D cy i 881 [] h :=
  lz_ci2 (ix := 122) (im := 125) (off := 88) (rx := mX11_mark) (rm := mX12_mark) C (by decide +kernel) (by decide) lwx_mark lwm_mark ⟨by decide, by decide⟩ ⟨rfl, rfl⟩ rfl hi1 hi2 hS0 (s_mark hS0 (xs (i + 1).toNatClampNeg) (xs (i + 2).toNatClampNeg)) kk
set_option maxRecDepth 100000 in
theorem lwx_keep : lz_cv 126 mX11_keep 1 := ⟨zq_tg (List.mem_of_getElem? (i := 664) rfl) rfl, zq_tg (List.mem_of_getElem? (i := 1) rfl) rfl, wX11_keep, by decide +kernel, zq_tg (List.mem_of_getElem? (i := 665) rfl) rfl, zq_tg (List.mem_of_getElem? (i := 666) rfl) rfl⟩
set_option maxRecDepth 100000 in
theorem lwm_keep : lz_cv 129 mX12_keep 1 := ⟨zq_tg (List.mem_of_getElem? (i := 945) rfl) rfl, zq_tg (List.mem_of_getElem? (i := 13) rfl) rfl, wX12_keep, by decide +kernel, zq_tg (List.mem_of_getElem? (i := 946) rfl) rfl, zq_tg (List.mem_of_getElem? (i := 947) rfl) rfl⟩
set_option maxRecDepth 100000 in
theorem lc_keep {l : Launch} {p : Program} {e : Env} {s : State} {m : MethodId} {below : List Frame} {meth : Method} {c : Code} {b L : Nat} {xs : Nat → Int32} {D : va_G} {cy : Nat → ClassId} {i : Int32} {h : zq_H} (C : lz_C p s m meth c b L xs D cy) (hi1 : vp_in (i + 1) L) (hS0 : Sim h) (kk : ∀ h2, Sim h2 → lz_G l p e s m below meth c b D cy i 997 [] h2) : lz_G l p e s m below meth c b D cy i 914 [] h :=
  lz_ci1 (ix := 126) (im := 129) (off := 65) (rx := mX11_keep) (rm := mX12_keep) C (by decide +kernel) (by decide) lwx_keep lwm_keep ⟨by decide, by decide⟩ ⟨rfl, rfl⟩ rfl hi1 hS0 (s_keep hS0 (xs (i + 1).toNatClampNeg)) kk
set_option maxRecDepth 100000 in
theorem lwx_back : lz_cv 130 mX11_back 1 := ⟨zq_tg (List.mem_of_getElem? (i := 672) rfl) rfl, zq_tg (List.mem_of_getElem? (i := 1) rfl) rfl, wX11_back, by decide +kernel, zq_tg (List.mem_of_getElem? (i := 673) rfl) rfl, zq_tg (List.mem_of_getElem? (i := 674) rfl) rfl⟩
set_option maxRecDepth 100000 in
theorem lwm_back : lz_cv 133 mX12_back 1 := ⟨zq_tg (List.mem_of_getElem? (i := 949) rfl) rfl, zq_tg (List.mem_of_getElem? (i := 13) rfl) rfl, wX12_back, by decide +kernel, zq_tg (List.mem_of_getElem? (i := 950) rfl) rfl, zq_tg (List.mem_of_getElem? (i := 951) rfl) rfl⟩
set_option maxRecDepth 100000 in
theorem lc_back {l : Launch} {p : Program} {e : Env} {s : State} {m : MethodId} {below : List Frame} {meth : Method} {c : Code} {b L : Nat} {xs : Nat → Int32} {D : va_G} {cy : Nat → ClassId} {i : Int32} {h : zq_H} (C : lz_C p s m meth c b L xs D cy) (hi1 : vp_in (i + 1) L) (hS0 : Sim h) (kk : ∀ h2, Sim h2 → lz_G l p e s m below meth c b D cy i 997 [] h2) : lz_G l p e s m below meth c b D cy i 937 [] h :=
  lz_ci1 (ix := 130) (im := 133) (off := 42) (rx := mX11_back) (rm := mX12_back) C (by decide +kernel) (by decide) lwx_back lwm_back ⟨by decide, by decide⟩ ⟨rfl, rfl⟩ rfl hi1 hS0 (s_back hS0 (xs (i + 1).toNatClampNeg)) kk
set_option maxRecDepth 100000 in
theorem lwx_count : lz_cv 134 mX11_count 1 := ⟨zq_tg (List.mem_of_getElem? (i := 676) rfl) rfl, zq_tg (List.mem_of_getElem? (i := 1) rfl) rfl, wX11_count, by decide +kernel, zq_tg (List.mem_of_getElem? (i := 677) rfl) rfl, zq_tg (List.mem_of_getElem? (i := 678) rfl) rfl⟩
set_option maxRecDepth 100000 in
theorem lwm_count : lz_cv 137 mX12_count 1 := ⟨zq_tg (List.mem_of_getElem? (i := 953) rfl) rfl, zq_tg (List.mem_of_getElem? (i := 13) rfl) rfl, wX12_count, by decide +kernel, zq_tg (List.mem_of_getElem? (i := 954) rfl) rfl, zq_tg (List.mem_of_getElem? (i := 955) rfl) rfl⟩
set_option maxRecDepth 100000 in
theorem lc_count {l : Launch} {p : Program} {e : Env} {s : State} {m : MethodId} {below : List Frame} {meth : Method} {c : Code} {b L : Nat} {xs : Nat → Int32} {D : va_G} {cy : Nat → ClassId} {i : Int32} {h : zq_H} (C : lz_C p s m meth c b L xs D cy) (hi1 : vp_in (i + 1) L) (hS0 : Sim h) (kk : ∀ h2, Sim h2 → lz_G l p e s m below meth c b D cy i 997 [] h2) : lz_G l p e s m below meth c b D cy i 960 [] h :=
  lz_ci1 (ix := 134) (im := 137) (off := 19) (rx := mX11_count) (rm := mX12_count) C (by decide +kernel) (by decide) lwx_count lwm_count ⟨by decide, by decide⟩ ⟨rfl, rfl⟩ rfl hi1 hS0 (s_count hS0 (xs (i + 1).toNatClampNeg)) kk
set_option maxRecDepth 100000 in
theorem lwx_trace : lz_cv 138 mX11_trace 0 := ⟨zq_tg (List.mem_of_getElem? (i := 680) rfl) rfl, zq_tg (List.mem_of_getElem? (i := 1) rfl) rfl, wX11_trace, by decide +kernel, zq_tg (List.mem_of_getElem? (i := 681) rfl) rfl, zq_tg (List.mem_of_getElem? (i := 682) rfl) rfl⟩
set_option maxRecDepth 100000 in
theorem lwm_trace : lz_cv 142 mX12_trace 0 := ⟨zq_tg (List.mem_of_getElem? (i := 957) rfl) rfl, zq_tg (List.mem_of_getElem? (i := 13) rfl) rfl, wX12_trace, by decide +kernel, zq_tg (List.mem_of_getElem? (i := 958) rfl) rfl, zq_tg (List.mem_of_getElem? (i := 959) rfl) rfl⟩
set_option maxRecDepth 100000 in
theorem lc_trace {l : Launch} {p : Program} {e : Env} {s : State} {m : MethodId} {below : List Frame} {meth : Method} {c : Code} {b L : Nat} {xs : Nat → Int32} {D : va_G} {cy : Nat → ClassId} {i : Int32} {h : zq_H} (C : lz_C p s m meth c b L xs D cy) (hS0 : Sim h) (kk : ∀ h2, Sim h2 → lz_G l p e s m below meth c b D cy i 997 [] h2) : lz_G l p e s m below meth c b D cy i 983 [] h :=
  lz_cj0 (ix := 138) (im := 142) (off := 5) (rx := mX11_trace) (rm := mX12_trace) C (by decide +kernel) (by decide) lwx_trace lwm_trace ⟨by decide, by decide⟩ ⟨rfl, rfl⟩ rfl hS0 (s_trace hS0 ) kk
