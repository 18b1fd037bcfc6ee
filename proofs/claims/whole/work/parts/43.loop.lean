/-! the law round by round -/
set_option maxRecDepth 100000 in
theorem lz_next {l : Launch} {p : Program} {e : Env} {s : State} {m : MethodId} {below : List Frame} {meth : Method} {c : Code} {b L : Nat} {xs : Nat → Int32} {D : va_G} {cy : Nat → ClassId} {h : zq_H} {t : Nat} (C : lz_C p s m meth c b L xs D cy) (ht : 4 * t ≤ 300) (kk : lz_G l p e s m below meth c b D cy (nI (4 * (t + 1))) 18 [] h) : lz_G l p e s m below meth c b D cy (nI (4 * t)) 997 [] h := by
  intro H locs la hP hD hS hl
  refine lv_iinc (v := nI (4 * (t + 1))) (lv' := [(3, .int (nI (4 * (t + 1)))), (0, .ref b), (1, .ref (zk_ad s.heap.size 0)), (2, .ref (zk_ad s.heap.size 41))]) C.1.1 C.1.2 (i := 3) (n := 4) (by decide +kernel) hl (k := 3) rfl ?_ (by decide) rfl (fun ls' hl' => ?_)
  · rw [← zi_nat (z := ((4 * t : Nat) : Int)) rfl, zi_add]
    exact zi_nat (by omega)
  · exact lv_goto (tgt := 18) (off := -982) C.1.1 C.1.2 (by decide +kernel) (by decide) (kk H locs ls' hP hD hS (lv_sub hl' [1, 2, 3, 0] rfl))
set_option maxRecDepth 100000 in
theorem lz_end {l : Launch} {p : Program} {e : Env} {s : State} {m : MethodId} {below : List Frame} {meth : Method} {c : Code} {b L : Nat} {xs : Nat → Int32} {D : va_G} {cy : Nat → ClassId} {i : Int32} {h : zq_H} (C : lz_C p s m meth c b L xs D cy) : lz_G l p e s m below meth c b D cy i 1003 [] h := by
  intro H locs la hP hD hS hl
  refine lv_iconst (v := 1) (n := 1) C.1.1 C.1.2 (by decide +kernel) (by decide) ?_
  exact va_forget hS.2.2 (lw_ret C.1.1 C.1.2 C.2.1.1 C.2.1.2.2 (by decide +kernel))
set_option maxHeartbeats 4000000 in
set_option maxRecDepth 100000 in
theorem lz_loop {l : Launch} {p : Program} {e : Env} {s : State} {m : MethodId} {below : List Frame} {meth : Method} {c : Code} {b L : Nat} {xs : Nat → Int32} {D : va_G} {cy : Nat → ClassId} (C : lz_C p s m meth c b L xs D cy) (hL : L ≤ 256) : ∀ (n t : Nat) (h : zq_H), L < 4 * (t + n) → 4 * t ≤ L + 3 → Sim h → lz_G l p e s m below meth c b D cy (nI (4 * t)) 18 [] h := by
  obtain ⟨⟨x1, x2⟩, -, -, -, ⟨hX, hbl⟩, -, -⟩ := id C
  have hbA : ¬ lz_A s b := Nat.not_le.mpr hbl
  intro n
  induction n with
  | zero =>
    intro t h hn ht hS0 H locs la hP hD hS hl
    refine lv_iload_n x1 x2 (k := 3) (by decide +kernel) rfl (lv_at hl 3 rfl) ?_
    refine lv_aload_n x1 x2 (k := 0) (by decide +kernel) rfl (lv_at hl 0 rfl) ?_
    refine va_slen x1 x2 hX hbl hbA hS (by decide +kernel) ?_
    refine lv_iconst (v := nI 4) (n := 4) x1 x2 (by decide +kernel) (by decide +kernel) ?_
    refine lv_isub x1 x2 (by decide +kernel) ?_
    refine lv_icmp_gt (tgt := 1003) (off := 980) x1 x2 (by decide +kernel) (by decide) (fun _ => lz_end C H locs la hP hD hS hl) (fun q => absurd ?_ q)
    show nI L - nI 4 < nI (4 * t)
    rw [zi_sub, Int32.lt_iff_toInt_lt, zi_toInt (by omega) (by omega), nI_toInt (by omega)]
    omega
  | succ n ih =>
    intro t h hn ht hS0 H locs la hP hD hS hl
    refine lv_iload_n x1 x2 (k := 3) (by decide +kernel) rfl (lv_at hl 3 rfl) ?_
    refine lv_aload_n x1 x2 (k := 0) (by decide +kernel) rfl (lv_at hl 0 rfl) ?_
    refine va_slen x1 x2 hX hbl hbA hS (by decide +kernel) ?_
    refine lv_iconst (v := nI 4) (n := 4) x1 x2 (by decide +kernel) (by decide +kernel) ?_
    refine lv_isub x1 x2 (by decide +kernel) ?_
    refine lv_icmp_gt (tgt := 1003) (off := 980) x1 x2 (by decide +kernel) (by decide) (fun _ => lz_end C H locs la hP hD hS hl) (fun q => ?_)
    have hq : ¬ nI L - nI 4 < nI (4 * t) := q
    rw [zi_sub, Int32.lt_iff_toInt_lt, zi_toInt (by omega) (by omega), nI_toInt (by omega)] at hq
    have h4 : 4 * t + 4 ≤ L := by omega
    have hin : ∀ k : Nat, k < 4 → vp_in (nI (4 * t) + nI k) L := by
      intro k hk
      rw [nI_add]
      exact vp_in_iff.mpr (by rw [nI_toInt (by omega)]; omega)
    have hi0 : vp_in (nI (4 * t)) L := vp_in_iff.mpr (by rw [nI_toInt (by omega)]; omega)
    refine lv_aload_n x1 x2 (k := 0) (by decide +kernel) rfl (lv_at hl 0 rfl) ?_
    refine lv_iload_n x1 x2 (k := 3) (by decide +kernel) rfl (lv_at hl 3 rfl) ?_
    refine va_sld x1 x2 hX hbl hbA hS hi0 (by decide +kernel) ?_
    refine lv_bipush (v := 31) (n := 31) x1 x2 (by decide +kernel) (by decide +kernel) ?_
    refine lv_iand x1 x2 (by decide +kernel) ?_
    refine lv_topi (fun w _ => ?_)
    have dsw : decode code 32 = .ok (.tableswitch 965 0 30 #[140, 163, 176, 189, 222, 255, 278, 311, 334, 367, 400, 413, 426, 459, 482, 515, 528, 551, 584, 627, 660, 683, 727, 760, 793, 826, 849, 882, 905, 928, 951], 140) := by decide +kernel
    by_cases hw : w.toInt < 0 ∨ 30 < w.toInt
    · exact lv_tableOut (tgt := 997) C.1.1 C.1.2 dsw hw (by decide) (lz_next C (by omega) (ih (t + 1) h (by omega) (by omega) hS0) H locs la hP hD hS hl)
    have hj : w.toInt = 0 ∨ w.toInt = 1 ∨ w.toInt = 2 ∨ w.toInt = 3 ∨ w.toInt = 4 ∨ w.toInt = 5 ∨ w.toInt = 6 ∨ w.toInt = 7 ∨ w.toInt = 8 ∨ w.toInt = 9 ∨ w.toInt = 10 ∨ w.toInt = 11 ∨ w.toInt = 12 ∨ w.toInt = 13 ∨ w.toInt = 14 ∨ w.toInt = 15 ∨ w.toInt = 16 ∨ w.toInt = 17 ∨ w.toInt = 18 ∨ w.toInt = 19 ∨ w.toInt = 20 ∨ w.toInt = 21 ∨ w.toInt = 22 ∨ w.toInt = 23 ∨ w.toInt = 24 ∨ w.toInt = 25 ∨ w.toInt = 26 ∨ w.toInt = 27 ∨ w.toInt = 28 ∨ w.toInt = 29 ∨ w.toInt = 30 := by omega
    rcases hj with hj | hj | hj | hj | hj | hj | hj | hj | hj | hj | hj | hj | hj | hj | hj | hj | hj | hj | hj | hj | hj | hj | hj | hj | hj | hj | hj | hj | hj | hj | hj
    · exact lv_tableIn (off := 140) (tgt := 172) C.1.1 C.1.2 dsw (by omega) (by omega) (by rw [hj]; rfl) (by decide) (lc_type C (hin 1 (by omega)) hS0 (fun h2 hS2 => lz_next C (by omega) (ih (t + 1) h2 (by omega) (by omega) hS2)) H locs la hP hD hS hl)
    · exact lv_tableIn (off := 163) (tgt := 195) C.1.1 C.1.2 dsw (by omega) (by omega) (by rw [hj]; rfl) (by decide) (lc_clear C hS0 (fun h2 hS2 => lz_next C (by omega) (ih (t + 1) h2 (by omega) (by omega) hS2)) H locs la hP hD hS hl)
    · exact lv_tableIn (off := 176) (tgt := 208) C.1.1 C.1.2 dsw (by omega) (by omega) (by rw [hj]; rfl) (by decide) (lc_square C hS0 (fun h2 hS2 => lz_next C (by omega) (ih (t + 1) h2 (by omega) (by omega) hS2)) H locs la hP hD hS hl)
    · exact lv_tableIn (off := 189) (tgt := 221) C.1.1 C.1.2 dsw (by omega) (by omega) (by rw [hj]; rfl) (by decide) (lc_person C (hin 1 (by omega)) (hin 2 (by omega)) hS0 (fun h2 hS2 => lz_next C (by omega) (ih (t + 1) h2 (by omega) (by omega) hS2)) H locs la hP hD hS hl)
    · exact lv_tableIn (off := 222) (tgt := 254) C.1.1 C.1.2 dsw (by omega) (by omega) (by rw [hj]; rfl) (by decide) (lc_cell C (hin 1 (by omega)) (hin 2 (by omega)) hS0 (fun h2 hS2 => lz_next C (by omega) (ih (t + 1) h2 (by omega) (by omega) hS2)) H locs la hP hD hS hl)
    · exact lv_tableIn (off := 255) (tgt := 287) C.1.1 C.1.2 dsw (by omega) (by omega) (by rw [hj]; rfl) (by decide) (lc_now C (hin 1 (by omega)) hS0 (fun h2 hS2 => lz_next C (by omega) (ih (t + 1) h2 (by omega) (by omega) hS2)) H locs la hP hD hS hl)
    · exact lv_tableIn (off := 278) (tgt := 310) C.1.1 C.1.2 dsw (by omega) (by omega) (by rw [hj]; rfl) (by decide) (lc_walk C (hin 1 (by omega)) (hin 2 (by omega)) hS0 (fun h2 hS2 => lz_next C (by omega) (ih (t + 1) h2 (by omega) (by omega) hS2)) H locs la hP hD hS hl)
    · exact lv_tableIn (off := 311) (tgt := 343) C.1.1 C.1.2 dsw (by omega) (by omega) (by rw [hj]; rfl) (by decide) (lc_die C (hin 1 (by omega)) hS0 (fun h2 hS2 => lz_next C (by omega) (ih (t + 1) h2 (by omega) (by omega) hS2)) H locs la hP hD hS hl)
    · exact lv_tableIn (off := 334) (tgt := 366) C.1.1 C.1.2 dsw (by omega) (by omega) (by rw [hj]; rfl) (by decide) (lc_smoke C (hin 1 (by omega)) (hin 2 (by omega)) hS0 (fun h2 hS2 => lz_next C (by omega) (ih (t + 1) h2 (by omega) (by omega) hS2)) H locs la hP hD hS hl)
    · exact lv_tableIn (off := 367) (tgt := 399) C.1.1 C.1.2 dsw (by omega) (by omega) (by rw [hj]; rfl) (by decide) (lc_deed C (hin 1 (by omega)) (hin 2 (by omega)) hS0 (fun h2 hS2 => lz_next C (by omega) (ih (t + 1) h2 (by omega) (by omega) hS2)) H locs la hP hD hS hl)
    · exact lv_tableIn (off := 400) (tgt := 432) C.1.1 C.1.2 dsw (by omega) (by omega) (by rw [hj]; rfl) (by decide) (lc_day C hS0 (fun h2 hS2 => lz_next C (by omega) (ih (t + 1) h2 (by omega) (by omega) hS2)) H locs la hP hD hS hl)
    · exact lv_tableIn (off := 413) (tgt := 445) C.1.1 C.1.2 dsw (by omega) (by omega) (by rw [hj]; rfl) (by decide) (lc_undo C hS0 (fun h2 hS2 => lz_next C (by omega) (ih (t + 1) h2 (by omega) (by omega) hS2)) H locs la hP hD hS hl)
    · exact lv_tableIn (off := 426) (tgt := 458) C.1.1 C.1.2 dsw (by omega) (by omega) (by rw [hj]; rfl) (by decide) (lc_done C (hin 1 (by omega)) (hin 2 (by omega)) hS0 (fun h2 hS2 => lz_next C (by omega) (ih (t + 1) h2 (by omega) (by omega) hS2)) H locs la hP hD hS hl)
    · exact lv_tableIn (off := 459) (tgt := 491) C.1.1 C.1.2 dsw (by omega) (by omega) (by rw [hj]; rfl) (by decide) (lc_counts C (hin 1 (by omega)) hS0 (fun h2 hS2 => lz_next C (by omega) (ih (t + 1) h2 (by omega) (by omega) hS2)) H locs la hP hD hS hl)
    · exact lv_tableIn (off := 482) (tgt := 514) C.1.1 C.1.2 dsw (by omega) (by omega) (by rw [hj]; rfl) (by decide) (lc_holder C (hin 1 (by omega)) (hin 2 (by omega)) hS0 (fun h2 hS2 => lz_next C (by omega) (ih (t + 1) h2 (by omega) (by omega) hS2)) H locs la hP hD hS hl)
    · exact lv_tableIn (off := 515) (tgt := 547) C.1.1 C.1.2 dsw (by omega) (by omega) (by rw [hj]; rfl) (by decide) (lc_round C hS0 (fun h2 hS2 => lz_next C (by omega) (ih (t + 1) h2 (by omega) (by omega) hS2)) H locs la hP hD hS hl)
    · exact lv_tableIn (off := 528) (tgt := 560) C.1.1 C.1.2 dsw (by omega) (by omega) (by rw [hj]; rfl) (by decide) (lc_votes C (hin 1 (by omega)) hS0 (fun h2 hS2 => lz_next C (by omega) (ih (t + 1) h2 (by omega) (by omega) hS2)) H locs la hP hD hS hl)
    · exact lv_tableIn (off := 551) (tgt := 583) C.1.1 C.1.2 dsw (by omega) (by omega) (by rw [hj]; rfl) (by decide) (lc_nearer C (hin 1 (by omega)) (hin 2 (by omega)) hS0 (fun h2 hS2 => lz_next C (by omega) (ih (t + 1) h2 (by omega) (by omega) hS2)) H locs la hP hD hS hl)
    · exact lv_tableIn (off := 584) (tgt := 616) C.1.1 C.1.2 dsw (by omega) (by omega) (by rw [hj]; rfl) (by decide) (lc_hide C (hin 1 (by omega)) (hin 2 (by omega)) (hin 3 (by omega)) hS0 (fun h2 hS2 => lz_next C (by omega) (ih (t + 1) h2 (by omega) (by omega) hS2)) H locs la hP hD hS hl)
    · exact lv_tableIn (off := 627) (tgt := 659) C.1.1 C.1.2 dsw (by omega) (by omega) (by rw [hj]; rfl) (by decide) (lc_blocks C (hin 1 (by omega)) (hin 2 (by omega)) hS0 (fun h2 hS2 => lz_next C (by omega) (ih (t + 1) h2 (by omega) (by omega) hS2)) H locs la hP hD hS hl)
    · exact lv_tableIn (off := 660) (tgt := 692) C.1.1 C.1.2 dsw (by omega) (by omega) (by rw [hj]; rfl) (by decide) (lc_hides C (hin 1 (by omega)) hS0 (fun h2 hS2 => lz_next C (by omega) (ih (t + 1) h2 (by omega) (by omega) hS2)) H locs la hP hD hS hl)
    · exact lv_tableIn (off := 683) (tgt := 715) C.1.1 C.1.2 dsw (by omega) (by omega) (by rw [hj]; rfl) (by decide) (lc_odds C (hin 1 (by omega)) (hin 2 (by omega)) (hin 3 (by omega)) hS0 (fun h2 hS2 => lz_next C (by omega) (ih (t + 1) h2 (by omega) (by omega) hS2)) H locs la hP hD hS hl)
    · exact lv_tableIn (off := 727) (tgt := 759) C.1.1 C.1.2 dsw (by omega) (by omega) (by rw [hj]; rfl) (by decide) (lc_often C (hin 1 (by omega)) (hin 2 (by omega)) hS0 (fun h2 hS2 => lz_next C (by omega) (ih (t + 1) h2 (by omega) (by omega) hS2)) H locs la hP hD hS hl)
    · exact lv_tableIn (off := 760) (tgt := 792) C.1.1 C.1.2 dsw (by omega) (by omega) (by rw [hj]; rfl) (by decide) (lc_stood C (hin 1 (by omega)) (hin 2 (by omega)) hS0 (fun h2 hS2 => lz_next C (by omega) (ih (t + 1) h2 (by omega) (by omega) hS2)) H locs la hP hD hS hl)
    · exact lv_tableIn (off := 793) (tgt := 825) C.1.1 C.1.2 dsw (by omega) (by omega) (by rw [hj]; rfl) (by decide) (lc_days C (hin 1 (by omega)) (hin 2 (by omega)) hS0 (fun h2 hS2 => lz_next C (by omega) (ih (t + 1) h2 (by omega) (by omega) hS2)) H locs la hP hD hS hl)
    · exact lv_tableIn (off := 826) (tgt := 858) C.1.1 C.1.2 dsw (by omega) (by omega) (by rw [hj]; rfl) (by decide) (lc_together C (hin 1 (by omega)) hS0 (fun h2 hS2 => lz_next C (by omega) (ih (t + 1) h2 (by omega) (by omega) hS2)) H locs la hP hD hS hl)
    · exact lv_tableIn (off := 849) (tgt := 881) C.1.1 C.1.2 dsw (by omega) (by omega) (by rw [hj]; rfl) (by decide) (lc_mark C (hin 1 (by omega)) (hin 2 (by omega)) hS0 (fun h2 hS2 => lz_next C (by omega) (ih (t + 1) h2 (by omega) (by omega) hS2)) H locs la hP hD hS hl)
    · exact lv_tableIn (off := 882) (tgt := 914) C.1.1 C.1.2 dsw (by omega) (by omega) (by rw [hj]; rfl) (by decide) (lc_keep C (hin 1 (by omega)) hS0 (fun h2 hS2 => lz_next C (by omega) (ih (t + 1) h2 (by omega) (by omega) hS2)) H locs la hP hD hS hl)
    · exact lv_tableIn (off := 905) (tgt := 937) C.1.1 C.1.2 dsw (by omega) (by omega) (by rw [hj]; rfl) (by decide) (lc_back C (hin 1 (by omega)) hS0 (fun h2 hS2 => lz_next C (by omega) (ih (t + 1) h2 (by omega) (by omega) hS2)) H locs la hP hD hS hl)
    · exact lv_tableIn (off := 928) (tgt := 960) C.1.1 C.1.2 dsw (by omega) (by omega) (by rw [hj]; rfl) (by decide) (lc_count C (hin 1 (by omega)) hS0 (fun h2 hS2 => lz_next C (by omega) (ih (t + 1) h2 (by omega) (by omega) hS2)) H locs la hP hD hS hl)
    · exact lv_tableIn (off := 951) (tgt := 983) C.1.1 C.1.2 dsw (by omega) (by omega) (by rw [hj]; rfl) (by decide) (lc_trace C hS0 (fun h2 hS2 => lz_next C (by omega) (ih (t + 1) h2 (by omega) (by omega) hS2)) H locs la hP hD hS hl)
