/-! the class reads what the plain function reads -/
section XV9
variable {l : Launch} {tx : Nat → Int32} {n : Int32} {t dr : zT} {rd : zR} {w i0 i1 : zN} {kp : Nat → Int32} {dd : Int32} {tr : Int64} {m : Nat → zq_C}
variable {Z : Nat} {bt : Nat → Nat}
theorem zb_1 {P : Prop} [Decidable P] (h : P) : zb P = 1 := (zb_t h).symm
theorem zb_0 {P : Prop} [Decidable P] (h : ¬ P) : zb P = 0 := (zb_f h).symm
theorem zany_nI {F : Nat → Int32} {f : Nat → Nat} {N x : Nat} (h : ∀ j, j < N → F j = nI (f j)) (hf : ∀ j, j < N → f j < 2147483648) (hx : x < 2147483648) : zany (fun i => decide (F i = nI x)) N = zany (fun i => decide (f i = x)) N := by
  apply zany_c
  intro i hi
  show decide (F i = nI x) = decide (f i = x)
  rw [h i hi]
  exact decide_eq_decide.mpr (nI_eq (hf i hi) hx)
set_option maxHeartbeats 4000000 in
theorem x_item {D : zD} {s0 v a : Nat} (hD : DOk D) (hr : DRel dr D) (hZ : Z ≤ 200) (hbt : ∀ j, j < Z → tx j = nI (bt j) ∧ bt j ≤ 255) (ha : a ≤ Z) (hv : v ≤ 255) :
    (∃ s, pItem bt Z s0 v a D = .inl s ∧ ∃ dr2 rd2, rd2.2.2.2.1 = nI s ∧ zq_P l mX8_readItem 5 [.ref 14] (XH tx n t dr (nI Z, nI a, zl D.2.2.2.2.1, nI s0, 1, nI v) w i0 i1 kp dd tr m) (some (.int 0)) (XH tx n t dr2 rd2 w i0 i1 kp dd tr m)) ∨
    (∃ a2 D2, pItem bt Z s0 v a D = .inr (a2, D2) ∧ ∃ dr2 x y z, DRel dr2 D2 ∧ zq_P l mX8_readItem 5 [.ref 14] (XH tx n t dr (nI Z, nI a, zl D.2.2.2.2.1, nI s0, 1, nI v) w i0 i1 kp dd tr m) (some (.int 1)) (XH tx n t dr2 (nI Z, nI a2, zl D2.2.2.2.2.1, x, y, z) w i0 i1 kp dd tr m)) := by
  obtain ⟨P, C, R, L, lt, hs, ss, cs, ga, va⟩ := D
  obtain ⟨d1, d2, d3, d4, hsF, ssF, csF, gsF, vsF⟩ := dr
  obtain ⟨⟨e1, e2, e3, e4⟩, r1, r2, r3⟩ := hr
  dsimp only at e1 e2 e3 e4 r1 r2 r3
  subst e1 e2 e3 e4
  obtain ⟨g1, g2, g3, g4, g5, g6, g7⟩ := hD
  dsimp only at g1 g2 g3 g4 g5 g6 g7
  show (∃ s, pItem bt Z s0 v a (P, C, R, L, lt, hs, ss, cs, ga, va) = .inl s ∧ _) ∨ _
  by_cases v1 : v = 112
  · subst v1
    have eq : pItem bt Z s0 112 a (P, C, R, L, lt, hs, ss, cs, ga, va) = pPerson bt Z s0 a (P, C, R, L, lt, hs, ss, cs, ga, va) := by unfold pItem; rw [if_pos rfl]
    rw [eq]; unfold pPerson; dsimp only
    by_cases h6 : P = 6
    · rw [if_pos h6]
      exact Or.inl ⟨_, rfl, _, _, rfl, ri_p (Or.inl rfl) (rp_full hZ hbt ha h6)⟩
    · rw [if_neg h6]
      by_cases n1 : tkK bt Z a = 2 ∧ 1 ≤ tkV bt Z a ∧ tkV bt Z a ≤ 9
      · rw [if_neg (fun q => q n1)]
        by_cases n2 : tkK bt Z (tkE bt Z a) = 2 ∧ 0 ≤ tkV bt Z (tkE bt Z a) ∧ tkV bt Z (tkE bt Z a) ≤ 25
        · rw [if_neg (fun q => q n2)]
          have hM := rp_go (l := l) (tx := tx) (n := n) (t := t) (w := w) (i0 := i0) (i1 := i1) (kp := kp) (dd := dd) (tr := tr) (m := m) (lt := zl lt) (rs := nI s0) (rt := 1) (rv := 112) (C := C) (R := R) (L := L) (hs := hsF) (ss := ssF) (cs := csF) (gs := gsF) (vs := vsF) hZ hbt ha (show P < 6 by omega) n1.1 n1.2.1 n1.2.2 n2.1 n2.2.1 n2.2.2
          by_cases n3 : tkK bt Z (tkE bt Z (tkE bt Z a)) = 3
          · rw [if_pos n3]; rw [zb_1 n3] at hM
            refine Or.inr ⟨_, _, rfl, _, _, _, _, ⟨⟨rfl, rfl, rfl, rfl⟩, ?_, r2, r3⟩, ri_p (Or.inr rfl) hM⟩
            intro j hj
            exact ⟨upd_rel (fun j hj => (r1 j hj).1) j hj, upd_rel (fun j hj => (r1 j hj).2) j hj⟩
          · rw [if_neg n3]; rw [zb_0 n3] at hM
            exact Or.inl ⟨_, rfl, _, _, rfl, ri_p (Or.inl rfl) hM⟩
        · rw [if_pos n2]
          exact Or.inl ⟨_, rfl, _, _, rfl, ri_p (Or.inl rfl) (rp_n2 hZ hbt ha (show P < 6 by omega) n1.1 n1.2.1 n1.2.2 n2)⟩
      · rw [if_pos n1]
        exact Or.inl ⟨_, rfl, _, _, rfl, ri_p (Or.inl rfl) (rp_n1 hZ hbt ha (show P < 6 by omega) n1)⟩
  · by_cases v2 : v = 108
    · subst v2
      have eq : pItem bt Z s0 108 a (P, C, R, L, lt, hs, ss, cs, ga, va) = pLate bt Z s0 a (P, C, R, L, lt, hs, ss, cs, ga, va) := by unfold pItem; rw [if_neg (by decide), if_pos rfl]
      rw [eq]; unfold pLate; dsimp only
      cases lt with
      | true =>
        rw [if_pos rfl]
        exact Or.inl ⟨_, rfl, _, _, rfl, ri_l (Or.inl rfl) (rl_told hZ hbt ha)⟩
      | false =>
        rw [if_neg Bool.false_ne_true]
        by_cases n1 : tkK bt Z a = 2 ∧ 1 ≤ tkV bt Z a ∧ tkV bt Z a ≤ 30
        · rw [if_neg (fun q => q n1)]
          have hM := rl_go (l := l) (tx := tx) (n := n) (t := t) (w := w) (i0 := i0) (i1 := i1) (kp := kp) (dd := dd) (tr := tr) (m := m) (rs := nI s0) (rt := 1) (rv := 108) (P := P) (C := C) (R := R) (L := L) (hs := hsF) (ss := ssF) (cs := csF) (gs := gsF) (vs := vsF) hZ hbt ha n1.1 n1.2.1 n1.2.2
          by_cases n3 : tkK bt Z (tkE bt Z a) = 3
          · rw [if_pos n3]; rw [zb_1 n3] at hM
            exact Or.inr ⟨_, _, rfl, _, _, _, _, ⟨⟨rfl, rfl, rfl, rfl⟩, r1, r2, r3⟩, ri_l (Or.inr rfl) hM⟩
          · rw [if_neg n3]; rw [zb_0 n3] at hM
            exact Or.inl ⟨_, rfl, _, _, rfl, ri_l (Or.inl rfl) hM⟩
        · rw [if_pos n1]
          exact Or.inl ⟨_, rfl, _, _, rfl, ri_l (Or.inl rfl) (rl_n hZ hbt ha n1)⟩
    · by_cases v3 : v = 99
      · subst v3
        have eq : pItem bt Z s0 99 a (P, C, R, L, lt, hs, ss, cs, ga, va) = pCloud bt Z s0 a (P, C, R, L, lt, hs, ss, cs, ga, va) := by unfold pItem; rw [if_neg (by decide), if_neg (by decide), if_pos rfl]
        rw [eq]; unfold pCloud; dsimp only
        by_cases h6 : C = 8
        · rw [if_pos h6]
          exact Or.inl ⟨_, rfl, _, _, rfl, ri_c (Or.inl rfl) (rc_full hZ hbt ha h6)⟩
        · rw [if_neg h6]
          by_cases n1 : tkK bt Z a = 2 ∧ 0 ≤ tkV bt Z a ∧ tkV bt Z a ≤ 99
          · rw [if_neg (fun q => q n1)]
            have hz := zany_nI (x := tkV bt Z a) r2 (fun j hj => by have := g6 j hj; omega) (by omega)
            by_cases n2 : zany (fun i => decide (cs i = tkV bt Z a)) C = true
            · rw [if_pos n2]
              exact Or.inl ⟨_, rfl, _, _, rfl, ri_c (Or.inl rfl) (rc_dup hZ hbt ha (show C < 8 by omega) n1.1 n1.2.1 n1.2.2 (hz.trans n2))⟩
            · rw [if_neg n2]
              have hM := rc_go (l := l) (tx := tx) (n := n) (t := t) (w := w) (i0 := i0) (i1 := i1) (kp := kp) (dd := dd) (tr := tr) (m := m) (lt := zl lt) (rs := nI s0) (rt := 1) (rv := 99) (P := P) (R := R) (L := L) (hs := hsF) (ss := ssF) (cs := csF) (gs := gsF) (vs := vsF) hZ hbt ha (show C < 8 by omega) n1.1 n1.2.1 n1.2.2 (fun q => n2 (hz.symm.trans q))
              by_cases n3 : tkK bt Z (tkE bt Z a) = 3
              · rw [if_pos n3]; rw [zb_1 n3] at hM
                exact Or.inr ⟨_, _, rfl, _, _, _, _, ⟨⟨rfl, rfl, rfl, rfl⟩, r1, upd_rel r2, r3⟩, ri_c (Or.inr rfl) hM⟩
              · rw [if_neg n3]; rw [zb_0 n3] at hM
                exact Or.inl ⟨_, rfl, _, _, rfl, ri_c (Or.inl rfl) hM⟩
          · rw [if_pos n1]
            exact Or.inl ⟨_, rfl, _, _, rfl, ri_c (Or.inl rfl) (rc_n hZ hbt ha (show C < 8 by omega) n1)⟩
      · by_cases v4 : v = 114
        · subst v4
          have eq : pItem bt Z s0 114 a (P, C, R, L, lt, hs, ss, cs, ga, va) = pRule bt Z s0 a (P, C, R, L, lt, hs, ss, cs, ga, va) := by unfold pItem; rw [if_neg (by decide), if_neg (by decide), if_neg (by decide), if_pos rfl]
          rw [eq]; unfold pRule; dsimp only
          by_cases h6 : R = 6
          · rw [if_pos h6]
            exact Or.inl ⟨_, rfl, _, _, rfl, ri_r (Or.inl rfl) (rr_full hZ hbt ha h6)⟩
          · rw [if_neg h6]
            by_cases n1 : tkK bt Z a = 2 ∧ 0 ≤ tkV bt Z a ∧ tkV bt Z a ≤ 7
            · rw [if_neg (fun q => q n1)]
              by_cases n2 : tkK bt Z (tkE bt Z a) = 2 ∧ 0 ≤ tkV bt Z (tkE bt Z a) ∧ tkV bt Z (tkE bt Z a) ≤ 7
              · rw [if_neg (fun q => q n2)]
                by_cases n4 : tkV bt Z (tkE bt Z a) = tkV bt Z a
                · rw [if_pos n4]
                  exact Or.inl ⟨_, rfl, _, _, rfl, ri_r (Or.inl rfl) (rr_eq hZ hbt ha (show R < 6 by omega) n1.1 n1.2.1 n1.2.2 n2.1 n2.2.1 n2.2.2 n4)⟩
                · rw [if_neg n4]
                  have hM := rr_go (l := l) (tx := tx) (n := n) (t := t) (w := w) (i0 := i0) (i1 := i1) (kp := kp) (dd := dd) (tr := tr) (m := m) (lt := zl lt) (rs := nI s0) (rt := 1) (rv := 114) (P := P) (C := C) (L := L) (hs := hsF) (ss := ssF) (cs := csF) (gs := gsF) (vs := vsF) hZ hbt ha (show R < 6 by omega) n1.1 n1.2.1 n1.2.2 n2.1 n2.2.1 n2.2.2 n4
                  by_cases n3 : tkK bt Z (tkE bt Z (tkE bt Z a)) = 3
                  · rw [if_pos n3]; rw [zb_1 n3] at hM
                    refine Or.inr ⟨_, _, rfl, _, _, _, _, ⟨⟨rfl, rfl, rfl, rfl⟩, r1, r2, ?_⟩, ri_r (Or.inr rfl) hM⟩
                    intro j hj
                    exact ⟨upd_rel (fun j hj => (r3 j hj).1) j hj, upd_rel (fun j hj => (r3 j hj).2) j hj⟩
                  · rw [if_neg n3]; rw [zb_0 n3] at hM
                    exact Or.inl ⟨_, rfl, _, _, rfl, ri_r (Or.inl rfl) hM⟩
              · rw [if_pos n2]
                exact Or.inl ⟨_, rfl, _, _, rfl, ri_r (Or.inl rfl) (rr_n2 hZ hbt ha (show R < 6 by omega) n1.1 n1.2.1 n1.2.2 n2)⟩
            · rw [if_pos n1]
              exact Or.inl ⟨_, rfl, _, _, rfl, ri_r (Or.inl rfl) (rr_n1 hZ hbt ha (show R < 6 by omega) n1)⟩
        · have eq : pItem bt Z s0 v a (P, C, R, L, lt, hs, ss, cs, ga, va) = .inl s0 := by unfold pItem; rw [if_neg v1, if_neg v2, if_neg v3, if_neg v4]
          rw [eq]
          exact Or.inl ⟨_, rfl, _, _, rfl, ri_other hv v1 v2 v3 v4⟩
set_option maxHeartbeats 4000000 in
theorem x_loop (hZ : Z ≤ 200) (hbt : ∀ j, j < Z → tx j = nI (bt j) ∧ bt j ≤ 255) : ∀ (f k a : Nat) (D : zD) (dr : zT) (x y z : Int32), k + f = 201 → k ≤ a → a ≤ Z → DOk D → DRel dr D →
    (∃ s, s ≤ Z ∧ pAll bt Z f k a D = .inl s ∧ ∃ dr2 rd2, zq_G l mX8_readAll 6 (some (.int (zi (-10 - (s : Int))))) (XH tx n t dr2 rd2 w i0 i1 kp dd tr m) 34 ([(0, .ref 14), (1, .int (nI Z)), (2, .int (nI k)), (3, .int (nI k))], [], XH tx n t dr (nI Z, nI a, zl D.2.2.2.2.1, x, y, z) w i0 i1 kp dd tr m)) ∨
    (∃ k2 D2, k2 ≤ 200 ∧ pAll bt Z f k a D = .inr (k2, D2) ∧ DOk D2 ∧ ∃ dr2 rd2, DRel dr2 D2 ∧ zq_G l mX8_readAll 6 (some (.int (nI k2))) (XH tx n t dr2 rd2 w i0 i1 kp dd tr m) 34 ([(0, .ref 14), (1, .int (nI Z)), (2, .int (nI k)), (3, .int (nI k))], [], XH tx n t dr (nI Z, nI a, zl D.2.2.2.2.1, x, y, z) w i0 i1 kp dd tr m)) := by
  intro f
  induction f with
  | zero => intro k a D dr x y z h1 h2 h3; omega
  | succ f ih =>
    intro k a D dr x y z h1 h2 h3 hD hr
    have hE := tkE_max (bt := bt) h3
    have hS := tkS_max (bt := bt) h3
    by_cases k0 : tkK bt Z a = 0
    · refine Or.inr ⟨k, D, by omega, by rw [pAll, if_pos k0], hD, dr, _, hr, ra_end hZ hbt h3 (by omega) k0⟩
    · by_cases k1 : tkK bt Z a = 1
      · have hv : tkV bt Z a ≤ 255 := tkV_le (fun j hj => (hbt j hj).2) k0
        have eq : pAll bt Z (f + 1) k a D = (match pItem bt Z (tkS bt Z a) (tkV bt Z a) (tkE bt Z a) D with | .inl s => .inl s | .inr (a', D') => pAll bt Z f (k + 1) a' D') := by rw [pAll, if_neg k0, if_pos k1]; rfl
        rw [eq]
        rcases x_item (l := l) (n := n) (t := t) (w := w) (i0 := i0) (i1 := i1) (kp := kp) (dd := dd) (tr := tr) (m := m) (s0 := tkS bt Z a) (v := tkV bt Z a) hD hr hZ hbt hE hv with ⟨s, e1, dr2, rd2, e2, hM⟩ | ⟨a2, D2, e1, dr2, x2, y2, z2, hr2, hM⟩
        · rw [e1]
          have hs : s ≤ Z := by
            have hm : ∀ q, q ≤ Z → tkS bt Z q ≤ Z := fun q hq => tkS_max hq
            have m2 := tkE_max (bt := bt) hE
            have m3 := tkE_max (bt := bt) m2
            obtain ⟨P, C, R, L, lt, hs, ss, cs, ga, va⟩ := D
            unfold pItem at e1
            split at e1
            · unfold pPerson at e1; dsimp only at e1
              repeat' (split at e1)
              all_goals first | (cases e1; first | exact hS | exact hm _ hE | exact hm _ m2 | exact hm _ m3) | (cases e1)
            · split at e1
              · unfold pLate at e1; dsimp only at e1
                repeat' (split at e1)
                all_goals first | (cases e1; first | exact hS | exact hm _ hE | exact hm _ m2 | exact hm _ m3) | (cases e1)
              · split at e1
                · unfold pCloud at e1; dsimp only at e1
                  repeat' (split at e1)
                  all_goals first | (cases e1; first | exact hS | exact hm _ hE | exact hm _ m2 | exact hm _ m3) | (cases e1)
                · split at e1
                  · unfold pRule at e1; dsimp only at e1
                    repeat' (split at e1)
                    all_goals first | (cases e1; first | exact hS | exact hm _ hE | exact hm _ m2 | exact hm _ m3) | (cases e1)
                  · cases e1; exact hS
          refine Or.inl ⟨s, hs, rfl, dr2, rd2, ra_bad hZ hbt h3 (by omega) k0 e2 ?_⟩
          rw [k1, nxV_1 _ k1]
          exact hM
        · rw [e1]
          obtain ⟨hD2, g1, g2⟩ := pItem_ok hD hE e1
          have gS := tkS_le bt Z a
          have gE := tkE_lt k0
          have hM2 : zq_P l mX8_readItem 5 [.ref 14] (XH tx n t dr (nI Z, nI (tkE bt Z a), zl D.2.2.2.2.1, nI (tkS bt Z a), nI (tkK bt Z a), nxV bt Z z a) w i0 i1 kp dd tr m) (some (.int 1)) (XH tx n t dr2 (nI Z, nI a2, zl D2.2.2.2.2.1, x2, y2, z2) w i0 i1 kp dd tr m) := by
            rw [k1, nxV_1 _ k1]; exact hM
          rcases ih (k + 1) a2 D2 dr2 x2 y2 z2 (by omega) (by omega) g2 hD2 hr2 with ⟨s, q1, q2, dr3, rd3, hG⟩ | ⟨k2, D3, q1, q2, q3, dr3, rd3, q4, hG⟩
          · exact Or.inl ⟨s, q1, q2, dr3, rd3, ra_go hZ hbt h3 (by omega) k0 hM2 hG⟩
          · exact Or.inr ⟨k2, D3, q1, q2, q3, dr3, rd3, q4, ra_go hZ hbt h3 (by omega) k0 hM2 hG⟩
      · refine Or.inl ⟨tkS bt Z a, hS, by rw [pAll, if_neg k0, if_neg k1], dr, (nI Z, nI (tkE bt Z a), zl D.2.2.2.2.1, nI (tkS bt Z a), nI (tkK bt Z a), nxV bt Z z a), ra_bad (s := tkS bt Z a) hZ hbt h3 (by omega) k0 rfl ?_⟩
        obtain ⟨d1, d2, d3, d4, hsF, ssF, csF, gsF, vsF⟩ := dr
        obtain ⟨⟨e1, e2, e3, e4⟩, -, -, -⟩ := hr
        dsimp only at e1 e2 e3 e4
        subst e1 e2 e3 e4
        exact ri_tok k1 (tkK_le bt Z a)
def D00 : zD := (0, 0, 0, 12, false, fun _ => 0, fun _ => 0, fun _ => 0, fun _ => 0, fun _ => 0)
theorem D00_ok : DOk D00 := ⟨by decide, by decide, by decide, by decide, fun j h => absurd h (by decide +revert), fun j h => absurd h (by decide +revert), fun j h => absurd h (by decide +revert)⟩
theorem D00_rel (f1 f2 f3 f4 f5 : Nat → Int32) : DRel (0, 0, 0, 12, f1, f2, f3, f4, f5) D00 := ⟨⟨rfl, rfl, rfl, rfl⟩, fun j h => absurd h (Nat.not_lt_zero j), fun j h => absurd h (Nat.not_lt_zero j), fun j h => absurd h (Nat.not_lt_zero j)⟩
set_option maxHeartbeats 4000000 in
theorem x_square (hZ : Z ≤ 200) (hbt : ∀ j, j < Z → tx j = nI (bt j) ∧ bt j ≤ 255) :
    (∃ s, s ≤ Z ∧ pAll bt Z 201 0 0 D00 = .inl s ∧ ∃ dr2 rd2, zq_P l mX11_square 7 [.ref 0] (XH tx (nI Z) t dr rd w i0 i1 kp dd tr m) (some (.int (zi (-10 - (s : Int))))) (XH tx (nI Z) t dr2 rd2 w i0 i1 kp dd tr m)) ∨
    (∃ k D, k ≤ 200 ∧ pAll bt Z 201 0 0 D00 = .inr (k, D) ∧ DOk D ∧ ∃ dr2 rd2, DRel dr2 D ∧ zq_P l mX11_square 7 [.ref 0] (XH tx (nI Z) t dr rd w i0 i1 kp dd tr m) (some (.int (nI k)))
      (XH tx 0 (dr2.1, dr2.2.1, dr2.2.2.1, dr2.2.2.2.1, va_cpy dr2.2.2.2.2.1 t.2.2.2.2.1 0 0 6, va_cpy dr2.2.2.2.2.2.1 t.2.2.2.2.2.1 0 0 6, va_cpy dr2.2.2.2.2.2.2.1 t.2.2.2.2.2.2.1 0 0 8, va_cpy dr2.2.2.2.2.2.2.2.1 t.2.2.2.2.2.2.2.1 0 0 6, va_cpy dr2.2.2.2.2.2.2.2.2 t.2.2.2.2.2.2.2.2 0 0 6) dr2 rd2
        (0, 0, 0, 0, va_cpy (va_cpy dr2.2.2.2.2.2.1 t.2.2.2.2.2.1 0 0 6) w.2.2.2.2.1 0 0 6, w.2.2.2.2.2.1, w.2.2.2.2.2.2.1, w.2.2.2.2.2.2.2) i0 i1 (upd (upd kp 0 0) 1 0) dd tr m)) := by
  rcases x_loop (l := l) (n := nI Z) (t := t) (w := w) (i0 := i0) (i1 := i1) (kp := kp) (dd := dd) (tr := tr) (m := m) hZ hbt 201 0 0 D00 (0, 0, 0, 12, dr.2.2.2.2.1, dr.2.2.2.2.2.1, dr.2.2.2.2.2.2.1, dr.2.2.2.2.2.2.2.1, dr.2.2.2.2.2.2.2.2) rd.2.2.2.1 rd.2.2.2.2.1 rd.2.2.2.2.2 rfl (Nat.le_refl 0) (Nat.zero_le Z) D00_ok (D00_rel _ _ _ _ _) with ⟨s, q1, q2, dr2, rd2, hG⟩ | ⟨k, D, q1, q2, q3, dr2, rd2, q4, hG⟩
  · exact Or.inl ⟨s, q1, q2, dr2, rd2, sq_bad (by omega) (ra_start hZ hG)⟩
  · exact Or.inr ⟨k, D, q1, q2, q3, dr2, rd2, q4, sq_go q1 (ra_start hZ hG)⟩
end XV9
