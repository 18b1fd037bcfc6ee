theorem tr_2 {t a b c : Int64} (h : a + b = c) : (t + a) + b = t + c := by rw [Int64.add_assoc, h]
theorem tr_3 {t a b c d : Int64} (h : a + (b + c) = d) : ((t + a) + b) + c = t + d := by rw [Int64.add_assoc (t + a) b c, Int64.add_assoc t a (b + c), h]
set_option maxHeartbeats 4000000 in
set_option maxRecDepth 100000 in
theorem s_mark {l : Launch} {H : zq_H} (hS : Sim H) (x y : Int32) : Opx l mX11_mark mX12_mark [.int x, .int y] H := by
  obtain ⟨Z, P, C, R, L, D, N, K, tx, tx', hs, ss, cs, gs, vs, td, dr, rd, sm, ce, de, ke, se, s, i0, i1, kp, kp', im, dd, tr, tr', dr', at_, so, sr, va, wy, rfl, hSR⟩ := hS
  have hSim := hSR
  obtain ⟨hTx, ⟨⟨ht0, ht1, ht2, ht3⟩, ⟨hP, hC, hR, hL⟩, hhs, hcs, ga, gv, hg⟩, hRS, hI0, hI1, htr⟩ := hSR
  have hTd := hSim.2.1
  have hRS' := hRS
  obtain ⟨hK, hs168, hNw, hHi⟩ := hRS
  have hNw' := hNw
  obtain ⟨⟨hs0, hs1, hs2⟩, ⟨hD, hN, hsm⟩, hcel, hde, hke, hwho⟩ := hNw
  obtain ⟨cn, hce, hceM⟩ := NwR_cn hNw'
  have hru : ∀ j, j < R → td (26 + j) = nI (10 * ga j + gv j) ∧ ga j ≤ 7 ∧ gv j ≤ 7 := fun j hj => ⟨(hg j hj).2.2.1, (hg j hj).2.2.2.1, (hg j hj).2.2.2.2⟩
  have hgv : ∀ j, j < R → gs j = nI (ga j) ∧ vs j = nI (gv j) ∧ ga j ≤ 7 ∧ gv j ≤ 7 := fun j hj => ⟨(hg j hj).1, (hg j hj).2.1, (hg j hj).2.2.2.1, (hg j hj).2.2.2.2⟩
  by_cases hb : 0 ≤ x.toInt ∧ x.toInt ≤ 5 ∧ 0 ≤ y.toInt ∧ y.toInt < (N : Int)
  · obtain ⟨g1, g2, g3, g4⟩ := hb
    obtain ⟨q, eq, iq⟩ := toN (x := x) (g1)
    subst eq
    obtain ⟨Q, eQ, iQ⟩ := toN (x := y) (g3)
    subst eQ
    have hQ2 : Q < N := by omega
    obtain ⟨wq, w1, w2⟩ := hwho Q hQ2
    have kq : q = 0 ∨ q = 1 ∨ q = 2 ∨ q = 3 ∨ q = 4 ∨ q = 5 := by omega
    rcases kq with rfl | rfl | rfl | rfl | rfl | rfl
    · refine opx (x_mark_0 hQ2 hN) (m_mark_0 ht1 hs2 hN hQ2 ((hde _ (by omega)).symm.trans w2) (by omega)) (congrArg Value.int (hde (Q * 5 + 2) (by omega))) (by decide) (by decide) ?_
      exact (sim_mk ⟨hTx, hTd, hRS', hI0, hI1, by rw [htr]⟩)
    · refine opx (x_mark_1 hQ2 hN w2 (by omega)) (m_mark_1 ht1 hs2 hN hQ2 ((hde _ (by omega)).symm.trans w2) (by omega)) (congrArg Value.int (by rw [hde (Q * 5 + 2) (by omega), hhs wq w1])) (by decide) (by decide) ?_
      exact (sim_mk ⟨hTx, hTd, hRS', hI0, hI1, by rw [htr]; exact tr_2 (by decide)⟩)
    · refine opx (x_mark_2 hQ2 hN) (m_mark_2 ht1 hs2 hN hQ2 ((hde _ (by omega)).symm.trans w2) (by omega)) (congrArg Value.int (by rw [hde (Q * 5 + 2) (by omega), hde (Q * 5 + 3) (by omega)])) (by decide) (by decide) ?_
      exact (sim_mk ⟨hTx, hTd, hRS', hI0, hI1, by rw [htr]; exact tr_2 (by decide)⟩)
    · refine opx (x_mark_3 hQ2 hN w2 (by omega)) (m_mark_3 ht1 hs2 hN hQ2 ((hde _ (by omega)).symm.trans w2) (by omega)) (congrArg Value.int (by rw [hde (Q * 5 + 2) (by omega), hhs wq w1, Int32.mul_comm])) (by decide) (by decide) ?_
      exact (sim_mk ⟨hTx, hTd, hRS', hI0, hI1, by rw [htr]; exact tr_3 (by decide)⟩)
    · refine opx (x_mark_4 hQ2 hN) (m_mark_4 ht1 hs2 hN hQ2 ((hde _ (by omega)).symm.trans w2) (by omega)) (congrArg Value.int (by rw [hde (Q * 5 + 2) (by omega), hde (Q * 5 + 3) (by omega)])) (by decide) (by decide) ?_
      exact (sim_mk ⟨hTx, hTd, hRS', hI0, hI1, by rw [htr]; exact tr_3 (by decide)⟩)
    · refine opx (x_mark_5 hQ2 hN) (m_mark_5 ht1 hs2 hN hQ2 ((hde _ (by omega)).symm.trans w2) (by omega)) (congrArg Value.int (by rw [hde (Q * 5 + 2) (by omega), hde (Q * 5 + 1) (by omega), zct_c (fun i hi => by rw [hde (i * 5 + 1) (by omega)])])) (by decide) (by decide) ?_
      exact (sim_mk ⟨hTx, hTd, hRS', hI0, hI1, by rw [htr]; exact tr_2 (by decide)⟩)
  · exact opx (x_mark_bad hN hb) (m_mark_bad hs2 hN hb) rfl (by decide) (by decide) (sim_mk hSim)
