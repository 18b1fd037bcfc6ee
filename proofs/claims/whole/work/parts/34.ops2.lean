set_option maxHeartbeats 4000000 in
set_option maxRecDepth 100000 in
theorem s_type {l : Launch} {H : zq_H} (hS : Sim H) (x : Int32) : Opx l mX11_type mX12_type [.int x] H := by
  obtain ⟨Z, P, C, R, L, D, N, K, tx, tx', hs, ss, cs, gs, vs, td, dr, rd, sm, ce, de, ke, se, s, i0, i1, kp, kp', im, dd, tr, tr', dr', at_, so, sr, va, wy, rfl, hSR⟩ := hS
  have hSim := hSR
  obtain ⟨hTx, ⟨⟨ht0, ht1, ht2, ht3⟩, ⟨hP, hC, hR, hL⟩, hhs, hcs, ga, gv, hg⟩, hRS, hI0, hI1, htr⟩ := hSR
  have hTd := hSim.2.1
  have hRS' := hRS
  obtain ⟨hK, hs168, hNw, hHi⟩ := hRS
  have hNw' := hNw
  obtain ⟨⟨hs0, hs1, hs2⟩, ⟨hD, hN, hsm⟩, hcel, hde, hke, hwho⟩ := hNw
  obtain ⟨cn, hce, hceM⟩ := NwR_cn hNw'
  have hru : ∀ j, j < R → td (26 + j) = nI (10 * ga j + gv j) ∧ ga j ≤ 7 ∧ gv j ≤ 7 := fun j hj => ⟨(hg j hj).2.2.1, (hg j hj).2.2.2.1, (hg j hj).2.2.2.2⟩
  have hgv : ∀ j, j < R → gs j = nI (ga j) ∧ vs j = nI (gv j) ∧ ga j ≤ 7 ∧ gv j ≤ 7 := fun j hj => ⟨(hg j hj).1, (hg j hj).2.1, (hg j hj).2.2.2.1, (hg j hj).2.2.2.2⟩
  by_cases hb : x.toInt < 0 ∨ 255 < x.toInt
  · exact opx (x_type_bad hb) (m_type_bad hb) rfl (by decide) (by decide) (sim_mk hSim)
  · obtain ⟨a, ea, ia⟩ := toN (x := x) (by omega)
    subst ea
    have ha : a ≤ 255 := by omega
    have hZ0 := hTx.1
    by_cases hZ : Z = 200
    · exact opx (x_type_full ha hZ) (m_type_full ha hZ) rfl (by decide) (by decide) (sim_mk hSim)
    · have hZ : Z < 200 := by omega
      exact opx (x_type ha hZ) (m_type ha hZ) rfl (by decide) (by decide) (sim_mk ⟨tx_add hTx ha hZ, hTd, hRS', hI0, hI1, htr⟩)
set_option maxHeartbeats 4000000 in
set_option maxRecDepth 100000 in
theorem s_clear {l : Launch} {H : zq_H} (hS : Sim H) : Opx l mX11_clear mX12_clear [] H := by
  obtain ⟨Z, P, C, R, L, D, N, K, tx, tx', hs, ss, cs, gs, vs, td, dr, rd, sm, ce, de, ke, se, s, i0, i1, kp, kp', im, dd, tr, tr', dr', at_, so, sr, va, wy, rfl, hSR⟩ := hS
  have hSim := hSR
  obtain ⟨hTx, ⟨⟨ht0, ht1, ht2, ht3⟩, ⟨hP, hC, hR, hL⟩, hhs, hcs, ga, gv, hg⟩, hRS, hI0, hI1, htr⟩ := hSR
  have hTd := hSim.2.1
  have hRS' := hRS
  obtain ⟨hK, hs168, hNw, hHi⟩ := hRS
  have hNw' := hNw
  obtain ⟨⟨hs0, hs1, hs2⟩, ⟨hD, hN, hsm⟩, hcel, hde, hke, hwho⟩ := hNw
  obtain ⟨cn, hce, hceM⟩ := NwR_cn hNw'
  have hru : ∀ j, j < R → td (26 + j) = nI (10 * ga j + gv j) ∧ ga j ≤ 7 ∧ gv j ≤ 7 := fun j hj => ⟨(hg j hj).2.2.1, (hg j hj).2.2.2.1, (hg j hj).2.2.2.2⟩
  have hgv : ∀ j, j < R → gs j = nI (ga j) ∧ vs j = nI (gv j) ∧ ga j ≤ 7 ∧ gv j ≤ 7 := fun j hj => ⟨(hg j hj).1, (hg j hj).2.1, (hg j hj).2.2.2.1, (hg j hj).2.2.2.2⟩
  exact opx (x_clear) (m_clear) rfl (by decide) (by decide) (sim_mk (Z := 0) ⟨tx_0, hTd, hRS', hI0, hI1, htr⟩)
set_option maxHeartbeats 4000000 in
set_option maxRecDepth 100000 in
theorem s_walk {l : Launch} {H : zq_H} (hS : Sim H) (x y : Int32) : Opx l mX11_walk mX12_walk [.int x, .int y] H := by
  obtain ⟨Z, P, C, R, L, D, N, K, tx, tx', hs, ss, cs, gs, vs, td, dr, rd, sm, ce, de, ke, se, s, i0, i1, kp, kp', im, dd, tr, tr', dr', at_, so, sr, va, wy, rfl, hSR⟩ := hS
  have hSim := hSR
  obtain ⟨hTx, ⟨⟨ht0, ht1, ht2, ht3⟩, ⟨hP, hC, hR, hL⟩, hhs, hcs, ga, gv, hg⟩, hRS, hI0, hI1, htr⟩ := hSR
  have hTd := hSim.2.1
  have hRS' := hRS
  obtain ⟨hK, hs168, hNw, hHi⟩ := hRS
  have hNw' := hNw
  obtain ⟨⟨hs0, hs1, hs2⟩, ⟨hD, hN, hsm⟩, hcel, hde, hke, hwho⟩ := hNw
  obtain ⟨cn, hce, hceM⟩ := NwR_cn hNw'
  have hru : ∀ j, j < R → td (26 + j) = nI (10 * ga j + gv j) ∧ ga j ≤ 7 ∧ gv j ≤ 7 := fun j hj => ⟨(hg j hj).2.2.1, (hg j hj).2.2.2.1, (hg j hj).2.2.2.2⟩
  have hgv : ∀ j, j < R → gs j = nI (ga j) ∧ vs j = nI (gv j) ∧ ga j ≤ 7 ∧ gv j ≤ 7 := fun j hj => ⟨(hg j hj).1, (hg j hj).2.1, (hg j hj).2.2.2.1, (hg j hj).2.2.2.2⟩
  by_cases hb : 0 ≤ x.toInt ∧ x.toInt < (P : Int) ∧ 0 ≤ y.toInt ∧ y.toInt ≤ 25
  · obtain ⟨g1, g2, g3, g4⟩ := hb
    obtain ⟨a, ea, ia⟩ := toN (x := x) (g1)
    subst ea
    obtain ⟨c, ec, ic⟩ := toN (x := y) (g3)
    subst ec
    have ha : a < P := by omega
    have hcc : c ≤ 25 := by omega
    by_cases hc : cn a = c ∨ cn a = 26
    · exact opx (x_walk_st ha hcc hP hce hc) (m_walk_st ht0 hP hceM ha hcc hc) rfl (by decide) (by decide) (sim_mk hSim)
    · have hc2 : ¬ cn a = c ∧ ¬ cn a = 26 := by omega
      exact opx (x_walk ha hcc hP hK hce hc2) (m_walk ht0 hs168 hP hK hceM ha hcc hc2) (congrArg Value.int ((hce a ha).1)) (by decide) (by decide) (sim_mk ⟨hTx, hTd, rs_walk hP hRS' ha (by omega), hI0, hI1, htr⟩)
  · exact opx (x_walk_bad hP hb) (m_walk_bad ht0 hP hb) rfl (by decide) (by decide) (sim_mk hSim)
set_option maxHeartbeats 4000000 in
set_option maxRecDepth 100000 in
theorem s_die {l : Launch} {H : zq_H} (hS : Sim H) (x : Int32) : Opx l mX11_die mX12_die [.int x] H := by
  obtain ⟨Z, P, C, R, L, D, N, K, tx, tx', hs, ss, cs, gs, vs, td, dr, rd, sm, ce, de, ke, se, s, i0, i1, kp, kp', im, dd, tr, tr', dr', at_, so, sr, va, wy, rfl, hSR⟩ := hS
  have hSim := hSR
  obtain ⟨hTx, ⟨⟨ht0, ht1, ht2, ht3⟩, ⟨hP, hC, hR, hL⟩, hhs, hcs, ga, gv, hg⟩, hRS, hI0, hI1, htr⟩ := hSR
  have hTd := hSim.2.1
  have hRS' := hRS
  obtain ⟨hK, hs168, hNw, hHi⟩ := hRS
  have hNw' := hNw
  obtain ⟨⟨hs0, hs1, hs2⟩, ⟨hD, hN, hsm⟩, hcel, hde, hke, hwho⟩ := hNw
  obtain ⟨cn, hce, hceM⟩ := NwR_cn hNw'
  have hru : ∀ j, j < R → td (26 + j) = nI (10 * ga j + gv j) ∧ ga j ≤ 7 ∧ gv j ≤ 7 := fun j hj => ⟨(hg j hj).2.2.1, (hg j hj).2.2.2.1, (hg j hj).2.2.2.2⟩
  have hgv : ∀ j, j < R → gs j = nI (ga j) ∧ vs j = nI (gv j) ∧ ga j ≤ 7 ∧ gv j ≤ 7 := fun j hj => ⟨(hg j hj).1, (hg j hj).2.1, (hg j hj).2.2.2.1, (hg j hj).2.2.2.2⟩
  by_cases hb : 0 ≤ x.toInt ∧ x.toInt < (P : Int)
  · obtain ⟨g1, g2⟩ := hb
    obtain ⟨a, ea, ia⟩ := toN (x := x) (g1)
    subst ea
    have ha : a < P := by omega
    by_cases hc : cn a = 26
    · exact opx (x_die_st ha hP hce hc) (m_die_st ht0 hP hceM ha hc) rfl (by decide) (by decide) (sim_mk hSim)
    · exact opx (x_die ha hP hK hce hc) (m_die ht0 hs168 hP hK hceM ha hc) (congrArg Value.int ((hce a ha).1)) (by decide) (by decide) (sim_mk ⟨hTx, hTd, rs_walk (c := 26) hP hRS' ha (by omega), hI0, hI1, htr⟩)
  · exact opx (x_die_bad hP hb) (m_die_bad ht0 hP hb) rfl (by decide) (by decide) (sim_mk hSim)
set_option maxHeartbeats 4000000 in
set_option maxRecDepth 100000 in
theorem s_smoke {l : Launch} {H : zq_H} (hS : Sim H) (x y : Int32) : Opx l mX11_smoke mX12_smoke [.int x, .int y] H := by
  obtain ⟨Z, P, C, R, L, D, N, K, tx, tx', hs, ss, cs, gs, vs, td, dr, rd, sm, ce, de, ke, se, s, i0, i1, kp, kp', im, dd, tr, tr', dr', at_, so, sr, va, wy, rfl, hSR⟩ := hS
  have hSim := hSR
  obtain ⟨hTx, ⟨⟨ht0, ht1, ht2, ht3⟩, ⟨hP, hC, hR, hL⟩, hhs, hcs, ga, gv, hg⟩, hRS, hI0, hI1, htr⟩ := hSR
  have hTd := hSim.2.1
  have hRS' := hRS
  obtain ⟨hK, hs168, hNw, hHi⟩ := hRS
  have hNw' := hNw
  obtain ⟨⟨hs0, hs1, hs2⟩, ⟨hD, hN, hsm⟩, hcel, hde, hke, hwho⟩ := hNw
  obtain ⟨cn, hce, hceM⟩ := NwR_cn hNw'
  have hru : ∀ j, j < R → td (26 + j) = nI (10 * ga j + gv j) ∧ ga j ≤ 7 ∧ gv j ≤ 7 := fun j hj => ⟨(hg j hj).2.2.1, (hg j hj).2.2.2.1, (hg j hj).2.2.2.2⟩
  have hgv : ∀ j, j < R → gs j = nI (ga j) ∧ vs j = nI (gv j) ∧ ga j ≤ 7 ∧ gv j ≤ 7 := fun j hj => ⟨(hg j hj).1, (hg j hj).2.1, (hg j hj).2.2.2.1, (hg j hj).2.2.2.2⟩
  by_cases hb : 0 ≤ x.toInt ∧ x.toInt < 25 ∧ 0 ≤ y.toInt ∧ y.toInt ≤ 1
  · obtain ⟨g1, g2, g3, g4⟩ := hb
    obtain ⟨a, ea, ia⟩ := toN (x := x) (g1)
    subst ea
    obtain ⟨c, ec, ic⟩ := toN (x := y) (g3)
    subst ec
    have ha : a < 25 := by omega
    have he : c ≤ 1 := by omega
    by_cases hc : zbit sm (nI a) = nI c
    · exact opx (x_smoke_st ha he hc) (m_smoke_st hs1 ha he hc) rfl (by decide) (by decide) (sim_mk hSim)
    · exact opx (x_smoke ha he hK hc) (m_smoke hs1 hs168 hK ha he hc) (congrArg Value.int (e_pop (s25_x hsm ha))) (by decide) (by decide) (sim_mk ⟨hTx, hTd, rs_smoke hP hRS' (s25_x hsm ha), hI0, hI1, htr⟩)
  · exact opx (x_smoke_bad hb) (m_smoke_bad hb) rfl (by decide) (by decide) (sim_mk hSim)
set_option maxHeartbeats 4000000 in
set_option maxRecDepth 100000 in
theorem s_deed {l : Launch} {H : zq_H} (hS : Sim H) (x y : Int32) : Opx l mX11_deed mX12_deed [.int x, .int y] H := by
  obtain ⟨Z, P, C, R, L, D, N, K, tx, tx', hs, ss, cs, gs, vs, td, dr, rd, sm, ce, de, ke, se, s, i0, i1, kp, kp', im, dd, tr, tr', dr', at_, so, sr, va, wy, rfl, hSR⟩ := hS
  have hSim := hSR
  obtain ⟨hTx, ⟨⟨ht0, ht1, ht2, ht3⟩, ⟨hP, hC, hR, hL⟩, hhs, hcs, ga, gv, hg⟩, hRS, hI0, hI1, htr⟩ := hSR
  have hTd := hSim.2.1
  have hRS' := hRS
  obtain ⟨hK, hs168, hNw, hHi⟩ := hRS
  have hNw' := hNw
  obtain ⟨⟨hs0, hs1, hs2⟩, ⟨hD, hN, hsm⟩, hcel, hde, hke, hwho⟩ := hNw
  obtain ⟨cn, hce, hceM⟩ := NwR_cn hNw'
  have hru : ∀ j, j < R → td (26 + j) = nI (10 * ga j + gv j) ∧ ga j ≤ 7 ∧ gv j ≤ 7 := fun j hj => ⟨(hg j hj).2.2.1, (hg j hj).2.2.2.1, (hg j hj).2.2.2.2⟩
  have hgv : ∀ j, j < R → gs j = nI (ga j) ∧ vs j = nI (gv j) ∧ ga j ≤ 7 ∧ gv j ≤ 7 := fun j hj => ⟨(hg j hj).1, (hg j hj).2.1, (hg j hj).2.2.2.1, (hg j hj).2.2.2.2⟩
  by_cases hb : 0 ≤ x.toInt ∧ x.toInt < (P : Int) ∧ 0 ≤ y.toInt ∧ y.toInt ≤ 7
  · obtain ⟨g1, g2, g3, g4⟩ := hb
    obtain ⟨a, ea, ia⟩ := toN (x := x) (g1)
    subst ea
    obtain ⟨c, ec, ic⟩ := toN (x := y) (g3)
    subst ec
    have ha : a < P := by omega
    have hcc : c ≤ 7 := by omega
    by_cases hc : 25 ≤ cn a
    · exact opx (x_deed_st ha hcc hP hce hc) (m_deed_st ht0 hP hceM ha hcc hc) rfl (by decide) (by decide) (sim_mk hSim)
    · have hc2 : cn a < 25 := by omega
      by_cases hN2 : N = 12
      · exact opx (x_deed_full ha hcc hP hN hce hc2 hN2) (m_deed_full ht0 hP hceM hs2 ha hcc hc2 hN2) rfl (by decide) (by decide) (sim_mk hSim)
      · have hN2 : N < 12 := by omega
        have e4 : zbit (zseen C cs D P hs sm cn) (nI a) = zb (bareB P (fun j => td (6 + j)) sm cn a = true ∧ ¬ zany (fun i => decide (td (18 + i) = nI D)) C = true) := by rw [seen_h hhs hcs]; exact e_seen hP ha
        refine opx (x_deed ha hcc hP hC hK hce hc2 hN2) (m_deed ht0 ht1 hs0 hs1 hP hC hceM hs2 hs168 hK ha hcc hc2 hN2) (congrArg Value.int (e4)) (by decide) (by decide) ?_
        rw [← e4, ← (hce a ha).1]
        exact (sim_mk ⟨hTx, hTd, rs_deed hP hRS' hN2 ha, hI0, hI1, htr⟩)
  · exact opx (x_deed_bad hP hb) (m_deed_bad ht0 hP hb) rfl (by decide) (by decide) (sim_mk hSim)
set_option maxHeartbeats 4000000 in
set_option maxRecDepth 100000 in
theorem s_day {l : Launch} {H : zq_H} (hS : Sim H) : Opx l mX11_day mX12_day [] H := by
  obtain ⟨Z, P, C, R, L, D, N, K, tx, tx', hs, ss, cs, gs, vs, td, dr, rd, sm, ce, de, ke, se, s, i0, i1, kp, kp', im, dd, tr, tr', dr', at_, so, sr, va, wy, rfl, hSR⟩ := hS
  have hSim := hSR
  obtain ⟨hTx, ⟨⟨ht0, ht1, ht2, ht3⟩, ⟨hP, hC, hR, hL⟩, hhs, hcs, ga, gv, hg⟩, hRS, hI0, hI1, htr⟩ := hSR
  have hTd := hSim.2.1
  have hRS' := hRS
  obtain ⟨hK, hs168, hNw, hHi⟩ := hRS
  have hNw' := hNw
  obtain ⟨⟨hs0, hs1, hs2⟩, ⟨hD, hN, hsm⟩, hcel, hde, hke, hwho⟩ := hNw
  obtain ⟨cn, hce, hceM⟩ := NwR_cn hNw'
  have hru : ∀ j, j < R → td (26 + j) = nI (10 * ga j + gv j) ∧ ga j ≤ 7 ∧ gv j ≤ 7 := fun j hj => ⟨(hg j hj).2.2.1, (hg j hj).2.2.2.1, (hg j hj).2.2.2.2⟩
  have hgv : ∀ j, j < R → gs j = nI (ga j) ∧ vs j = nI (gv j) ∧ ga j ≤ 7 ∧ gv j ≤ 7 := fun j hj => ⟨(hg j hj).1, (hg j hj).2.1, (hg j hj).2.2.2.1, (hg j hj).2.2.2.2⟩
  by_cases hD2 : D = 99
  · exact opx (x_day_st hD2) (m_day_st hs0 hD2) rfl (by decide) (by decide) (sim_mk hSim)
  · have hD2 : D < 99 := by omega
    refine opx (x_day hD2 hP hC hK hce) (m_day ht0 ht1 hs0 hs1 hP hC hceM hs168 hK hD2) rfl (by decide) (by decide) ?_
    rw [← seen_h (D := D) (sm := sm) (cn := cn) hhs hcs]
    exact (sim_mk ⟨hTx, hTd, rs_day hP hRS' hD2, hI0, hI1, htr⟩)
set_option maxHeartbeats 4000000 in
set_option maxRecDepth 100000 in
theorem s_undo {l : Launch} {H : zq_H} (hS : Sim H) : Opx l mX11_undo mX12_undo [] H := by
  obtain ⟨Z, P, C, R, L, D, N, K, tx, tx', hs, ss, cs, gs, vs, td, dr, rd, sm, ce, de, ke, se, s, i0, i1, kp, kp', im, dd, tr, tr', dr', at_, so, sr, va, wy, rfl, hSR⟩ := hS
  have hSim := hSR
  obtain ⟨hTx, ⟨⟨ht0, ht1, ht2, ht3⟩, ⟨hP, hC, hR, hL⟩, hhs, hcs, ga, gv, hg⟩, hRS, hI0, hI1, htr⟩ := hSR
  have hTd := hSim.2.1
  have hRS' := hRS
  obtain ⟨hK, hs168, hNw, hHi⟩ := hRS
  have hNw' := hNw
  obtain ⟨⟨hs0, hs1, hs2⟩, ⟨hD, hN, hsm⟩, hcel, hde, hke, hwho⟩ := hNw
  obtain ⟨cn, hce, hceM⟩ := NwR_cn hNw'
  have hru : ∀ j, j < R → td (26 + j) = nI (10 * ga j + gv j) ∧ ga j ≤ 7 ∧ gv j ≤ 7 := fun j hj => ⟨(hg j hj).2.2.1, (hg j hj).2.2.2.1, (hg j hj).2.2.2.2⟩
  have hgv : ∀ j, j < R → gs j = nI (ga j) ∧ vs j = nI (gv j) ∧ ga j ≤ 7 ∧ gv j ≤ 7 := fun j hj => ⟨(hg j hj).1, (hg j hj).2.1, (hg j hj).2.2.2.1, (hg j hj).2.2.2.2⟩
  by_cases hK0 : K = 0
  · exact opx (x_undo_st hK0) (m_undo_st hs168 hK0) rfl (by decide) (by decide) (sim_mk hSim)
  · have hK1 : 1 ≤ K := by omega
    obtain ⟨k, rfl⟩ : ∃ k, K = k + 1 := ⟨K - 1, by omega⟩
    obtain ⟨D', N', sm', ce', u, w, v⟩ := hHi
    have hRU := rs_undo hP (by omega) w v
    rcases u with ⟨h0, ⟨q, q1, q2, q3⟩, h1, h2, h3⟩ | ⟨h0, h1, h2, h3, h4⟩ | ⟨h0, h1, ⟨h2, h5⟩, h3, h4⟩ | ⟨h0, ⟨h5, h1⟩, h2, h3, h4⟩
    · subst h1 h2 h3 q3
      refine opx (x_undo_0 hK1 hK h0 q2 q1) (m_undo hs168 hK hK1) rfl (by decide) (by decide) ?_
      exact (sim_mk ⟨hTx, hTd, hRU, hI0, hI1, htr⟩)
    · subst h1 h2 h3 h4
      refine opx (x_undo_1 hK1 hK h0) (m_undo hs168 hK hK1) rfl (by decide) (by decide) ?_
      exact (sim_mk ⟨hTx, hTd, hRU, hI0, hI1, htr⟩)
    · subst h1 h3 h4
      refine opx (x_undo_2 hK1 hK h0 h2) (m_undo hs168 hK hK1) rfl (by decide) (by decide) ?_
      exact (sim_mk ⟨hTx, hTd, hRU, hI0, hI1, htr⟩)
    · subst h1 h2 h3 h4
      refine opx (x_undo_3 hK1 hK h0 h5) (m_undo hs168 hK hK1) rfl (by decide) (by decide) ?_
      exact (sim_mk ⟨hTx, hTd, hRU, hI0, hI1, htr⟩)
set_option maxHeartbeats 4000000 in
set_option maxRecDepth 100000 in
theorem s_keep {l : Launch} {H : zq_H} (hS : Sim H) (x : Int32) : Opx l mX11_keep mX12_keep [.int x] H := by
  obtain ⟨Z, P, C, R, L, D, N, K, tx, tx', hs, ss, cs, gs, vs, td, dr, rd, sm, ce, de, ke, se, s, i0, i1, kp, kp', im, dd, tr, tr', dr', at_, so, sr, va, wy, rfl, hSR⟩ := hS
  have hSim := hSR
  obtain ⟨hTx, ⟨⟨ht0, ht1, ht2, ht3⟩, ⟨hP, hC, hR, hL⟩, hhs, hcs, ga, gv, hg⟩, hRS, hI0, hI1, htr⟩ := hSR
  have hTd := hSim.2.1
  have hRS' := hRS
  obtain ⟨hK, hs168, hNw, hHi⟩ := hRS
  have hNw' := hNw
  obtain ⟨⟨hs0, hs1, hs2⟩, ⟨hD, hN, hsm⟩, hcel, hde, hke, hwho⟩ := hNw
  obtain ⟨cn, hce, hceM⟩ := NwR_cn hNw'
  have hru : ∀ j, j < R → td (26 + j) = nI (10 * ga j + gv j) ∧ ga j ≤ 7 ∧ gv j ≤ 7 := fun j hj => ⟨(hg j hj).2.2.1, (hg j hj).2.2.2.1, (hg j hj).2.2.2.2⟩
  have hgv : ∀ j, j < R → gs j = nI (ga j) ∧ vs j = nI (gv j) ∧ ga j ≤ 7 ∧ gv j ≤ 7 := fun j hj => ⟨(hg j hj).1, (hg j hj).2.1, (hg j hj).2.2.2.1, (hg j hj).2.2.2.2⟩
  by_cases hb : x.toInt < 0 ∨ 1 < x.toInt
  · exact opx (x_keep_bad hb) (m_keep_bad hb) rfl (by decide) (by decide) (sim_mk hSim)
  · obtain ⟨q, eq, iq⟩ := toN (x := x) (by omega)
    subst eq
    have kq : q = 0 ∨ q = 1 := by omega
    rcases kq with rfl | rfl
    · refine opx (x_keep_0) (m_keep_0 hs0) rfl (by decide) (by decide) ?_
      exact (sim_mk ⟨hTx, hTd, hRS', im_new 0 (by omega) hP hRS', im_c hI1 (pk_un (by omega)) (pk_un (by omega)) hP (fun j hj => pk_cpy_out (by omega)), htr⟩)
    · refine opx (x_keep_1) (m_keep_1 hs0) rfl (by decide) (by decide) ?_
      exact (sim_mk ⟨hTx, hTd, hRS', im_c hI0 (pk_un (by omega)) (pk_un (by omega)) hP (fun j hj => pk_cpy_out (by omega)), im_new 1 (by omega) hP hRS', htr⟩)
set_option maxHeartbeats 4000000 in
set_option maxRecDepth 100000 in
theorem s_back {l : Launch} {H : zq_H} (hS : Sim H) (x : Int32) : Opx l mX11_back mX12_back [.int x] H := by
  obtain ⟨Z, P, C, R, L, D, N, K, tx, tx', hs, ss, cs, gs, vs, td, dr, rd, sm, ce, de, ke, se, s, i0, i1, kp, kp', im, dd, tr, tr', dr', at_, so, sr, va, wy, rfl, hSR⟩ := hS
  have hSim := hSR
  obtain ⟨hTx, ⟨⟨ht0, ht1, ht2, ht3⟩, ⟨hP, hC, hR, hL⟩, hhs, hcs, ga, gv, hg⟩, hRS, hI0, hI1, htr⟩ := hSR
  have hTd := hSim.2.1
  have hRS' := hRS
  obtain ⟨hK, hs168, hNw, hHi⟩ := hRS
  have hNw' := hNw
  obtain ⟨⟨hs0, hs1, hs2⟩, ⟨hD, hN, hsm⟩, hcel, hde, hke, hwho⟩ := hNw
  obtain ⟨cn, hce, hceM⟩ := NwR_cn hNw'
  have hru : ∀ j, j < R → td (26 + j) = nI (10 * ga j + gv j) ∧ ga j ≤ 7 ∧ gv j ≤ 7 := fun j hj => ⟨(hg j hj).2.2.1, (hg j hj).2.2.2.1, (hg j hj).2.2.2.2⟩
  have hgv : ∀ j, j < R → gs j = nI (ga j) ∧ vs j = nI (gv j) ∧ ga j ≤ 7 ∧ gv j ≤ 7 := fun j hj => ⟨(hg j hj).1, (hg j hj).2.1, (hg j hj).2.2.2.1, (hg j hj).2.2.2.2⟩
  by_cases hb : x.toInt < 0 ∨ 1 < x.toInt
  · exact opx (x_back_bad hb) (m_back_bad hb) rfl (by decide) (by decide) (sim_mk hSim)
  · obtain ⟨q, eq, iq⟩ := toN (x := x) (by omega)
    subst eq
    have kq : q = 0 ∨ q = 1 := by omega
    rcases kq with rfl | rfl
    · rcases (id hI0 : ImR P 0 i0 kp kp' im) with ⟨z1, z2⟩ | ⟨⟨z1, z2⟩, D2, N2, K2, ⟨e1, e2, e3⟩, r⟩
      · exact opx (x_back_0_st z1) (m_back_0_st z2) rfl (by decide) (by decide) (sim_mk hSim)
      · obtain ⟨d0, d1, d2, d3, d4, d5, d6, d7⟩ := i0
        dsimp only at e1 e2 e3 r
        subst e1 e2 e3
        refine opx (x_back_0 z1) (m_back_0 z2) (congrArg Value.int (r.2.2.1.1.1.symm)) (by decide) (by decide) ?_
        exact (sim_mk ⟨hTx, hTd, RS_c hP (fun j hj => cpyI hj) (fun j hj => cpyI hj) (fun j hj => cpyI hj) (fun j hj => cpyI hj) (fun j hj => by rw [pk_cpy_in (by omega) (by omega)]; exact congrArg im (by omega)) r, hI0, hI1, htr⟩)
    · rcases (id hI1 : ImR P 1 i1 kp kp' im) with ⟨z1, z2⟩ | ⟨⟨z1, z2⟩, D2, N2, K2, ⟨e1, e2, e3⟩, r⟩
      · exact opx (x_back_1_st z1) (m_back_1_st z2) rfl (by decide) (by decide) (sim_mk hSim)
      · obtain ⟨d0, d1, d2, d3, d4, d5, d6, d7⟩ := i1
        dsimp only at e1 e2 e3 r
        subst e1 e2 e3
        refine opx (x_back_1 z1) (m_back_1 z2) (congrArg Value.int (r.2.2.1.1.1.symm)) (by decide) (by decide) ?_
        exact (sim_mk ⟨hTx, hTd, RS_c hP (fun j hj => cpyI hj) (fun j hj => cpyI hj) (fun j hj => cpyI hj) (fun j hj => cpyI hj) (fun j hj => by rw [pk_cpy_in (by omega) (by omega)]; exact congrArg im (by omega)) r, hI0, hI1, htr⟩)
set_option maxHeartbeats 4000000 in
set_option maxRecDepth 100000 in
theorem s_square {l : Launch} {H : zq_H} (hS : Sim H) : Opx l mX11_square mX12_square [] H := by
  obtain ⟨Z, P, C, R, L, D, N, K, tx, tx', hs, ss, cs, gs, vs, td, dr, rd, sm, ce, de, ke, se, s, i0, i1, kp, kp', im, dd, tr, tr', dr', at_, so, sr, va, wy, rfl, hSR⟩ := hS
  have hSim := hSR
  obtain ⟨hTx, ⟨⟨ht0, ht1, ht2, ht3⟩, ⟨hP, hC, hR, hL⟩, hhs, hcs, ga, gv, hg⟩, hRS, hI0, hI1, htr⟩ := hSR
  have hTd := hSim.2.1
  have hRS' := hRS
  obtain ⟨hK, hs168, hNw, hHi⟩ := hRS
  have hNw' := hNw
  obtain ⟨⟨hs0, hs1, hs2⟩, ⟨hD, hN, hsm⟩, hcel, hde, hke, hwho⟩ := hNw
  obtain ⟨cn, hce, hceM⟩ := NwR_cn hNw'
  have hru : ∀ j, j < R → td (26 + j) = nI (10 * ga j + gv j) ∧ ga j ≤ 7 ∧ gv j ≤ 7 := fun j hj => ⟨(hg j hj).2.2.1, (hg j hj).2.2.2.1, (hg j hj).2.2.2.2⟩
  have hgv : ∀ j, j < R → gs j = nI (ga j) ∧ vs j = nI (gv j) ∧ ga j ≤ 7 ∧ gv j ≤ 7 := fun j hj => ⟨(hg j hj).1, (hg j hj).2.1, (hg j hj).2.2.2.1, (hg j hj).2.2.2.2⟩
  obtain ⟨hZ, bt, hbt⟩ := hTx
  rcases x_square (l := l) (tx := tx) (Z := Z) (bt := bt) (t := (nI P, nI C, nI R, nI L, hs, ss, cs, gs, vs)) (dr := dr) (rd := rd) (w := (nI D, sm, nI N, nI K, ce, de, ke, se)) (i0 := i0) (i1 := i1) (kp := kp) (dd := dd) (tr := tr) (m := mcl tr' tx' (nI Z) td dr' s im kp' at_ so sr va wy) hZ (fun j hj => ⟨(hbt j hj).1, (hbt j hj).2.2⟩) with ⟨s1, p1, p2, dr2, rd2, hx⟩ | ⟨k, T, p1, p2, p3, dr2, rd2, p4, hx⟩
  · rcases m_square (l := l) (c := xcl tx (nI Z) (nI P, nI C, nI R, nI L, hs, ss, cs, gs, vs) dr2 rd2 (nI D, sm, nI N, nI K, ce, de, ke, se) i0 i1 kp dd tr) (tr := tr') (tx := tx') (td := td) (dr := dr') (s := s) (im := im) (kp := kp') (at_ := at_) (so := so) (sr := sr) (va := va) (wy := wy) (Z := Z) (bt := bt) hZ (fun j hj => ⟨(hbt j hj).2.1, (hbt j hj).2.2⟩) with ⟨s2, q1, q2, dr3, at3, so3, va3, hm⟩ | ⟨k2, T2, q2, q3, dr3, at3, so3, sr3, va3, q4, hm⟩
    · have e : s1 = s2 := by rw [p2] at q2; exact Sum.inl.inj q2
      subst e
      exact opx hx hm rfl (by decide) (by decide) (sim_mk hSim)
    · rw [p2] at q2; cases q2
  · obtain ⟨d1, d2, d3, d4, hs2, ss2, cs2, gs2, vs2⟩ := dr2
    obtain ⟨⟨f1, f2, f3, f4⟩, f5, f6, f7⟩ := p4
    dsimp only at f1 f2 f3 f4 f5 f6 f7
    subst f1 f2 f3 f4
    dsimp only at hx
    rcases m_square (l := l) (c := xcl tx 0 (nI T.1, nI T.2.1, nI T.2.2.1, nI T.2.2.2.1, va_cpy hs2 hs 0 0 6, va_cpy ss2 ss 0 0 6, va_cpy cs2 cs 0 0 8, va_cpy gs2 gs 0 0 6, va_cpy vs2 vs 0 0 6) (nI T.1, nI T.2.1, nI T.2.2.1, nI T.2.2.2.1, hs2, ss2, cs2, gs2, vs2) rd2 (0, 0, 0, 0, va_cpy (va_cpy ss2 ss 0 0 6) ce 0 0 6, de, ke, se) i0 i1 (upd (upd kp 0 0) 1 0) dd tr) (tr := tr') (tx := tx') (td := td) (dr := dr') (s := s) (im := im) (kp := kp') (at_ := at_) (so := so) (sr := sr) (va := va) (wy := wy) (Z := Z) (bt := bt) hZ (fun j hj => ⟨(hbt j hj).2.1, (hbt j hj).2.2⟩) with ⟨s2, q1, q2, dr3, at3, so3, va3, hm⟩ | ⟨k2, T2, q2, q3, dr3, at3, so3, sr3, va3, q4, hm⟩
    · rw [p2] at q2; cases q2
    · have e := Sum.inr.inj (p2.symm.trans q2)
      obtain ⟨e1, e2⟩ := Prod.mk.inj e
      subst e1 e2
      obtain ⟨⟨h0, h1, h2, h3, h4, h5⟩, m5, m6, m7⟩ := q4
      obtain ⟨o1, o2, o3, o4, o5, o6, o7⟩ := p3
      refine opx hx hm rfl (by decide) (by decide) (sim_mk (Z := 0) (D := 0) (N := 0) (K := 0) ⟨tx_0, ⟨⟨(cpyI (by omega)).trans h0, (cpyI (by omega)).trans h1, (cpyI (by omega)).trans h2, (cpyI (by omega)).trans h3⟩, ⟨o1, o2, o3, o4.2⟩, fun j hj => ?_, fun j hj => ?_, T.2.2.2.2.2.2.2.2.1, T.2.2.2.2.2.2.2.2.2, fun j hj => ?_⟩, rs_sq o1 (sn := T.2.2.2.2.2.2.1) (fun j hj => ⟨(f5 j hj).2, (m5 j hj).2, (o5 j hj).2.2⟩), Or.inl ⟨(pk_un (by omega)).trans pk_us, (pk_un (by omega)).trans pk_us⟩, Or.inl ⟨pk_us, pk_us⟩, htr⟩)
      · rw [cpyI (by omega), cpyI (by omega)]; exact (f5 j hj).1.trans (m5 j hj).1.symm
      · rw [cpyI (by omega), cpyI (by omega)]; exact (f6 j hj).trans (m6 j hj).symm
      · rw [cpyI (by omega), cpyI (by omega), cpyI (by omega)]; exact ⟨(f7 j hj).1, (f7 j hj).2, m7 j hj, (o7 j hj).1, (o7 j hj).2⟩
