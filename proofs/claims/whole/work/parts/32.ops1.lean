theorem orK_c {f g : Nat → Bool} {x : Int32} {n : Nat} (h : ∀ i, i < n → f i = g i) : orK f x n = orK g x n := by
  induction n with
  | zero => rfl
  | succ n ih => rw [orK, orK, ih (fun i hi => h i (by omega)), h n (by omega)]
theorem e_hide0 {P : Nat} {hs : Nat → Int32} {sm x y : Int32} {cn : Nat → Nat} {z : Int32} (h : z = if zany (hdB P hs sm cn x y) 5 = true then -9 else hdL P hs sm cn x y) : (if z = -9 then -9 else zbc z) = if zany (hdB P hs sm cn x y) 5 = true then -9 else zon (hdL P hs sm cn x y) 25 := by
  rw [h]
  by_cases k : zany (hdB P hs sm cn x y) 5 = true
  · rw [if_pos k, if_pos rfl, if_pos k]
  · rw [if_neg k, if_neg (s25_m9 (e_hdL k)), if_neg k, e_pop (e_hdL k)]
set_option maxHeartbeats 4000000 in
set_option maxRecDepth 100000 in
theorem s_person {l : Launch} {H : zq_H} (hS : Sim H) (x y : Int32) : Opx l mX11_person mX12_person [.int x, .int y] H := by
  obtain ⟨Z, P, C, R, L, D, N, K, tx, tx', hs, ss, cs, gs, vs, td, dr, rd, sm, ce, de, ke, se, s, i0, i1, kp, kp', im, dd, tr, tr', dr', at_, so, sr, va, wy, rfl, hSR⟩ := hS
  have hSim := hSR
  obtain ⟨hTx, ⟨⟨ht0, ht1, ht2, ht3⟩, ⟨hP, hC, hR, hL⟩, hhs, hcs, ga, gv, hg⟩, hRS, hI0, hI1, htr⟩ := hSR
  have hTd := hSim.2.1
  have hRS' := hRS
  obtain ⟨hK, hs168, hNw, hHi⟩ := hRS
  have hNw' := hNw
  obtain ⟨⟨hs0, hs1, hs2⟩, ⟨hD, hN, hsm⟩, hcel, hde, hke, hwho⟩ := hNw
  obtain ⟨cn, hce, hceM⟩ := NwR_cn hNw'
  have hru : ∀ j, j < R → td (26 + j) = nI (10 * ga j + gv j) ∧ ga j ≤ 7 ∧ gv j ≤ 7 := fun j hj => ⟨(hg j hj).2.2.1, (hg j hj).2.2.2.1, (hg j hj).2.2.2.2⟩
  have hgv : ∀ j, j < R → gs j = nI (ga j) ∧ vs j = nI (gv j) ∧ ga j ≤ 7 ∧ gv j ≤ 7 := fun j hj => ⟨(hg j hj).1, (hg j hj).2.1, (hg j hj).2.2.2.1, (hg j hj).2.2.2.2⟩
  by_cases hb : 0 ≤ x.toInt ∧ x.toInt < (P : Int) ∧ 0 ≤ y.toInt ∧ y.toInt ≤ 2
  · obtain ⟨a, ea, ia⟩ := toN (x := x) (hb.1)
    subst ea
    obtain ⟨q, eq, iq⟩ := toN (x := y) (hb.2.2.1)
    subst eq
    have ha : a < P := by omega
    have kq : q = 0 ∨ q = 1 ∨ q = 2 := by omega
    rcases kq with rfl | rfl | rfl
    · exact opx (x_person_0 ha hP) (m_person_0 ht0 hP ha) (congrArg Value.int (hhs a ha)) (by decide) (by decide) (sim_mk hSim)
    · exact opx (x_person_1 ha hP) (m_person_1 ht0 hP hceM ha) (congrArg Value.int ((hce a ha).1)) (by decide) (by decide) (sim_mk hSim)
    · exact opx (x_person_2 ha hP hC hce) (m_person_2 ht0 ht1 hs0 hs1 hP hC hceM ha) (congrArg Value.int (by rw [seen_h hhs hcs]; exact e_seen hP ha)) (by decide) (by decide) (sim_mk hSim)
  · exact opx (x_person_bad hP hb) (m_person_bad ht0 hP hb) rfl (by decide) (by decide) (sim_mk hSim)
set_option maxHeartbeats 4000000 in
set_option maxRecDepth 100000 in
theorem s_cell {l : Launch} {H : zq_H} (hS : Sim H) (x y : Int32) : Opx l mX11_cell mX12_cell [.int x, .int y] H := by
  obtain ⟨Z, P, C, R, L, D, N, K, tx, tx', hs, ss, cs, gs, vs, td, dr, rd, sm, ce, de, ke, se, s, i0, i1, kp, kp', im, dd, tr, tr', dr', at_, so, sr, va, wy, rfl, hSR⟩ := hS
  have hSim := hSR
  obtain ⟨hTx, ⟨⟨ht0, ht1, ht2, ht3⟩, ⟨hP, hC, hR, hL⟩, hhs, hcs, ga, gv, hg⟩, hRS, hI0, hI1, htr⟩ := hSR
  have hTd := hSim.2.1
  have hRS' := hRS
  obtain ⟨hK, hs168, hNw, hHi⟩ := hRS
  have hNw' := hNw
  obtain ⟨⟨hs0, hs1, hs2⟩, ⟨hD, hN, hsm⟩, hcel, hde, hke, hwho⟩ := hNw
  obtain ⟨cn, hce, hceM⟩ := NwR_cn hNw'
  have hru : ∀ j, j < R → td (26 + j) = nI (10 * ga j + gv j) ∧ ga j ≤ 7 ∧ gv j ≤ 7 := fun j hj => ⟨(hg j hj).2.2.1, (hg j hj).2.2.2.1, (hg j hj).2.2.2.2⟩
  have hgv : ∀ j, j < R → gs j = nI (ga j) ∧ vs j = nI (gv j) ∧ ga j ≤ 7 ∧ gv j ≤ 7 := fun j hj => ⟨(hg j hj).1, (hg j hj).2.1, (hg j hj).2.2.2.1, (hg j hj).2.2.2.2⟩
  by_cases hb : 0 ≤ x.toInt ∧ x.toInt < 25 ∧ 0 ≤ y.toInt ∧ y.toInt ≤ 1
  · obtain ⟨a, ea, ia⟩ := toN (x := x) (hb.1)
    subst ea
    obtain ⟨q, eq, iq⟩ := toN (x := y) (hb.2.2.1)
    subst eq
    have ha : a < 25 := by omega
    have kq : q = 0 ∨ q = 1 := by omega
    rcases kq with rfl | rfl
    · exact opx (x_cell_0 ha hP) (m_cell_0 ht0 hP hs1 ha) (congrArg Value.int (orB_c (fun p hp => by rw [(hce p hp).1, (hceM p hp).1]))) (by decide) (by decide) (sim_mk hSim)
    · exact opx (x_cell_1 ha) (m_cell_1 ht0 hP hs1 ha) rfl (by decide) (by decide) (sim_mk hSim)
  · exact opx (x_cell_bad hb) (m_cell_bad hb) rfl (by decide) (by decide) (sim_mk hSim)
set_option maxHeartbeats 4000000 in
set_option maxRecDepth 100000 in
theorem s_now {l : Launch} {H : zq_H} (hS : Sim H) (x : Int32) : Opx l mX11_now mX12_now [.int x] H := by
  obtain ⟨Z, P, C, R, L, D, N, K, tx, tx', hs, ss, cs, gs, vs, td, dr, rd, sm, ce, de, ke, se, s, i0, i1, kp, kp', im, dd, tr, tr', dr', at_, so, sr, va, wy, rfl, hSR⟩ := hS
  have hSim := hSR
  obtain ⟨hTx, ⟨⟨ht0, ht1, ht2, ht3⟩, ⟨hP, hC, hR, hL⟩, hhs, hcs, ga, gv, hg⟩, hRS, hI0, hI1, htr⟩ := hSR
  have hTd := hSim.2.1
  have hRS' := hRS
  obtain ⟨hK, hs168, hNw, hHi⟩ := hRS
  have hNw' := hNw
  obtain ⟨⟨hs0, hs1, hs2⟩, ⟨hD, hN, hsm⟩, hcel, hde, hke, hwho⟩ := hNw
  obtain ⟨cn, hce, hceM⟩ := NwR_cn hNw'
  have hru : ∀ j, j < R → td (26 + j) = nI (10 * ga j + gv j) ∧ ga j ≤ 7 ∧ gv j ≤ 7 := fun j hj => ⟨(hg j hj).2.2.1, (hg j hj).2.2.2.1, (hg j hj).2.2.2.2⟩
  have hgv : ∀ j, j < R → gs j = nI (ga j) ∧ vs j = nI (gv j) ∧ ga j ≤ 7 ∧ gv j ≤ 7 := fun j hj => ⟨(hg j hj).1, (hg j hj).2.1, (hg j hj).2.2.2.1, (hg j hj).2.2.2.2⟩
  by_cases hb : x.toInt < 0 ∨ 4 < x.toInt
  · exact opx (x_now_bad hb) (m_now_bad hb) rfl (by decide) (by decide) (sim_mk hSim)
  · obtain ⟨q, eq, iq⟩ := toN (x := x) (by omega)
    subst eq
    have kq : q = 0 ∨ q = 1 ∨ q = 2 ∨ q = 3 ∨ q = 4 := by omega
    rcases kq with rfl | rfl | rfl | rfl | rfl
    · exact opx (x_now_0) (m_now_0 hs0) rfl (by decide) (by decide) (sim_mk hSim)
    · exact opx (x_now_1 hP hC hce) (m_now_1 ht0 ht1 hs0 hs1 hP hC hceM) (congrArg Value.int (seen_h hhs hcs)) (by decide) (by decide) (sim_mk hSim)
    · exact opx (x_now_2 hC) (m_now_2 ht1 hs0 hC) (congrArg Value.int (by rw [cloud_h hcs])) (by decide) (by decide) (sim_mk hSim)
    · exact opx (x_now_3) (m_now_3 hs1) rfl (by decide) (by decide) (sim_mk hSim)
    · exact opx (x_now_4) (m_now_4 ht3) rfl (by decide) (by decide) (sim_mk hSim)
set_option maxHeartbeats 4000000 in
set_option maxRecDepth 100000 in
theorem s_done {l : Launch} {H : zq_H} (hS : Sim H) (x y : Int32) : Opx l mX11_done mX12_done [.int x, .int y] H := by
  obtain ⟨Z, P, C, R, L, D, N, K, tx, tx', hs, ss, cs, gs, vs, td, dr, rd, sm, ce, de, ke, se, s, i0, i1, kp, kp', im, dd, tr, tr', dr', at_, so, sr, va, wy, rfl, hSR⟩ := hS
  have hSim := hSR
  obtain ⟨hTx, ⟨⟨ht0, ht1, ht2, ht3⟩, ⟨hP, hC, hR, hL⟩, hhs, hcs, ga, gv, hg⟩, hRS, hI0, hI1, htr⟩ := hSR
  have hTd := hSim.2.1
  have hRS' := hRS
  obtain ⟨hK, hs168, hNw, hHi⟩ := hRS
  have hNw' := hNw
  obtain ⟨⟨hs0, hs1, hs2⟩, ⟨hD, hN, hsm⟩, hcel, hde, hke, hwho⟩ := hNw
  obtain ⟨cn, hce, hceM⟩ := NwR_cn hNw'
  have hru : ∀ j, j < R → td (26 + j) = nI (10 * ga j + gv j) ∧ ga j ≤ 7 ∧ gv j ≤ 7 := fun j hj => ⟨(hg j hj).2.2.1, (hg j hj).2.2.2.1, (hg j hj).2.2.2.2⟩
  have hgv : ∀ j, j < R → gs j = nI (ga j) ∧ vs j = nI (gv j) ∧ ga j ≤ 7 ∧ gv j ≤ 7 := fun j hj => ⟨(hg j hj).1, (hg j hj).2.1, (hg j hj).2.2.2.1, (hg j hj).2.2.2.2⟩
  by_cases hb : 0 ≤ x.toInt ∧ x.toInt < (N : Int) ∧ 0 ≤ y.toInt ∧ y.toInt ≤ 4
  · obtain ⟨i, ei, ii⟩ := toN (x := x) (hb.1)
    subst ei
    obtain ⟨k, ek, ik⟩ := toN (x := y) (hb.2.2.1)
    subst ek
    have hi : i < N := by omega
    have hk : k ≤ 4 := by omega
    exact opx (x_done hN hi hk) (m_done hs2 hN hi hk) (congrArg Value.int (hde _ (by omega))) (by decide) (by decide) (sim_mk hSim)
  · exact opx (x_done_bad hN hb) (m_done_bad hs2 hN hb) rfl (by decide) (by decide) (sim_mk hSim)
set_option maxHeartbeats 4000000 in
set_option maxRecDepth 100000 in
theorem s_counts {l : Launch} {H : zq_H} (hS : Sim H) (x : Int32) : Opx l mX11_counts mX12_counts [.int x] H := by
  obtain ⟨Z, P, C, R, L, D, N, K, tx, tx', hs, ss, cs, gs, vs, td, dr, rd, sm, ce, de, ke, se, s, i0, i1, kp, kp', im, dd, tr, tr', dr', at_, so, sr, va, wy, rfl, hSR⟩ := hS
  have hSim := hSR
  obtain ⟨hTx, ⟨⟨ht0, ht1, ht2, ht3⟩, ⟨hP, hC, hR, hL⟩, hhs, hcs, ga, gv, hg⟩, hRS, hI0, hI1, htr⟩ := hSR
  have hTd := hSim.2.1
  have hRS' := hRS
  obtain ⟨hK, hs168, hNw, hHi⟩ := hRS
  have hNw' := hNw
  obtain ⟨⟨hs0, hs1, hs2⟩, ⟨hD, hN, hsm⟩, hcel, hde, hke, hwho⟩ := hNw
  obtain ⟨cn, hce, hceM⟩ := NwR_cn hNw'
  have hru : ∀ j, j < R → td (26 + j) = nI (10 * ga j + gv j) ∧ ga j ≤ 7 ∧ gv j ≤ 7 := fun j hj => ⟨(hg j hj).2.2.1, (hg j hj).2.2.2.1, (hg j hj).2.2.2.2⟩
  have hgv : ∀ j, j < R → gs j = nI (ga j) ∧ vs j = nI (gv j) ∧ ga j ≤ 7 ∧ gv j ≤ 7 := fun j hj => ⟨(hg j hj).1, (hg j hj).2.1, (hg j hj).2.2.2.1, (hg j hj).2.2.2.2⟩
  by_cases hb : 0 ≤ x.toInt ∧ x.toInt < (N : Int)
  · obtain ⟨i, ei, ii⟩ := toN (x := x) (hb.1)
    subst ei
    have hi : i < N := by omega
    exact opx (x_counts hN hi) (m_counts hs2 hN ht3 hi) (congrArg Value.int (by rw [hde (i * 5 + 4) (by omega), hde (i * 5 + 2) (by omega)])) (by decide) (by decide) (sim_mk hSim)
  · exact opx (x_counts_bad hN hb) (m_counts_bad hs2 hN hb) rfl (by decide) (by decide) (sim_mk hSim)
set_option maxHeartbeats 4000000 in
set_option maxRecDepth 100000 in
theorem s_holder {l : Launch} {H : zq_H} (hS : Sim H) (x y : Int32) : Opx l mX11_holder mX12_holder [.int x, .int y] H := by
  obtain ⟨Z, P, C, R, L, D, N, K, tx, tx', hs, ss, cs, gs, vs, td, dr, rd, sm, ce, de, ke, se, s, i0, i1, kp, kp', im, dd, tr, tr', dr', at_, so, sr, va, wy, rfl, hSR⟩ := hS
  have hSim := hSR
  obtain ⟨hTx, ⟨⟨ht0, ht1, ht2, ht3⟩, ⟨hP, hC, hR, hL⟩, hhs, hcs, ga, gv, hg⟩, hRS, hI0, hI1, htr⟩ := hSR
  have hTd := hSim.2.1
  have hRS' := hRS
  obtain ⟨hK, hs168, hNw, hHi⟩ := hRS
  have hNw' := hNw
  obtain ⟨⟨hs0, hs1, hs2⟩, ⟨hD, hN, hsm⟩, hcel, hde, hke, hwho⟩ := hNw
  obtain ⟨cn, hce, hceM⟩ := NwR_cn hNw'
  have hru : ∀ j, j < R → td (26 + j) = nI (10 * ga j + gv j) ∧ ga j ≤ 7 ∧ gv j ≤ 7 := fun j hj => ⟨(hg j hj).2.2.1, (hg j hj).2.2.2.1, (hg j hj).2.2.2.2⟩
  have hgv : ∀ j, j < R → gs j = nI (ga j) ∧ vs j = nI (gv j) ∧ ga j ≤ 7 ∧ gv j ≤ 7 := fun j hj => ⟨(hg j hj).1, (hg j hj).2.1, (hg j hj).2.2.2.1, (hg j hj).2.2.2.2⟩
  by_cases hb : 0 ≤ x.toInt ∧ x.toInt ≤ 7 ∧ 0 ≤ y.toInt ∧ y.toInt ≤ 200
  · obtain ⟨a, ea, ia⟩ := toN (x := x) (hb.1)
    subst ea
    obtain ⟨b, eb, ib⟩ := toN (x := y) (hb.2.2.1)
    subst eb
    have ha : a ≤ 7 := by omega
    have hb2 : b ≤ 200 := by omega
    exact opx (x_holder ha hb2 hN hR) (m_holder ht2 ht3 hs2 hR hN hru ha hb2) (congrArg Value.int (by rw [(e_who (own := fun a => zown de N (nI a) (nI b) (nI L)) ha hgv), (show (fun a => zown de N (nI a) (nI b) (nI L)) = (fun a => zown (fun q => s (9 + q)) N (nI a) (nI b) (nI L)) from funext (fun a => own_h hde _ _ _))])) (by decide) (by decide) (sim_mk hSim)
  · exact opx (x_holder_bad hb) (m_holder_bad hb) rfl (by decide) (by decide) (sim_mk hSim)
set_option maxHeartbeats 4000000 in
set_option maxRecDepth 100000 in
theorem s_round {l : Launch} {H : zq_H} (hS : Sim H) : Opx l mX11_round mX12_round [] H := by
  obtain ⟨Z, P, C, R, L, D, N, K, tx, tx', hs, ss, cs, gs, vs, td, dr, rd, sm, ce, de, ke, se, s, i0, i1, kp, kp', im, dd, tr, tr', dr', at_, so, sr, va, wy, rfl, hSR⟩ := hS
  have hSim := hSR
  obtain ⟨hTx, ⟨⟨ht0, ht1, ht2, ht3⟩, ⟨hP, hC, hR, hL⟩, hhs, hcs, ga, gv, hg⟩, hRS, hI0, hI1, htr⟩ := hSR
  have hTd := hSim.2.1
  have hRS' := hRS
  obtain ⟨hK, hs168, hNw, hHi⟩ := hRS
  have hNw' := hNw
  obtain ⟨⟨hs0, hs1, hs2⟩, ⟨hD, hN, hsm⟩, hcel, hde, hke, hwho⟩ := hNw
  obtain ⟨cn, hce, hceM⟩ := NwR_cn hNw'
  have hru : ∀ j, j < R → td (26 + j) = nI (10 * ga j + gv j) ∧ ga j ≤ 7 ∧ gv j ≤ 7 := fun j hj => ⟨(hg j hj).2.2.1, (hg j hj).2.2.2.1, (hg j hj).2.2.2.2⟩
  have hgv : ∀ j, j < R → gs j = nI (ga j) ∧ vs j = nI (gv j) ∧ ga j ≤ 7 ∧ gv j ≤ 7 := fun j hj => ⟨(hg j hj).1, (hg j hj).2.1, (hg j hj).2.2.2.1, (hg j hj).2.2.2.2⟩
  exact opx (x_round hR) (m_round ht2 hR hru) (congrArg Value.int (zfs_c (fun a ha => ⟨e_back (by omega) hgv, rfl⟩))) (by decide) (by decide) (sim_mk hSim)
set_option maxHeartbeats 4000000 in
set_option maxRecDepth 100000 in
theorem s_votes {l : Launch} {H : zq_H} (hS : Sim H) (x : Int32) : Opx l mX11_votes mX12_votes [.int x] H := by
  obtain ⟨Z, P, C, R, L, D, N, K, tx, tx', hs, ss, cs, gs, vs, td, dr, rd, sm, ce, de, ke, se, s, i0, i1, kp, kp', im, dd, tr, tr', dr', at_, so, sr, va, wy, rfl, hSR⟩ := hS
  have hSim := hSR
  obtain ⟨hTx, ⟨⟨ht0, ht1, ht2, ht3⟩, ⟨hP, hC, hR, hL⟩, hhs, hcs, ga, gv, hg⟩, hRS, hI0, hI1, htr⟩ := hSR
  have hTd := hSim.2.1
  have hRS' := hRS
  obtain ⟨hK, hs168, hNw, hHi⟩ := hRS
  have hNw' := hNw
  obtain ⟨⟨hs0, hs1, hs2⟩, ⟨hD, hN, hsm⟩, hcel, hde, hke, hwho⟩ := hNw
  obtain ⟨cn, hce, hceM⟩ := NwR_cn hNw'
  have hru : ∀ j, j < R → td (26 + j) = nI (10 * ga j + gv j) ∧ ga j ≤ 7 ∧ gv j ≤ 7 := fun j hj => ⟨(hg j hj).2.2.1, (hg j hj).2.2.2.1, (hg j hj).2.2.2.2⟩
  have hgv : ∀ j, j < R → gs j = nI (ga j) ∧ vs j = nI (gv j) ∧ ga j ≤ 7 ∧ gv j ≤ 7 := fun j hj => ⟨(hg j hj).1, (hg j hj).2.1, (hg j hj).2.2.2.1, (hg j hj).2.2.2.2⟩
  by_cases hb : x.toInt < 0 ∨ 200 < x.toInt
  · exact opx (x_votes_bad hb) (m_votes_bad hb) rfl (by decide) (by decide) (sim_mk hSim)
  · obtain ⟨b, eb, ib⟩ := toN (x := x) (by omega)
    subst eb
    have hb2 : b ≤ 200 := by omega
    exact opx (x_votes hb2 hL hD) (m_votes ht3 hs0 hL hD hb2) (congrArg Value.int (by unfold zkept; split; exact hke _ (by omega); rfl)) (by decide) (by decide) (sim_mk hSim)
set_option maxHeartbeats 4000000 in
set_option maxRecDepth 100000 in
theorem s_nearer {l : Launch} {H : zq_H} (hS : Sim H) (x y : Int32) : Opx l mX11_nearer mX12_nearer [.int x, .int y] H := by
  obtain ⟨Z, P, C, R, L, D, N, K, tx, tx', hs, ss, cs, gs, vs, td, dr, rd, sm, ce, de, ke, se, s, i0, i1, kp, kp', im, dd, tr, tr', dr', at_, so, sr, va, wy, rfl, hSR⟩ := hS
  have hSim := hSR
  obtain ⟨hTx, ⟨⟨ht0, ht1, ht2, ht3⟩, ⟨hP, hC, hR, hL⟩, hhs, hcs, ga, gv, hg⟩, hRS, hI0, hI1, htr⟩ := hSR
  have hTd := hSim.2.1
  have hRS' := hRS
  obtain ⟨hK, hs168, hNw, hHi⟩ := hRS
  have hNw' := hNw
  obtain ⟨⟨hs0, hs1, hs2⟩, ⟨hD, hN, hsm⟩, hcel, hde, hke, hwho⟩ := hNw
  obtain ⟨cn, hce, hceM⟩ := NwR_cn hNw'
  have hru : ∀ j, j < R → td (26 + j) = nI (10 * ga j + gv j) ∧ ga j ≤ 7 ∧ gv j ≤ 7 := fun j hj => ⟨(hg j hj).2.2.1, (hg j hj).2.2.2.1, (hg j hj).2.2.2.2⟩
  have hgv : ∀ j, j < R → gs j = nI (ga j) ∧ vs j = nI (gv j) ∧ ga j ≤ 7 ∧ gv j ≤ 7 := fun j hj => ⟨(hg j hj).1, (hg j hj).2.1, (hg j hj).2.2.2.1, (hg j hj).2.2.2.2⟩
  by_cases hb : 1 ≤ x.toInt ∧ x.toInt ≤ 30 ∧ 0 ≤ y.toInt ∧ y.toInt ≤ 200
  · obtain ⟨q, eq, iq⟩ := toN (x := x) (by omega)
    subst eq
    obtain ⟨b, eb, ib⟩ := toN (x := y) (hb.2.2.1)
    subst eb
    have hq1 : 1 ≤ q := by omega
    have hq2 : q ≤ 30 := by omega
    have hb2 : b ≤ 200 := by omega
    exact opx (x_nearer hq1 hq2 hb2 hN hR) (m_nearer ht2 ht3 hs2 hR hN hru hq1 hq2 hb2) (congrArg Value.int (orB_c (fun a ha => by rw [(e_who (own := fun a => zown de N (nI a) (nI b) (nI q)) (by omega) hgv), (show (fun a => zown de N (nI a) (nI b) (nI q)) = (fun a => zown (fun q => s (9 + q)) N (nI a) (nI b) (nI q)) from funext (fun a => own_h hde _ _ _)), (e_who (own := fun a => zown de N (nI a) (nI b) (nI L)) (by omega) hgv), (show (fun a => zown de N (nI a) (nI b) (nI L)) = (fun a => zown (fun q => s (9 + q)) N (nI a) (nI b) (nI L)) from funext (fun a => own_h hde _ _ _))]))) (by decide) (by decide) (sim_mk hSim)
  · exact opx (x_nearer_bad hb) (m_nearer_bad hb) rfl (by decide) (by decide) (sim_mk hSim)
set_option maxHeartbeats 4000000 in
set_option maxRecDepth 100000 in
theorem s_hide {l : Launch} {H : zq_H} (hS : Sim H) (x y u : Int32) : Opx l mX11_hide mX12_hide [.int x, .int y, .int u] H := by
  obtain ⟨Z, P, C, R, L, D, N, K, tx, tx', hs, ss, cs, gs, vs, td, dr, rd, sm, ce, de, ke, se, s, i0, i1, kp, kp', im, dd, tr, tr', dr', at_, so, sr, va, wy, rfl, hSR⟩ := hS
  have hSim := hSR
  obtain ⟨hTx, ⟨⟨ht0, ht1, ht2, ht3⟩, ⟨hP, hC, hR, hL⟩, hhs, hcs, ga, gv, hg⟩, hRS, hI0, hI1, htr⟩ := hSR
  have hTd := hSim.2.1
  have hRS' := hRS
  obtain ⟨hK, hs168, hNw, hHi⟩ := hRS
  have hNw' := hNw
  obtain ⟨⟨hs0, hs1, hs2⟩, ⟨hD, hN, hsm⟩, hcel, hde, hke, hwho⟩ := hNw
  obtain ⟨cn, hce, hceM⟩ := NwR_cn hNw'
  have hru : ∀ j, j < R → td (26 + j) = nI (10 * ga j + gv j) ∧ ga j ≤ 7 ∧ gv j ≤ 7 := fun j hj => ⟨(hg j hj).2.2.1, (hg j hj).2.2.2.1, (hg j hj).2.2.2.2⟩
  have hgv : ∀ j, j < R → gs j = nI (ga j) ∧ vs j = nI (gv j) ∧ ga j ≤ 7 ∧ gv j ≤ 7 := fun j hj => ⟨(hg j hj).1, (hg j hj).2.1, (hg j hj).2.2.2.1, (hg j hj).2.2.2.2⟩
  by_cases hb : (0 ≤ x.toInt ∧ x.toInt < (zp2 P : Int)) ∧ (0 ≤ y.toInt ∧ y.toInt < (zp2 P : Int)) ∧ x &&& y = 0 ∧ 0 ≤ u.toInt ∧ u.toInt ≤ 1
  · obtain ⟨hx, hy, hxy, hu0, hu1⟩ := hb
    obtain ⟨q, eq, iq⟩ := toN (x := u) (hu0)
    subst eq
    have hCM : ∀ v c, nearN (colM P hs sm cn v c) cn P = nearN (colM P (fun j => td (6 + j)) sm cn v c) cn P ∧ farN (colM P hs sm cn v c) cn P = farN (colM P (fun j => td (6 + j)) sm cn v c) cn P := fun v c => ⟨nearN_c (fun p hp => by unfold colM; rw [bare_h hhs hp]), farN_c (fun p hp => by unfold colM; rw [bare_h hhs hp])⟩
    have hB : hdB P hs sm cn x y = hdB P (fun j => td (6 + j)) sm cn x y := funext (fun c => by unfold hdB; rw [(hCM x c).1, (hCM y c).2])
    have hLq : hdL P hs sm cn x y = hdL P (fun j => td (6 + j)) sm cn x y := by unfold hdL; rw [show (fun c => nearN (colM P hs sm cn x c) cn P) = _ from funext (fun c => (hCM x c).1), show (fun c => farN (colM P hs sm cn y c) cn P) = _ from funext (fun c => (hCM y c).2)]
    have kq : q = 0 ∨ q = 1 := by omega
    rcases kq with rfl | rfl
    · exact opx (x_hide_0 hP hce hx hy hxy) (m_hide_0 ht0 hs1 hP hceM hx hy hxy) (congrArg Value.int ((by rw [e_hide0 (e_least hP), hB, hLq]; rfl))) (by decide) (by decide) (sim_mk hSim)
    · exact opx (x_hide_1 hP hce hx hy hxy) (m_hide_1 ht0 hs1 hP hceM hx hy hxy) (congrArg Value.int (by rw [e_hide1 (e_least hP), hB, hLq]; rfl)) (by decide) (by decide) (sim_mk hSim)
  · exact opx (x_hide_bad hP hb) (m_hide_bad ht0 hP hb) rfl (by decide) (by decide) (sim_mk hSim)
set_option maxHeartbeats 4000000 in
set_option maxRecDepth 100000 in
theorem s_blocks {l : Launch} {H : zq_H} (hS : Sim H) (x y : Int32) : Opx l mX11_blocks mX12_blocks [.int x, .int y] H := by
  obtain ⟨Z, P, C, R, L, D, N, K, tx, tx', hs, ss, cs, gs, vs, td, dr, rd, sm, ce, de, ke, se, s, i0, i1, kp, kp', im, dd, tr, tr', dr', at_, so, sr, va, wy, rfl, hSR⟩ := hS
  have hSim := hSR
  obtain ⟨hTx, ⟨⟨ht0, ht1, ht2, ht3⟩, ⟨hP, hC, hR, hL⟩, hhs, hcs, ga, gv, hg⟩, hRS, hI0, hI1, htr⟩ := hSR
  have hTd := hSim.2.1
  have hRS' := hRS
  obtain ⟨hK, hs168, hNw, hHi⟩ := hRS
  have hNw' := hNw
  obtain ⟨⟨hs0, hs1, hs2⟩, ⟨hD, hN, hsm⟩, hcel, hde, hke, hwho⟩ := hNw
  obtain ⟨cn, hce, hceM⟩ := NwR_cn hNw'
  have hru : ∀ j, j < R → td (26 + j) = nI (10 * ga j + gv j) ∧ ga j ≤ 7 ∧ gv j ≤ 7 := fun j hj => ⟨(hg j hj).2.2.1, (hg j hj).2.2.2.1, (hg j hj).2.2.2.2⟩
  have hgv : ∀ j, j < R → gs j = nI (ga j) ∧ vs j = nI (gv j) ∧ ga j ≤ 7 ∧ gv j ≤ 7 := fun j hj => ⟨(hg j hj).1, (hg j hj).2.1, (hg j hj).2.2.2.1, (hg j hj).2.2.2.2⟩
  by_cases hb : (0 ≤ x.toInt ∧ x.toInt < (P : Int)) ∧ (0 ≤ y.toInt ∧ y.toInt < (P : Int)) ∧ ¬ x.toInt = y.toInt
  · obtain ⟨a, ea, ia⟩ := toN (x := x) (hb.1.1)
    subst ea
    obtain ⟨b, eb, ib⟩ := toN (x := y) (hb.2.1.1)
    subst eb
    have ha : a < P := by omega
    have hbP : b < P := by omega
    have hab : ¬ a = b := by omega
    by_cases hc : 25 ≤ cn b ∨ cn a = 26
    · exact opx (x_blocks_bad2 ha hbP hab hP hce hc) (m_blocks_bad2 ht0 hP hceM ha hbP hab hc) rfl (by decide) (by decide) (sim_mk hSim)
    · have hc2 : cn b < 25 ∧ ¬ cn a = 26 := by omega
      exact opx (x_blocks ha hbP hab hP hce hc2) (m_blocks ht0 hs1 hP hceM ha hbP hab hc2) (congrArg Value.int (orB_c (fun c hc => by rw [bare_h hhs hbP]))) (by decide) (by decide) (sim_mk hSim)
  · exact opx (x_blocks_bad hP hb) (m_blocks_bad ht0 hP hb) rfl (by decide) (by decide) (sim_mk hSim)
set_option maxHeartbeats 4000000 in
set_option maxRecDepth 100000 in
theorem s_hides {l : Launch} {H : zq_H} (hS : Sim H) (x : Int32) : Opx l mX11_hides mX12_hides [.int x] H := by
  obtain ⟨Z, P, C, R, L, D, N, K, tx, tx', hs, ss, cs, gs, vs, td, dr, rd, sm, ce, de, ke, se, s, i0, i1, kp, kp', im, dd, tr, tr', dr', at_, so, sr, va, wy, rfl, hSR⟩ := hS
  have hSim := hSR
  obtain ⟨hTx, ⟨⟨ht0, ht1, ht2, ht3⟩, ⟨hP, hC, hR, hL⟩, hhs, hcs, ga, gv, hg⟩, hRS, hI0, hI1, htr⟩ := hSR
  have hTd := hSim.2.1
  have hRS' := hRS
  obtain ⟨hK, hs168, hNw, hHi⟩ := hRS
  have hNw' := hNw
  obtain ⟨⟨hs0, hs1, hs2⟩, ⟨hD, hN, hsm⟩, hcel, hde, hke, hwho⟩ := hNw
  obtain ⟨cn, hce, hceM⟩ := NwR_cn hNw'
  have hru : ∀ j, j < R → td (26 + j) = nI (10 * ga j + gv j) ∧ ga j ≤ 7 ∧ gv j ≤ 7 := fun j hj => ⟨(hg j hj).2.2.1, (hg j hj).2.2.2.1, (hg j hj).2.2.2.2⟩
  have hgv : ∀ j, j < R → gs j = nI (ga j) ∧ vs j = nI (gv j) ∧ ga j ≤ 7 ∧ gv j ≤ 7 := fun j hj => ⟨(hg j hj).1, (hg j hj).2.1, (hg j hj).2.2.2.1, (hg j hj).2.2.2.2⟩
  by_cases hb : 0 ≤ x.toInt ∧ x.toInt < (P : Int)
  · obtain ⟨a, ea, ia⟩ := toN (x := x) (hb.1)
    subst ea
    have ha : a < P := by omega
    exact opx (x_hides ha hP hce) (m_hides ht0 hs1 hP hceM ha) (congrArg Value.int (by rw [e_hides hP ha]; exact orB_c (fun p hp => by rw [bare_h hhs hp, bare_h hhs hp]))) (by decide) (by decide) (sim_mk hSim)
  · exact opx (x_hides_bad hP hb) (m_hides_bad ht0 hP hb) rfl (by decide) (by decide) (sim_mk hSim)
set_option maxHeartbeats 4000000 in
set_option maxRecDepth 100000 in
theorem s_odds {l : Launch} {H : zq_H} (hS : Sim H) (x y u : Int32) : Opx l mX11_odds mX12_odds [.int x, .int y, .int u] H := by
  obtain ⟨Z, P, C, R, L, D, N, K, tx, tx', hs, ss, cs, gs, vs, td, dr, rd, sm, ce, de, ke, se, s, i0, i1, kp, kp', im, dd, tr, tr', dr', at_, so, sr, va, wy, rfl, hSR⟩ := hS
  have hSim := hSR
  obtain ⟨hTx, ⟨⟨ht0, ht1, ht2, ht3⟩, ⟨hP, hC, hR, hL⟩, hhs, hcs, ga, gv, hg⟩, hRS, hI0, hI1, htr⟩ := hSR
  have hTd := hSim.2.1
  have hRS' := hRS
  obtain ⟨hK, hs168, hNw, hHi⟩ := hRS
  have hNw' := hNw
  obtain ⟨⟨hs0, hs1, hs2⟩, ⟨hD, hN, hsm⟩, hcel, hde, hke, hwho⟩ := hNw
  obtain ⟨cn, hce, hceM⟩ := NwR_cn hNw'
  have hru : ∀ j, j < R → td (26 + j) = nI (10 * ga j + gv j) ∧ ga j ≤ 7 ∧ gv j ≤ 7 := fun j hj => ⟨(hg j hj).2.2.1, (hg j hj).2.2.2.1, (hg j hj).2.2.2.2⟩
  have hgv : ∀ j, j < R → gs j = nI (ga j) ∧ vs j = nI (gv j) ∧ ga j ≤ 7 ∧ gv j ≤ 7 := fun j hj => ⟨(hg j hj).1, (hg j hj).2.1, (hg j hj).2.2.2.1, (hg j hj).2.2.2.2⟩
  by_cases hb : 0 ≤ x.toInt ∧ x.toInt ≤ 10 ∧ 0 ≤ y.toInt ∧ y.toInt ≤ 9 ∧ 0 ≤ u.toInt ∧ u.toInt ≤ 1
  · obtain ⟨g1, g2, g3, g4, g5, g6⟩ := hb
    obtain ⟨a, ea, ia⟩ := toN (x := x) (g1)
    subst ea
    obtain ⟨k, ek, ik⟩ := toN (x := y) (g3)
    subst ek
    obtain ⟨q, eq, iq⟩ := toN (x := u) (g5)
    subst eq
    have hx : a ≤ 10 := by omega
    have hk : k ≤ 9 := by omega
    have kq : q = 0 ∨ q = 1 := by omega
    rcases kq with rfl | rfl
    · exact opx (x_odds_0 hx hk) (m_odds_0 hx hk) (congrArg Value.long (by rw [Nat.gcd_comm])) (by decide) (by decide) (sim_mk hSim)
    · exact opx (x_odds_1 hx hk) (m_odds_1 hx hk) (congrArg Value.long (by rw [Nat.gcd_comm])) (by decide) (by decide) (sim_mk hSim)
  · exact opx (x_odds_bad hb) (m_odds_bad hb) rfl (by decide) (by decide) (sim_mk hSim)
set_option maxHeartbeats 4000000 in
set_option maxRecDepth 100000 in
theorem s_often {l : Launch} {H : zq_H} (hS : Sim H) (x y : Int32) : Opx l mX11_often mX12_often [.int x, .int y] H := by
  obtain ⟨Z, P, C, R, L, D, N, K, tx, tx', hs, ss, cs, gs, vs, td, dr, rd, sm, ce, de, ke, se, s, i0, i1, kp, kp', im, dd, tr, tr', dr', at_, so, sr, va, wy, rfl, hSR⟩ := hS
  have hSim := hSR
  obtain ⟨hTx, ⟨⟨ht0, ht1, ht2, ht3⟩, ⟨hP, hC, hR, hL⟩, hhs, hcs, ga, gv, hg⟩, hRS, hI0, hI1, htr⟩ := hSR
  have hTd := hSim.2.1
  have hRS' := hRS
  obtain ⟨hK, hs168, hNw, hHi⟩ := hRS
  have hNw' := hNw
  obtain ⟨⟨hs0, hs1, hs2⟩, ⟨hD, hN, hsm⟩, hcel, hde, hke, hwho⟩ := hNw
  obtain ⟨cn, hce, hceM⟩ := NwR_cn hNw'
  have hru : ∀ j, j < R → td (26 + j) = nI (10 * ga j + gv j) ∧ ga j ≤ 7 ∧ gv j ≤ 7 := fun j hj => ⟨(hg j hj).2.2.1, (hg j hj).2.2.2.1, (hg j hj).2.2.2.2⟩
  have hgv : ∀ j, j < R → gs j = nI (ga j) ∧ vs j = nI (gv j) ∧ ga j ≤ 7 ∧ gv j ≤ 7 := fun j hj => ⟨(hg j hj).1, (hg j hj).2.1, (hg j hj).2.2.2.1, (hg j hj).2.2.2.2⟩
  by_cases hb : 0 ≤ x.toInt ∧ x.toInt ≤ 10 ∧ 0 ≤ y.toInt ∧ y.toInt ≤ 10
  · obtain ⟨g1, g2, g3, g4⟩ := hb
    obtain ⟨a, ea, ia⟩ := toN (x := x) (g1)
    subst ea
    obtain ⟨b, eb, ib⟩ := toN (x := y) (g3)
    subst eb
    have hx : a ≤ 10 := by omega
    have hy : b ≤ 10 := by omega
    exact opx (x_often hx hy) (m_often hx hy) rfl (by decide) (by decide) (sim_mk hSim)
  · exact opx (x_often_bad hb) (m_often_bad hb) rfl (by decide) (by decide) (sim_mk hSim)
set_option maxHeartbeats 4000000 in
set_option maxRecDepth 100000 in
theorem s_stood {l : Launch} {H : zq_H} (hS : Sim H) (x y : Int32) : Opx l mX11_stood mX12_stood [.int x, .int y] H := by
  obtain ⟨Z, P, C, R, L, D, N, K, tx, tx', hs, ss, cs, gs, vs, td, dr, rd, sm, ce, de, ke, se, s, i0, i1, kp, kp', im, dd, tr, tr', dr', at_, so, sr, va, wy, rfl, hSR⟩ := hS
  have hSim := hSR
  obtain ⟨hTx, ⟨⟨ht0, ht1, ht2, ht3⟩, ⟨hP, hC, hR, hL⟩, hhs, hcs, ga, gv, hg⟩, hRS, hI0, hI1, htr⟩ := hSR
  have hTd := hSim.2.1
  have hRS' := hRS
  obtain ⟨hK, hs168, hNw, hHi⟩ := hRS
  have hNw' := hNw
  obtain ⟨⟨hs0, hs1, hs2⟩, ⟨hD, hN, hsm⟩, hcel, hde, hke, hwho⟩ := hNw
  obtain ⟨cn, hce, hceM⟩ := NwR_cn hNw'
  have hru : ∀ j, j < R → td (26 + j) = nI (10 * ga j + gv j) ∧ ga j ≤ 7 ∧ gv j ≤ 7 := fun j hj => ⟨(hg j hj).2.2.1, (hg j hj).2.2.2.1, (hg j hj).2.2.2.2⟩
  have hgv : ∀ j, j < R → gs j = nI (ga j) ∧ vs j = nI (gv j) ∧ ga j ≤ 7 ∧ gv j ≤ 7 := fun j hj => ⟨(hg j hj).1, (hg j hj).2.1, (hg j hj).2.2.2.1, (hg j hj).2.2.2.2⟩
  by_cases hb : 0 ≤ x.toInt ∧ x.toInt < (D : Int) ∧ 1 ≤ y.toInt ∧ y.toInt ≤ 9
  · obtain ⟨g1, g2, g3, g4⟩ := hb
    obtain ⟨b, eb, ib⟩ := toN (x := x) (g1)
    subst eb
    obtain ⟨q, eq, iq⟩ := toN (x := y) (by omega)
    subst eq
    have hb2 : b < D := by omega
    have hq1 : 1 ≤ q := by omega
    have hq2 : q ≤ 9 := by omega
    exact opx (x_stood hb2 hq1 hq2 hD hP) (m_stood hs0 ht0 hD hP hb2 hq1 hq2) (congrArg Value.int (by rw [e_stood hP, hke b hb2]; exact orK_c (fun p hp => by rw [hhs p hp]))) (by decide) (by decide) (sim_mk hSim)
  · exact opx (x_stood_bad hD hb) (m_stood_bad hs0 hD hb) rfl (by decide) (by decide) (sim_mk hSim)
set_option maxHeartbeats 4000000 in
set_option maxRecDepth 100000 in
theorem s_days {l : Launch} {H : zq_H} (hS : Sim H) (x y : Int32) : Opx l mX11_days mX12_days [.int x, .int y] H := by
  obtain ⟨Z, P, C, R, L, D, N, K, tx, tx', hs, ss, cs, gs, vs, td, dr, rd, sm, ce, de, ke, se, s, i0, i1, kp, kp', im, dd, tr, tr', dr', at_, so, sr, va, wy, rfl, hSR⟩ := hS
  have hSim := hSR
  obtain ⟨hTx, ⟨⟨ht0, ht1, ht2, ht3⟩, ⟨hP, hC, hR, hL⟩, hhs, hcs, ga, gv, hg⟩, hRS, hI0, hI1, htr⟩ := hSR
  have hTd := hSim.2.1
  have hRS' := hRS
  obtain ⟨hK, hs168, hNw, hHi⟩ := hRS
  have hNw' := hNw
  obtain ⟨⟨hs0, hs1, hs2⟩, ⟨hD, hN, hsm⟩, hcel, hde, hke, hwho⟩ := hNw
  obtain ⟨cn, hce, hceM⟩ := NwR_cn hNw'
  have hru : ∀ j, j < R → td (26 + j) = nI (10 * ga j + gv j) ∧ ga j ≤ 7 ∧ gv j ≤ 7 := fun j hj => ⟨(hg j hj).2.2.1, (hg j hj).2.2.2.1, (hg j hj).2.2.2.2⟩
  have hgv : ∀ j, j < R → gs j = nI (ga j) ∧ vs j = nI (gv j) ∧ ga j ≤ 7 ∧ gv j ≤ 7 := fun j hj => ⟨(hg j hj).1, (hg j hj).2.1, (hg j hj).2.2.2.1, (hg j hj).2.2.2.2⟩
  by_cases hb : 0 ≤ x.toInt ∧ x.toInt < (P : Int) ∧ 0 ≤ y.toInt ∧ y.toInt ≤ 2
  · obtain ⟨g1, g2, g3, g4⟩ := hb
    obtain ⟨a, ea, ia⟩ := toN (x := x) (g1)
    subst ea
    obtain ⟨q, eq, iq⟩ := toN (x := y) (g3)
    subst eq
    have ha : a < P := by omega
    have kq : q = 0 ∨ q = 1 ∨ q = 2 := by omega
    rcases kq with rfl | rfl | rfl
    · exact opx (x_days_0 ha hP hD) (m_days_0 ht0 hs0 hP hD ha) (congrArg Value.int (congrArg nI (zct_c (fun d hd => by rw [hke d hd]; exact decide_eq_decide.mpr (e_one (by omega)))))) (by decide) (by decide) (sim_mk hSim)
    · exact opx (x_days_1 ha hP hD) (m_days_1 ht0 hs0 hP hD ha) (congrArg Value.int (zfs_c (fun d hd => ⟨by rw [hke d hd], rfl⟩))) (by decide) (by decide) (sim_mk hSim)
    · exact opx (x_days_2 ha hP hD) (m_days_2 ht0 hs0 hP hD ha) (congrArg Value.int (zls_c (fun d hd => ⟨by rw [hke d hd], rfl⟩))) (by decide) (by decide) (sim_mk hSim)
  · exact opx (x_days_bad hP hb) (m_days_bad ht0 hP hb) rfl (by decide) (by decide) (sim_mk hSim)
set_option maxHeartbeats 4000000 in
set_option maxRecDepth 100000 in
theorem s_together {l : Launch} {H : zq_H} (hS : Sim H) (x : Int32) : Opx l mX11_together mX12_together [.int x] H := by
  obtain ⟨Z, P, C, R, L, D, N, K, tx, tx', hs, ss, cs, gs, vs, td, dr, rd, sm, ce, de, ke, se, s, i0, i1, kp, kp', im, dd, tr, tr', dr', at_, so, sr, va, wy, rfl, hSR⟩ := hS
  have hSim := hSR
  obtain ⟨hTx, ⟨⟨ht0, ht1, ht2, ht3⟩, ⟨hP, hC, hR, hL⟩, hhs, hcs, ga, gv, hg⟩, hRS, hI0, hI1, htr⟩ := hSR
  have hTd := hSim.2.1
  have hRS' := hRS
  obtain ⟨hK, hs168, hNw, hHi⟩ := hRS
  have hNw' := hNw
  obtain ⟨⟨hs0, hs1, hs2⟩, ⟨hD, hN, hsm⟩, hcel, hde, hke, hwho⟩ := hNw
  obtain ⟨cn, hce, hceM⟩ := NwR_cn hNw'
  have hru : ∀ j, j < R → td (26 + j) = nI (10 * ga j + gv j) ∧ ga j ≤ 7 ∧ gv j ≤ 7 := fun j hj => ⟨(hg j hj).2.2.1, (hg j hj).2.2.2.1, (hg j hj).2.2.2.2⟩
  have hgv : ∀ j, j < R → gs j = nI (ga j) ∧ vs j = nI (gv j) ∧ ga j ≤ 7 ∧ gv j ≤ 7 := fun j hj => ⟨(hg j hj).1, (hg j hj).2.1, (hg j hj).2.2.2.1, (hg j hj).2.2.2.2⟩
  by_cases hb : 0 ≤ x.toInt ∧ x.toInt < (zp2 P : Int)
  · exact opx (x_together hP hD hb) (m_together ht0 hs0 hP hD hb) (congrArg Value.int (congrArg nI (zct_c (fun d hd => by rw [hke d hd]; exact decide_eq_decide.mpr e_tog)))) (by decide) (by decide) (sim_mk hSim)
  · exact opx (x_together_bad hP hb) (m_together_bad ht0 hP hb) rfl (by decide) (by decide) (sim_mk hSim)
set_option maxHeartbeats 4000000 in
set_option maxRecDepth 100000 in
theorem s_count {l : Launch} {H : zq_H} (hS : Sim H) (x : Int32) : Opx l mX11_count mX12_count [.int x] H := by
  obtain ⟨Z, P, C, R, L, D, N, K, tx, tx', hs, ss, cs, gs, vs, td, dr, rd, sm, ce, de, ke, se, s, i0, i1, kp, kp', im, dd, tr, tr', dr', at_, so, sr, va, wy, rfl, hSR⟩ := hS
  have hSim := hSR
  obtain ⟨hTx, ⟨⟨ht0, ht1, ht2, ht3⟩, ⟨hP, hC, hR, hL⟩, hhs, hcs, ga, gv, hg⟩, hRS, hI0, hI1, htr⟩ := hSR
  have hTd := hSim.2.1
  have hRS' := hRS
  obtain ⟨hK, hs168, hNw, hHi⟩ := hRS
  have hNw' := hNw
  obtain ⟨⟨hs0, hs1, hs2⟩, ⟨hD, hN, hsm⟩, hcel, hde, hke, hwho⟩ := hNw
  obtain ⟨cn, hce, hceM⟩ := NwR_cn hNw'
  have hru : ∀ j, j < R → td (26 + j) = nI (10 * ga j + gv j) ∧ ga j ≤ 7 ∧ gv j ≤ 7 := fun j hj => ⟨(hg j hj).2.2.1, (hg j hj).2.2.2.1, (hg j hj).2.2.2.2⟩
  have hgv : ∀ j, j < R → gs j = nI (ga j) ∧ vs j = nI (gv j) ∧ ga j ≤ 7 ∧ gv j ≤ 7 := fun j hj => ⟨(hg j hj).1, (hg j hj).2.1, (hg j hj).2.2.2.1, (hg j hj).2.2.2.2⟩
  by_cases hb : x.toInt < 0 ∨ 5 < x.toInt
  · exact opx (x_count_bad hb) (m_count_bad hb) rfl (by decide) (by decide) (sim_mk hSim)
  · obtain ⟨q, eq, iq⟩ := toN (x := x) (by omega)
    subst eq
    have kq : q = 0 ∨ q = 1 ∨ q = 2 ∨ q = 3 ∨ q = 4 ∨ q = 5 := by omega
    rcases kq with rfl | rfl | rfl | rfl | rfl | rfl
    · exact opx (x_count_0) (m_count_0 ht0) rfl (by decide) (by decide) (sim_mk hSim)
    · exact opx (x_count_1) (m_count_1 ht1) rfl (by decide) (by decide) (sim_mk hSim)
    · exact opx (x_count_2) (m_count_2 ht2) rfl (by decide) (by decide) (sim_mk hSim)
    · exact opx (x_count_3) (m_count_3 hs2) rfl (by decide) (by decide) (sim_mk hSim)
    · exact opx (x_count_4) (m_count_4 hs168) rfl (by decide) (by decide) (sim_mk hSim)
    · exact opx (x_count_5) (m_count_5) rfl (by decide) (by decide) (sim_mk hSim)
set_option maxHeartbeats 4000000 in
set_option maxRecDepth 100000 in
theorem s_trace {l : Launch} {H : zq_H} (hS : Sim H) : Opx l mX11_trace mX12_trace [] H := by
  obtain ⟨Z, P, C, R, L, D, N, K, tx, tx', hs, ss, cs, gs, vs, td, dr, rd, sm, ce, de, ke, se, s, i0, i1, kp, kp', im, dd, tr, tr', dr', at_, so, sr, va, wy, rfl, hSR⟩ := hS
  have hSim := hSR
  obtain ⟨hTx, ⟨⟨ht0, ht1, ht2, ht3⟩, ⟨hP, hC, hR, hL⟩, hhs, hcs, ga, gv, hg⟩, hRS, hI0, hI1, htr⟩ := hSR
  have hTd := hSim.2.1
  have hRS' := hRS
  obtain ⟨hK, hs168, hNw, hHi⟩ := hRS
  have hNw' := hNw
  obtain ⟨⟨hs0, hs1, hs2⟩, ⟨hD, hN, hsm⟩, hcel, hde, hke, hwho⟩ := hNw
  obtain ⟨cn, hce, hceM⟩ := NwR_cn hNw'
  have hru : ∀ j, j < R → td (26 + j) = nI (10 * ga j + gv j) ∧ ga j ≤ 7 ∧ gv j ≤ 7 := fun j hj => ⟨(hg j hj).2.2.1, (hg j hj).2.2.2.1, (hg j hj).2.2.2.2⟩
  have hgv : ∀ j, j < R → gs j = nI (ga j) ∧ vs j = nI (gv j) ∧ ga j ≤ 7 ∧ gv j ≤ 7 := fun j hj => ⟨(hg j hj).1, (hg j hj).2.1, (hg j hj).2.2.2.1, (hg j hj).2.2.2.2⟩
  exact opx (x_trace) (m_trace) (congrArg Value.long (htr)) (by decide) (by decide) (sim_mk hSim)
