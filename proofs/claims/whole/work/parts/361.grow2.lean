section ZK2
variable {l : Launch} {M : zq_M} {d nc ns : Nat} {f' f : Bool} {h' : zq_H} {pc pc' ce sl : Nat} {ls : List (Nat × Value)} {st : List Value} {h h2 : zq_H}
theorem zk_newq (t n : Nat) {idx : Nat} {C : String} {x : Int32} {N : Nat} (hd : decode M.2.2.1 pc = .ok (.anewarray idx, 3)) (ht : (C = RX5 ∧ t = 2) ∨ (C = RX6 ∧ t = 3)) (hw : Cond.classLink (zq_cn M.1) idx C ∈ zq_g) (hx : ¬ x < 0 ∧ x.toNatClampNeg = N ∧ N * 4 ≤ 536870912) (hn : h.length = n) (he : h ++ [(.inl (t, N, .inr (.inr (.inr (.inr (fun _ => none))))) : zq_C)] = h2) (hb : ce + 1 ≤ nc ∧ sl + N ≤ ns) (hp : pc + 3 = pc') (kk : zk_G l M d nc ns f' h' pc' (ce + 1) (sl + N) true (ls, .ref n :: st, h2)) : zk_G l M d nc ns f' h' pc ce sl true (ls, .int x :: st, h) := by
  subst hp; subst hn; subst he
  intro p e s m args below meth c N0 D cy A H locs la hX hz hP hD hS hl
  replace hz : H.size = N0 + h.length := hz rfl
  have hts := hX.1.2.2.2.2.2.2.1
  have hK := hX.1.2.2.2.2.2.2.2.1
  have hAO : va_AO C s := by
    rcases ht with ⟨rfl, -⟩ | ⟨rfl, -⟩
    · exact hX.2.2.1.2.2.1
    · exact hX.2.2.1.2.2.2
  obtain ⟨hx1, hx2, hx3⟩ := hx
  subst hx2
  refine W.anew hX.1.1 hX.1.2.1 hX.1.2.2.2.2.2.1 (hts _ hw) (va_AO.use hAO) rfl hd rfl hx1 hx3 hb.1 hb.2 fun cA kA comp f1 f2 f3 f4 => ?_
  rw [hz]
  generalize hH1 : H.push ({ cls := cA, slots := Array.replicate x.toNatClampNeg .null, vm := .none } : Cell) = H1
  have z1 : H1.size = N0 + h.length + 1 := by rw [← hH1, Array.size_push, hz]
  have e1 : H1[N0 + h.length]? = some (arrV cA x.toNatClampNeg (fun _ => .null)) := by rw [← hH1, ← hz, Array.getElem?_push_size, ← arrV_new]
  have o1 : ∀ q : Nat, q < N0 + h.length → H1[q]? = H[q]? := fun q hq => by rw [← hH1, Array.getElem?_push, if_neg (by rw [hz]; exact Nat.ne_of_lt hq)]
  have hk : ∀ (k : Nat) (x : Nat × va_E), (zq_w (zk_ad N0) cy h)[k]? = some x → H1[x.1]? = H[x.1]? := fun k x hx => o1 x.1 (by have := (hP k x hx).lt; rw [hz] at this; exact this)
  have hcA : cA = cy t := by
    rcases ht with ⟨rfl, rfl⟩ | ⟨rfl, rfl⟩
    · obtain ⟨_, _, -, -, -, hra⟩ : va_RA s (cy 2) (.object RX5) := (hK.2 2 _ rfl).2
      exact Option.some.inj (f1.symm.trans hra)
    · obtain ⟨_, _, -, -, -, hra⟩ : va_RA s (cy 3) (.object RX6) := (hK.2 3 _ rfl).2
      exact Option.some.inj (f1.symm.trans hra)
  subst hcA
  have hwe : zq_w (zk_ad N0) cy (h ++ [(.inl (t, x.toNatClampNeg, .inr (.inr (.inr (.inr (fun _ => none))))) : zq_C)]) = zq_w (zk_ad N0) cy h ++ [(N0 + h.length, .inl (cy t, x.toNatClampNeg, .inr (.inr (.inr (.inr (fun _ => none))))))] := zk_w_app _ _ _ _
  refine kk p e s m args below meth c N0 D cy A H1 locs la hX (fun _ => by rw [z1, List.length_append]; rfl) ?_ ?_ ⟨Nat.le_trans hS.1 (by rw [z1, hz]; omega), fun x h1 h2 => (o1 x (by have := Nat.lt_of_lt_of_le h1 hS.1; rw [hz] at this; exact this)).trans (hS.2.1 x h1 h2), hS.2.2⟩ hl
  · show va_P D vwCl (zq_w (zk_ad N0) cy (h ++ [(.inl (t, x.toNatClampNeg, .inr (.inr (.inr (.inr (fun _ => none))))) : zq_C)])) H1
    rw [hwe]
    refine (hP.kept hk).app (fun k x hx => ?_)
    have hq : k < 1 := (List.getElem?_eq_some_iff.mp hx).1
    rw [show k = 0 by omega] at hx
    cases hx
    exact e1
  · show va_D A (zq_w (zk_ad N0) cy (h ++ [(.inl (t, x.toNatClampNeg, .inr (.inr (.inr (.inr (fun _ => none))))) : zq_C)]))
    rw [hwe]
    exact hD.push hP hz.symm (hX.2.2.2 _ (by rw [← hz]; exact hS.1))
/-- a field of a reference, final, in its constructor -/
theorem zk_putF (ci k : Nat) {idx a x : Nat} {fs : List Value} {v0 : Value} (hd : decode M.2.2.1 pc = .ok (.putfield idx, 3)) (hf : (M.1, idx, ci, k) ∈ zq_fl) (hh : zq_hp h a = some (.inr (ci, fs))) (hv : zq_fd fs k = some v0) (hq : ((vwCl.getD ci ("", fun _ => ("", "", "", false), 0)).2.1 k).2.2.2 = true ∧ ((vwCl.getD ci ("", fun _ => ("", "", "", false), 0)).2.1 k).1 = zq_cn M.1) (ht : ∀ y, narrow (zq_ty ci k) (.ref y) = .ref y ∧ fits (zq_ty ci k) (.ref y) = true) (he : h.set a (.inr (ci, fs.set k (.ref x))) = h2) (hp : pc + 3 = pc') (kk : zk_G l M d nc ns f' h' pc' ce sl f (ls, st, h2)) : zk_G l M d nc ns f' h' pc ce sl f (ls, .ref x :: .ref a :: st, h) := by
  subst hp; subst he
  intro p e s m args below meth c N0 D cy A H locs la hX hz hP hD hS hl
  have hts := hX.1.2.2.2.2.2.2.1
  have hK := hX.1.2.2.2.2.2.2.2.1
  rw [zq_hp_eq] at hh
  obtain ⟨C, T, N, g1, g2, g3⟩ := zq_fl_at hf
  have hg : vwCl.getD ci ("", fun _ => ("", "", "", false), 0) = (C, T, N) := by rw [List.getD_eq_getElem?_getD, g1]; rfl
  rw [hg] at hq
  have hw := zq_w_at (ad := zk_ad N0) (cy := cy) hh
  have hap := va_apart (own := zq_cn M.1) hts (zq_us g1) (zq_ty ci) (zq_ty_ok g1) (zq_nm_ok g1) hK g1
  obtain ⟨r, h1, cell, q1, q2, q3, q4⟩ := hP a _ hw
  have hr : r = (C, T, N) := Option.some.inj (h1.symm.trans g1)
  subst hr
  obtain ⟨hSl, hfc, kC, hkC, hkind⟩ := hK.1 ci _ g1
  obtain ⟨cf, kf, fi, fd, hi, hsl⟩ := hSl k g2
  have hlay := hts _ (zq_us g1 _ (u_in_lay g2))
  unfold u_lay at hlay
  rw [if_pos hq.1] at hlay
  have hst := (u_facts hfc hkC (u_lays hts (zq_us g1) g2) hi).1
  have hcf : m.cls = cf := by
    obtain ⟨_, _, c', _, _, _, -, -, hf', -, -, -, hown2, -⟩ := Cond.laysFinal_spec hlay
    have e1 : c' = cf := by have := hi.symm.trans hf'; simp at this; exact this.1.symm
    have hq2 : (T k).1 = zq_cn M.1 := hq.2
    rw [hq2] at hown2
    rw [← e1]; exact Option.some.inj (hX.1.2.2.2.2.2.1.symm.trans hown2)
  have h6 := u_fits hfc hkC hkind (Or.inr hlay) hi (zq_ty_ok g1 k g2) (ht (zk_ad N0 x)).1 (ht (zk_ad N0 x)).2
  refine W.putFinK hX.1.1 hX.1.2.1 hX.1.2.2.2.2.2.1 (hts _ g3) hi hst hcf hX.2.1 (by rw [q2]; exact h6) q1 q3 (by rw [hsl]; exact k2_hasslot (q4 k g2)) rfl rfl hd fun H' e1 e2 e3 => ?_
  rw [hsl] at e1 ⊢
  have hlen : k < (fs.map (zq_v (zk_ad N0))).length := by rw [List.length_map]; exact zq_len fs hv
  have hce : zq_c (zk_ad N0) cy (.inr (ci, fs.set k (.ref x))) = .inr (ci, (fs.map (zq_v (zk_ad N0))).set k (.ref (zk_ad N0 x))) := by
    show Sum.inr (ci, (fs.set k (.ref x)).map (zq_v (zk_ad N0))) = _
    rw [List.map_set]; rfl
  have hwe := zq_w_set (zk_ad N0) cy h a (.inr (ci, fs.set k (.ref x)))
  rw [hce] at hwe
  refine kk p e s m args below meth c N0 D cy A H' _ la hX (fun q => by rw [e2, hz q, List.length_set]) ?_ ?_ (hS.put e2 e3 (hD.2 a _ hw)) hl
  · show va_P D vwCl (zq_w (zk_ad N0) cy (h.set a (.inr (ci, fs.set k (.ref x))))) H'
    rw [← hwe]
    exact hP.set hD hw ⟨_, g1, t_OB.to (V := updV (vp_V (fs.map (zq_v (zk_ad N0)))) k (.ref (zk_ad N0 x))) ⟨_, e1, q2, q3, t_set q4 hap g2 _⟩ (fun j _ => vp_updV_set hlen _ j)⟩ e3
  · show va_D A (zq_w (zk_ad N0) cy (h.set a (.inr (ci, fs.set k (.ref x)))))
    rw [← hwe]
    exact hD.set hw
/-- a field of ints that isn't final -/
theorem zk_puti (ci k : Nat) {idx a : Nat} {x : Int32} {fs : List Value} {v0 : Value} (hd : decode M.2.2.1 pc = .ok (.putfield idx, 3)) (hf : (M.1, idx, ci, k) ∈ zq_fl) (hh : zq_hp h a = some (.inr (ci, fs))) (hv : zq_fd fs k = some v0) (hq : ((vwCl.getD ci ("", fun _ => ("", "", "", false), 0)).2.1 k).2.2.2 = false) (ht : zq_ty ci k = .int) (he : h.set a (.inr (ci, fs.set k (.int x))) = h2) (hp : pc + 3 = pc') (kk : zk_G l M d nc ns f' h' pc' ce sl f (ls, st, h2)) : zk_G l M d nc ns f' h' pc ce sl f (ls, .int x :: .ref a :: st, h) := by
  subst hp; subst he
  intro p e s m args below meth c N0 D cy A H locs la hX hz hP hD hS hl
  have hts := hX.1.2.2.2.2.2.2.1
  have hK := hX.1.2.2.2.2.2.2.2.1
  rw [zq_hp_eq] at hh
  obtain ⟨C, T, N, g1, g2, g3⟩ := zq_fl_at hf
  have hg : vwCl.getD ci ("", fun _ => ("", "", "", false), 0) = (C, T, N) := by rw [List.getD_eq_getElem?_getD, g1]; rfl
  rw [hg] at hq
  have hw := zq_w_at (ad := zk_ad N0) (cy := cy) hh
  have hap := va_apart (own := zq_cn M.1) hts (zq_us g1) (zq_ty ci) (zq_ty_ok g1) (zq_nm_ok g1) hK g1
  obtain ⟨r, h1, cell, q1, q2, q3, q4⟩ := hP a _ hw
  have hr : r = (C, T, N) := Option.some.inj (h1.symm.trans g1)
  subst hr
  obtain ⟨hSl, hfc, kC, hkC, hkind⟩ := hK.1 ci _ g1
  obtain ⟨cf, kf, fi, fd, hi, hsl⟩ := hSl k g2
  have hlay := hts _ (zq_us g1 _ (u_in_lay g2))
  unfold u_lay at hlay
  rw [if_neg (by rw [show (T k).2.2.2 = false from hq]; decide)] at hlay
  have hst := (u_facts hfc hkC (u_lays hts (zq_us g1) g2) hi).1
  have h6 := u_store (v := .int x) hfc hkC hkind hlay hi (by rw [zq_ty_ok g1 k g2, ht]) rfl rfl
  refine W.putK hX.1.1 hX.1.2.1 (f := fd) ⟨hX.1.2.2.2.2.2.1, hts _ g3, ⟨_, _, _, hi⟩, hst⟩ (by rw [q2]; exact h6) q1 q3 (by rw [hsl]; exact k2_hasslot (q4 k g2)) rfl rfl hd fun H' e1 e2 e3 => ?_
  rw [hsl] at e1 ⊢
  have hlen : k < (fs.map (zq_v (zk_ad N0))).length := by rw [List.length_map]; exact zq_len fs hv
  have hce : zq_c (zk_ad N0) cy (.inr (ci, fs.set k (.int x))) = .inr (ci, (fs.map (zq_v (zk_ad N0))).set k (.int x)) := by
    show Sum.inr (ci, (fs.set k (.int x)).map (zq_v (zk_ad N0))) = _
    rw [List.map_set]; rfl
  have hwe := zq_w_set (zk_ad N0) cy h a (.inr (ci, fs.set k (.int x)))
  rw [hce] at hwe
  refine kk p e s m args below meth c N0 D cy A H' _ la hX (fun q => by rw [e2, hz q, List.length_set]) ?_ ?_ (hS.put e2 e3 (hD.2 a _ hw)) hl
  · show va_P D vwCl (zq_w (zk_ad N0) cy (h.set a (.inr (ci, fs.set k (.int x))))) H'
    rw [← hwe]
    exact hP.set hD hw ⟨_, g1, t_OB.to (V := updV (vp_V (fs.map (zq_v (zk_ad N0)))) k (.int x)) ⟨_, e1, q2, q3, t_set q4 hap g2 _⟩ (fun j _ => vp_updV_set hlen _ j)⟩ e3
  · show va_D A (zq_w (zk_ad N0) cy (h.set a (.inr (ci, fs.set k (.int x)))))
    rw [← hwe]
    exact hD.set hw
theorem zk_up (ad : Nat → Nat) (g : Nat → Option Nat) (j v : Nat) : va_up (fun q => (g q).map ad) j (some (ad v)) = fun q => (va_up g j (some v) q).map ad := by
  funext q
  unfold va_up
  by_cases hq : q = j <;> simp [hq]
/-- an element of an array of references -/
theorem zk_ast (t ci j : Nat) {a v N : Nat} {x : Int32} {g g2 : Nat → Option Nat} {vs : List Value} {r : vw_C} (hd : decode M.2.2.1 pc = .ok (.aastore, 1)) (hh : zq_hp h a = some (.inl (t, N, .inr (.inr (.inr (.inr g)))))) (hv : zq_hp h v = some (.inr (ci, vs))) (hc : vwCl[ci]? = some r) (ht : (r.1 = RX5 ∧ t = 2) ∨ (r.1 = RX6 ∧ t = 3) ∨ (r.1 ∈ [RX7, RX3, RX4, RX2, RX10] ∧ t = 3)) (hx : x = nI j ∧ j < N ∧ j < 2147483648) (hg : ∀ q, va_up g j (some v) q = g2 q) (he : h.set a (.inl (t, N, .inr (.inr (.inr (.inr g2))))) = h2) (hp : pc + 1 = pc') (kk : zk_G l M d nc ns f' h' pc' ce sl f (ls, st, h2)) : zk_G l M d nc ns f' h' pc ce sl f (ls, .ref v :: .int x :: .ref a :: st, h) := by
  obtain ⟨rfl, hj1, hj2⟩ := hx
  have hg' : va_up g j (some v) = g2 := funext hg
  subst hp; subst he; subst hg'
  intro p e s m args below meth c N0 D cy A H locs la hX hz hP hD hS hl
  have hts := hX.1.2.2.2.2.2.2.1
  have hK := hX.1.2.2.2.2.2.2.2.1
  rw [zq_hp_eq] at hh hv
  have hwa := zq_w_at (ad := zk_ad N0) (cy := cy) hh
  have hwv := zq_w_at (ad := zk_ad N0) (cy := cy) hv
  obtain ⟨r', hr', cellV, g1, g2', g3, -⟩ := hP v _ hwv
  have hcls := (hK.1 ci r hc).2
  have hin : vp_in (nI j) N := vp_in_iff.mpr (by rw [nI_toInt hj2]; omega)
  have hlt : (nI j).toNatClampNeg < N := Nat.not_le.mp fun q => hin (Or.inr q)
  have h0 : ¬ (nI j) < 0 := fun q => hin (Or.inl q)
  obtain ⟨kC, hkC, -⟩ := hcls.2
  obtain ⟨kA, comp, E, k1, k2, kE, hkE, has⟩ : ∃ (kA : Class) (comp : ClassId) (E : String), s.vm.classes[cy t]? = some kA ∧ kA.kind = .array comp (.object E) ∧ ∃ kE : Class, s.vm.classes[comp]? = some kE ∧ s.vm.assignable (D.1 ci) comp = true := by
    rcases ht with ⟨e5, rfl⟩ | ⟨e6, rfl⟩ | ⟨em, rfl⟩
    · obtain ⟨kA, comp, k1, k2, k3, -⟩ : va_RA s (cy 2) (.object RX5) := (hK.2 2 _ rfl).2
      rw [← e5] at k3
      have hcomp : comp = D.1 ci := Option.some.inj (k3.symm.trans hcls.1)
      subst hcomp
      exact ⟨kA, _, _, k1, k2, kC, hkC, va_assign hcls⟩
    · obtain ⟨kA, comp, k1, k2, k3, -⟩ : va_RA s (cy 3) (.object RX6) := (hK.2 3 _ rfl).2
      rw [← e6] at k3
      have hcomp : comp = D.1 ci := Option.some.inj (k3.symm.trans hcls.1)
      subst hcomp
      exact ⟨kA, _, _, k1, k2, kC, hkC, va_assign hcls⟩
    · obtain ⟨kA, comp, k1, k2, k3, -⟩ : va_RA s (cy 3) (.object RX6) := (hK.2 3 _ rfl).2
      obtain ⟨kE, hkE, -⟩ := Vm.findClass_spec k3
      obtain ⟨c0, t1, f1, f2, f3⟩ := Cond.castable_spec (va_Nw.use (A := args) rfl (hX.2.2.1.2.1 r.1 em))
      cases hcls.1.symm.trans f1
      cases k3.symm.trans f2
      exact ⟨kA, _, _, k1, k2, kE, hkE, f3⟩
  refine W.aast hX.1.1 hX.1.2.1 (hP a _ hwa) (fun q h => by cases h) (fun h => by cases h) k1 k2 rfl hkE ⟨h0, by show _ < (arrV _ _ _).slots.size; rw [arrV_size]; exact hlt⟩ g1 (fun q h => by rw [g3] at h; cases h) (by rw [g2']; exact hkC) (by rw [g2']; exact has) rfl rfl hd fun H1 e1 z1 oq => ?_
  have hwe := zq_w_set (zk_ad N0) cy h a (.inl (t, N, .inr (.inr (.inr (.inr (va_up g j (some v)))))))
  refine kk p e s m args below meth c N0 D cy A H1 _ la hX (fun q => by rw [z1, hz q, List.length_set]) ?_ ?_ (hS.put z1 oq (hD.2 a _ hwa)) hl
  · show va_P D vwCl (zq_w (zk_ad N0) cy (h.set a (.inl (t, N, .inr (.inr (.inr (.inr (va_up g j (some v))))))))) H1
    rw [← hwe]
    refine hP.set hD hwa ?_ oq
    show H1[zk_ad N0 a]? = some (vp_cell (cy t) (N, .inr (.inr (.inr (.inr (fun q => (va_up g j (some v) q).map (zk_ad N0)))))))
    rw [e1, ← zk_up]
    show some ((vp_cell (cy t) (N, .inr (.inr (.inr (.inr (fun q => (g q).map (zk_ad N0))))))).setSlot _ _) = _
    rw [vp_cell_q, vp_cell_q, arrV_store, nI_clamp hj2]
    congr 2
    funext q
    by_cases hq : q = j
    · subst hq
      simp [updV, va_up, va_rf]
    · simp [updV, va_up, hq]
  · show va_D A (zq_w (zk_ad N0) cy (h.set a (.inl (t, N, .inr (.inr (.inr (.inr (va_up g j (some v)))))))))
    rw [← hwe]
    exact hD.set hwa
variable {M2 : zq_M} {d2 nc2 ns2 n idx a : Nat} {av rest : List Value}
theorem zk_callI {f2 : Bool} (hd : decode M.2.2.1 pc = .ok (.invokespecial idx, 3)) (hw : zq_cv M.1 idx M2 n ∧ M2.2.1.name = "<init>" ∧ M2.2.2.2.2 = none ∧ Cond.instanceMethod M2.2.1 ∈ zq_g) (hM : zk_P l M2 d2 nc2 ns2 f2 (.ref a :: av) h h2) (hrm : zq_rm M2 d2 d rest = true) (hn : av.length = n) (hb : ce + nc2 ≤ nc ∧ sl + ns2 ≤ ns) (hp : pc + 3 = pc') (kk : zk_G l M d nc ns f' h' pc' (ce + nc2) (sl + ns2) f2 (ls, rest, h2)) : zk_G l M d nc ns f' h' pc ce sl true (ls, av.reverse ++ .ref a :: rest, h) := by
  subst hp
  intro p e s m args below meth c N0 D cy A H locs la hX hz hP hD hS hl
  replace hz : H.size = N0 + h.length := hz rfl
  obtain ⟨⟨w1, w2, w3, w4⟩, w5, w6, w7⟩ := hw
  obtain ⟨hR, hsum⟩ := zq_rm_spec hrm
  have hts := hX.1.2.2.2.2.2.2.1
  have hG := zq_good w3
  have hcw : zq_cw M2 = Cond.code M2.2.1 M2.2.2.1 M2.2.2.2.1 none := by unfold zq_cw; rw [w6]
  refine zk_after (va_runI (Ts := zq_g) (As := av.map (zq_v (zk_ad N0))) (rest := rest.map (zq_v (zk_ad N0))) (b := zk_ad N0 a) ⟨hX.1.1, hX.1.2.1, hX.1.2.2.1, hX.1.2.2.2.2.2.1, hts⟩ (hM N0 D cy A) ⟨callB_of n hts hG (show zq_ws M2 = Cond.code M2.2.1 M2.2.2.1 M2.2.2.2.1 none :: zq_g by unfold zq_ws; rw [hcw]) rfl rfl (hts _ w2) (hts _ w1) w4 hR, w5, hts _ w7⟩ ⟨zk_blind _ N0 D cy A h, fun U hU hW => ⟨rfl, by rw [hU]; exact hz, fun q hq => hX.2.2.2 q (Nat.le_trans hS.1 (by rw [hU] at hq; exact hq)), by rw [hU]; exact hP, va_K.moved hW.alike hX.1.2.2.2.2.2.2.2.1, zk_Y.warm hW hX.2.2.1, hD⟩⟩ rfl (by rw [List.length_map]; exact hn) hl.1 (by show List.map (zq_v (zk_ad N0)) (av.reverse ++ .ref a :: rest) = _; rw [List.map_append, List.map_reverse]; rfl) (lv_room (by rw [zq_cat_sum]; exact hsum)) hd hb) hS (fun H1 locs1 hz1 hP1 hD1 hS1 => ?_)
  exact kk p e s m args below meth c N0 D cy A H1 locs1 la hX hz1 hP1 hD1 hS1 hl
theorem zk_callIN {f2 : Bool} (hd : decode M.2.2.1 pc = .ok (.invokespecial idx, 3)) (hw : zq_cvN M.1 idx M2 n ∧ M2.2.1.name = "<init>" ∧ M2.2.2.2.2 = none ∧ Cond.instanceMethod M2.2.1 ∈ zq_g) (hM : zk_P l M2 d2 nc2 ns2 f2 (.ref a :: av) h h2) (hrm : zq_rm M2 d2 d rest = true) (hn : av.length = n) (hb : ce + nc2 ≤ nc ∧ sl + ns2 ≤ ns) (hp : pc + 3 = pc') (kk : zk_G l M d nc ns f' h' pc' (ce + nc2) (sl + ns2) f2 (ls, rest, h2)) : zk_G l M d nc ns f' h' pc ce sl true (ls, av.reverse ++ .ref a :: rest, h) := by
  subst hp
  intro p e s m args below meth c N0 D cy A H locs la hX hz hP hD hS hl
  replace hz : H.size = N0 + h.length := hz rfl
  obtain ⟨⟨w1, w2, w3, w4⟩, w5, w6, w7⟩ := hw
  obtain ⟨hR, hsum⟩ := zq_rm_spec hrm
  have hts := hX.1.2.2.2.2.2.2.1
  have hG := zq_good w3
  have hcw : zq_cw M2 = Cond.code M2.2.1 M2.2.2.1 M2.2.2.2.1 none := by unfold zq_cw; rw [w6]
  refine zk_after (va_runIN (Ts := zq_g) (As := av.map (zq_v (zk_ad N0))) (rest := rest.map (zq_v (zk_ad N0))) (b := zk_ad N0 a) ⟨hX.1.1, hX.1.2.1, hX.1.2.2.1, hX.1.2.2.2.2.2.1, hts⟩ (hM N0 D cy A) ⟨va_cnB n hts hG (show zq_ws M2 = Cond.code M2.2.1 M2.2.2.1 M2.2.2.2.1 none :: zq_g by unfold zq_ws; rw [hcw]) rfl rfl (hX.2.2.1.1 _ w1) (hts _ w2) w4 hR, w5, hts _ w7⟩ ⟨zk_blind _ N0 D cy A h, fun U hU hW => ⟨rfl, by rw [hU]; exact hz, fun q hq => hX.2.2.2 q (Nat.le_trans hS.1 (by rw [hU] at hq; exact hq)), by rw [hU]; exact hP, va_K.moved hW.alike hX.1.2.2.2.2.2.2.2.1, zk_Y.warm hW hX.2.2.1, hD⟩⟩ rfl (by rw [List.length_map]; exact hn) hl.1 (by show List.map (zq_v (zk_ad N0)) (av.reverse ++ .ref a :: rest) = _; rw [List.map_append, List.map_reverse]; rfl) (lv_room (by rw [zq_cat_sum]; exact hsum)) hd hb) hS (fun H1 locs1 hz1 hP1 hD1 hS1 => ?_)
  exact kk p e s m args below meth c N0 D cy A H1 locs1 la hX hz1 hP1 hD1 hS1 hl
/-- a call of a method that makes nothing -/
theorem zk_callV {ci : Nat} {fs : List Value} {r2 : Option Value} (hd : decode M.2.2.1 pc = .ok (.invokevirtual idx, 3)) (hw : zq_cv M.1 idx M2 n ∧ Cond.instanceMethod M2.2.1 ∈ zq_g ∧ Cond.selects M2.2.1.cls M2.2.1 M2.2.1 ∈ zq_g) (hM : zq_P l M2 d2 (.ref a :: av) h r2 h2) (hrm : zq_rm M2 d2 d rest = true) (hn : av.length = n) (hh : zq_hp h a = some (.inr (ci, fs))) (hci : (vwCl[ci]?).map (fun q => q.1) = some M2.2.1.cls) (hb : ce ≤ nc ∧ sl ≤ ns) (hp : pc + 3 = pc')
    (kk : zk_G l M d nc ns f' h' pc' ce sl false (ls, r2.toList ++ rest, h2)) : zk_G l M d nc ns f' h' pc ce sl f (ls, av.reverse ++ .ref a :: rest, h) := by
  subst hp
  intro p e s m args below meth c N0 D cy A H locs la hX hz hP hD hS hl
  obtain ⟨⟨w1, w2, w3, w4⟩, w5, w6⟩ := hw
  obtain ⟨hR, hsum⟩ := zq_rm_spec hrm
  have hts := hX.1.2.2.2.2.2.2.1
  obtain ⟨q, hq, hq2⟩ := Option.map_eq_some_iff.mp hci
  rw [zq_hp_eq] at hh
  have hrec := va_recv hX.1.2.2.2.2.2.2.2.1 hP hq (zq_w_at hh)
  rw [hq2] at hrec
  have hrun := va_runV (R := zk_R d nc ns) (Ts := zq_g) (As := av.map (zq_v (zk_ad N0))) (rest := rest.map (zq_v (zk_ad N0))) (b := zk_ad N0 a) (below := below) (locs := locs) (cells := ce) (slots := sl) (e := e) (meth := meth) (g := F0 m pc la ((av.reverse ++ .ref a :: rest).map (zq_v (zk_ad N0)))) ⟨hX.1.1, hX.1.2.1, hX.1.2.2.1, hX.1.2.2.2.2.2.1, hts⟩ (hM (zk_ad N0) D cy A) ⟨callB_of n hts (zq_good w3) rfl rfl rfl (hts _ w2) (hts _ w1) w4 hR, hts _ w5, hts _ w6⟩ ⟨zq_blind _ (zk_ad N0) D cy A h, hrec, fun U hU hW => ⟨rfl, by rw [hU]; exact hP, va_K.moved hW.alike hX.1.2.2.2.2.2.2.2.1, zq_N.warm hW hX.1.2.2.2.2.2.2.2.2, hD⟩⟩ rfl (by rw [List.length_map]; exact hn) hl.1 (by show List.map (zq_v (zk_ad N0)) (av.reverse ++ .ref a :: rest) = _; rw [List.map_append, List.map_reverse]; rfl) (lv_room (by rw [zq_cat_sum]; exact hsum)) hd hb
  intro T hT X
  obtain ⟨v, st₀, t, T', L, h0, X', hL, e1, e2, ⟨hv, hP1, hD1, hz1, hk1⟩, stp⟩ := hrun T hT X
  cases hv
  rw [h0] at hz1 hk1
  have kk2 := kk p e s m args below meth c N0 D cy A T'.heap (locs ++ L) la hX (fun q => by cases q) (by rw [e1]; exact hP1) hD1 ⟨Nat.le_trans hS.1 (by rw [e1]; exact hz1), fun q h1 h2 => by rw [e1, hk1 q (Nat.lt_of_lt_of_le h1 hS.1) h2]; exact hS.2.1 q h1 h2, fun q hq => by
      rcases List.mem_append.mp hq with h | h
      · exact hS.2.2 q h
      · exact hL q h⟩ hl
  obtain ⟨t2, a1, b1⟩ := kk2 T' rfl X'
  refine ⟨t2, stp t2 ?_, b1⟩
  rw [← zq_ret_map] at a1
  exact a1
end ZK2
