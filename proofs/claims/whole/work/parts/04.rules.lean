/-! entry, ends, branches, calls -/
def zq_cc (cc : ClassFile.Cond) (x y : Int32) : Prop := match cc with
  | .eq => x = y
  | .ne => ¬ x = y
  | .lt => x < y
  | .ge => y ≤ x
  | .gt => y < x
  | .le => x ≤ y
def zq_tgt (M : zq_M) (pc : Nat) : Option (Bool × ClassFile.Cond × Nat) := match decode M.2.2.1 pc with
  | .ok (.if_icmp cc off, 3) => if 0 ≤ (pc : Int) + off then some (true, cc, ((pc : Int) + off).toNat) else none
  | .ok (.ifCond cc off, 3) => if 0 ≤ (pc : Int) + off then some (false, cc, ((pc : Int) + off).toNat) else none
  | _ => none
theorem zq_tgt_i {M : zq_M} {pc tgt : Nat} {cc : ClassFile.Cond} (h : zq_tgt M pc = some (true, cc, tgt)) : ∃ off : Int, decode M.2.2.1 pc = .ok (.if_icmp cc off, 3) ∧ (pc : Int) + off = (tgt : Int) := by
  unfold zq_tgt at h
  split at h
  · rename_i c2 off hd
    split at h
    · cases h; exact ⟨off, hd, by omega⟩
    · cases h
  · rename_i c2 off hd
    split at h
    · cases h
    · cases h
  · cases h
theorem zq_tgt_z {M : zq_M} {pc tgt : Nat} {cc : ClassFile.Cond} (h : zq_tgt M pc = some (false, cc, tgt)) : ∃ off : Int, decode M.2.2.1 pc = .ok (.ifCond cc off, 3) ∧ (pc : Int) + off = (tgt : Int) := by
  unfold zq_tgt at h
  split at h
  · rename_i c2 off hd
    split at h
    · cases h
    · cases h
  · rename_i c2 off hd
    split at h
    · cases h; exact ⟨off, hd, by omega⟩
    · cases h
  · cases h
section ZB
variable {l : Launch} {M : zq_M} {d : Nat} {r : Option Value} {h' : zq_H} {pc : Nat} {ls : List (Nat × Value)} {st : List Value} {h : zq_H}
/-- a compare of two ints: P is what it asks, in your words -/
theorem zq_if {x y : Int32} (cc : ClassFile.Cond) (tgt : Nat) (P : Prop) (hd : zq_tgt M pc = some (true, cc, tgt)) (hq : zq_cc cc x y ↔ P) (kt : P → zq_G l M d r h' tgt (ls, st, h)) (kf : ¬ P → zq_G l M d r h' (pc + 3) (ls, st, h)) : zq_G l M d r h' pc (ls, .int y :: .int x :: st, h) := by
  obtain ⟨off, hd, ht⟩ := zq_tgt_i hd
  intro p e s m args below meth c ad D cy A H locs la hX hP hD hS hl
  have a := fun hz => kt (hq.mp hz) p e s m args below meth c ad D cy A H locs la hX hP hD hS hl
  have b := fun (hz : ¬ zq_cc cc x y) => kf (fun q => hz (hq.mpr q)) p e s m args below meth c ad D cy A H locs la hX hP hD hS hl
  cases cc with
  | eq => exact lv_icmp_eq hX.1 hX.2.1 hd ht a b
  | ne => exact lv_icmp_ne hX.1 hX.2.1 hd ht a (fun z => b (fun q => q z))
  | lt => exact lv_icmp_lt hX.1 hX.2.1 hd ht a b
  | ge => exact lv_icmp_ge hX.1 hX.2.1 hd ht a b
  | gt => exact lv_icmp_gt hX.1 hX.2.1 hd ht a b
  | le => exact lv_icmp_le hX.1 hX.2.1 hd ht a b
theorem zq_ifz {x : Int32} (cc : ClassFile.Cond) (tgt : Nat) (P : Prop) (hd : zq_tgt M pc = some (false, cc, tgt)) (hq : zq_cc cc x 0 ↔ P) (kt : P → zq_G l M d r h' tgt (ls, st, h)) (kf : ¬ P → zq_G l M d r h' (pc + 3) (ls, st, h)) : zq_G l M d r h' pc (ls, .int x :: st, h) := by
  obtain ⟨off, hd, ht⟩ := zq_tgt_z hd
  intro p e s m args below meth c ad D cy A H locs la hX hP hD hS hl
  have a := fun hz => kt (hq.mp hz) p e s m args below meth c ad D cy A H locs la hX hP hD hS hl
  have b := fun (hz : ¬ zq_cc cc x 0) => kf (fun q => hz (hq.mpr q)) p e s m args below meth c ad D cy A H locs la hX hP hD hS hl
  cases cc with
  | eq => exact lv_if_eq hX.1 hX.2.1 hd ht a b
  | ne => exact lv_if_ne hX.1 hX.2.1 hd ht a (fun z => b (fun q => q z))
  | lt => exact lv_if_lt hX.1 hX.2.1 hd ht a b
  | ge => exact lv_if_ge hX.1 hX.2.1 hd ht a b
  | gt => exact lv_if_gt hX.1 hX.2.1 hd ht a b
  | le => exact lv_if_le hX.1 hX.2.1 hd ht a b
theorem zq_eq {σ σ2 : zq_S} (e : σ = σ2) (k : zq_G l M d r h' pc σ2) : zq_G l M d r h' pc σ := e ▸ k
/-- the same stretch of code, fewer locals known -/
theorem zq_less {ls2 : List (Nat × Value)} (hs : ∀ q ∈ ls2, q ∈ ls) (k : zq_G l M d r h' pc (ls2, st, h)) : zq_G l M d r h' pc (ls, st, h) := by
  intro p e s m args below meth c ad D cy A H locs la hX hP hD hS hl
  refine k p e s m args below meth c ad D cy A H locs la hX hP hD hS (zq_lv hl fun q hq => ?_)
  obtain ⟨x, hx, rfl⟩ := List.mem_map.mp hq
  exact List.mem_map.mpr ⟨x, hs x hx, rfl⟩
def zq_isRet (M : zq_M) (pc : Nat) : Bool := match decode M.2.2.1 pc, M.2.2.2.2 with
  | .ok (.ireturn, 1), some .int => true
  | .ok (.ireturn, 1), some .boolean => true
  | .ok (.lreturn, 1), some .long => true
  | .ok (.return_, 1), none => true
  | _, _ => false
theorem zq_iret {v : Int32} (hd : decode M.2.2.1 pc = .ok (.ireturn, 1)) (hr : M.2.2.2.2 = some .int) (e1 : r = some (.int v)) (e2 : h' = h) : zq_G l M d r h' pc (ls, [.int v], h) := by
  subst e1; subst e2
  intro p e s m args below meth c ad D cy A H locs la hX hP hD hS hl
  exact W.iret hX.1 hX.2.1 (hX.2.2.2.1.trans hr) (fun t ht hW => ⟨rfl, by rw [ht]; exact hP, hD, hS.F ht⟩) hS.2.2 hd hX.2.2.2.2.1
theorem zq_zret {v : Int32} (hd : decode M.2.2.1 pc = .ok (.ireturn, 1)) (hr : M.2.2.2.2 = some .boolean) (hv : v = 0 ∨ v = 1) (e1 : r = some (.int v)) (e2 : h' = h) : zq_G l M d r h' pc (ls, [.int v], h) := by
  subst e1; subst e2
  intro p e s m args below meth c ad D cy A H locs la hX hP hD hS hl
  exact W.zret hX.1 hX.2.1 (hX.2.2.2.1.trans hr) (by rcases hv with rfl | rfl <;> rfl) (fun t ht hW => ⟨rfl, by rw [ht]; exact hP, hD, hS.F ht⟩) hS.2.2 hd hX.2.2.2.2.1
theorem zq_jret {v : Int64} (hd : decode M.2.2.1 pc = .ok (.lreturn, 1)) (hr : M.2.2.2.2 = some .long) (e1 : r = some (.long v)) (e2 : h' = h) : zq_G l M d r h' pc (ls, [.long v], h) := by
  subst e1; subst e2
  intro p e s m args below meth c ad D cy A H locs la hX hP hD hS hl
  exact W.lret hX.1 hX.2.1 (hX.2.2.2.1.trans hr) (fun t ht hW => ⟨rfl, by rw [ht]; exact hP, hD, hS.F ht⟩) hS.2.2 hd hX.2.2.2.2.1
theorem zq_vret (hd : decode M.2.2.1 pc = .ok (.return_, 1)) (hr : M.2.2.2.2 = none) (e1 : r = none) (e2 : h' = h) : zq_G l M d r h' pc (ls, [], h) := by
  subst e1; subst e2
  intro p e s m args below meth c ad D cy A H locs la hX hP hD hS hl
  exact W.vret hX.1 hX.2.1 (hX.2.2.2.1.trans hr) (fun t ht hW => ⟨rfl, by rw [ht]; exact hP, hD, hS.F ht⟩) hS.2.2 hd hX.2.2.2.2.1
end ZB
theorem zq_lg (ad : Nat → Nat) (vs : List Value) : (lg_sl (vs.map (zq_v ad))).length = (lg_sl vs).length := by
  induction vs with
  | nil => rfl
  | cons v vs ih =>
    have e : ∀ (w : Value) (ws : List Value), (lg_sl (w :: ws)).length = w.category + (lg_sl ws).length := by
      intro w ws
      show (List.flatMap _ (w :: ws)).length = _
      rw [List.flatMap_cons, List.length_append]
      rcases lv_cat w with h | h <;> simp [h, lg_sl]
    rw [List.map_cons, e, e, zq_cat, ih]
theorem zq_args (ad : Nat → Nat) (vs : List Value) (i : Nat) : lv_args i (vs.map (zq_v ad)) = (lv_args i vs).map (fun q => (q.1, zq_v ad q.2)) := by
  induction vs generalizing i with
  | nil => rfl
  | cons v vs ih =>
    show (i, zq_v ad v) :: lv_args (if (zq_v ad v).category = 2 then i + 2 else i + 1) (vs.map (zq_v ad)) = _
    rw [zq_cat, ih]; rfl
/-- a method's contract out of the walk from its entry -/
theorem zq_start {l : Launch} {M : zq_M} {d : Nat} {av : List Value} {h h' : zq_H} {r : Option Value} (hn : plainName M.2.1.cls = true) (hcl : M.2.1.cls = zq_cn M.1) (hlen : (lg_sl av).length ≤ M.2.2.2.1) (k : zq_G l M d r h' 0 (lv_args 0 av, [], h)) : zq_P l M d av h r h' := by
  intro ad D cy A
  refine Met.ofW (cc := M.2.2.1) (maxL := M.2.2.2.1) (ret := M.2.2.2.2) hn rfl ?_
  intro p e s m args below meth c s₁ B hml hv
  obtain ⟨rfl, hP, hK, hN, hD⟩ := hv
  have hts := atoms_spec (ws := zq_ws M) B.pre
  have hown : s.vm.findClass M.2.1.cls = some m.cls := findClass_of_methodNamed B.named
  have hl := lv_entry (av.map (zq_v ad)) (n := M.2.2.2.1) (by rw [zq_lg]; exact hlen)
  rw [lg_entry_eq]
  rw [zq_args] at hl
  exact k p e s m _ below meth c ad D cy A s.heap [] _ ⟨B.exec, B.bytes, hml, B.returns, B.notSynchronized, by rw [← hcl]; exact hown, fun w hw => hts w (List.mem_cons_of_mem _ hw), hK, hN⟩ hP hD va_S.rf hl
/-- what a call of a method needs of the tables -/
def zq_cv (o idx : Nat) (M2 : zq_M) (n : Nat) : Prop := Cond.methodLink (zq_cn o) idx M2.2.1 ∈ zq_g ∧ Cond.initialized M2.2.1.cls ∈ zq_g ∧ zq_cw M2 ∈ zq_g ∧ (M2.2.1.cls ≠ "java/lang/invoke/MethodHandle" ∧ M2.2.1.cls ≠ "java/lang/invoke/VarHandle" ∧ (parseMethodDescriptor M2.2.1.desc).map (fun d => d.parameters.length) = some n)
def zq_cvN (o idx : Nat) (M2 : zq_M) (n : Nat) : Prop := Cond.methodLinkNest (zq_cn o) idx M2.2.1 "SquareLate" ∈ zq_n ∧ Cond.initialized M2.2.1.cls ∈ zq_g ∧ zq_cw M2 ∈ zq_g ∧ (M2.2.1.cls ≠ "java/lang/invoke/MethodHandle" ∧ M2.2.1.cls ≠ "java/lang/invoke/VarHandle" ∧ (parseMethodDescriptor M2.2.1.desc).map (fun d => d.parameters.length) = some n)
theorem zq_cat_sum (ad : Nat → Nat) (vs : List Value) : ((vs.map (zq_v ad)).map fun v => v.category).sum = (vs.map fun v => v.category).sum := by
  rw [List.map_map]
  congr 1
  exact List.map_congr_left (fun v _ => zq_cat ad v)
theorem zq_after {p : Program} {l : Launch} {e : Env} {R : Room} {s : State} {m : MethodId} {args : Array Value} {below : List Frame} {meth : Method} {c : Code} {H : Heap} {locs : List Loc} {Q : State → Prop} {pc : Nat} {la : Array Slot} {st0 rest : List Value} {a : Array Value} {A : Nat → Prop} {ad : Nat → Nat} {D : va_G} {cy : Nat → ClassId} {r2 : Option Value} {h2 : zq_H}
    (hr : va_Run p l e R s m args below meth c H locs 0 0 0 0 (F0 m pc la st0) rest (zq_Q ad D cy A r2 h2 a) A) (hS : va_S A s.heap H locs)
    (kk : ∀ (H1 : Heap) (locs1 : List Loc), va_P D vwCl (zq_w ad cy h2) H1 → va_D A (zq_w ad cy h2) → va_S A s.heap H1 locs1 → W p l e R s m args below meth c H1 locs1 0 0 Q (F0 m (pc + 3) la ((r2.map (zq_v ad)).toList ++ rest))) : W p l e R s m args below meth c H locs 0 0 Q (F0 m pc la st0) := by
  intro T hT X
  obtain ⟨v, st₀, t, T', L, h0, X', hL, e1, e2, ⟨hv, hP, hD, hz, hk⟩, st⟩ := hr T hT X
  cases hv
  rw [h0] at hz hk
  obtain ⟨t2, a1, b1⟩ := kk T'.heap (locs ++ L) (by rw [e1]; exact hP) hD ⟨Nat.le_trans hS.1 (by rw [e1]; exact hz), fun q h1 h2 => by rw [e1, hk q (Nat.lt_of_lt_of_le h1 hS.1) h2]; exact hS.2.1 q h1 h2, fun q hq => by
      rcases List.mem_append.mp hq with h | h
      · exact hS.2.2 q h
      · exact hL q h⟩ T' rfl X'
  exact ⟨t2, st t2 a1, b1⟩
theorem zq_blind (av : List Value) (ad : Nat → Nat) (D : va_G) (cy : Nat → ClassId) (A : Nat → Prop) (h : zq_H) : FrameBlind (va_Pc av (fun U => va_P D vwCl (zq_w ad cy h) U.heap ∧ va_K D vwCl (zq_t cy) U ∧ zq_N U ∧ va_D A (zq_w ad cy h))) := by
  intro a U g mk q
  obtain ⟨q0, q1, q2, q3, q4⟩ := q
  exact ⟨q0, q1, va_K.moved (u := U) (U := U.calling g mk a) (Vm.Alike.refl U.vm) q2, zq_N.same (s := U) (U := U.calling g mk a) rfl q3, q4⟩
theorem zq_ret_map (ad : Nat → Nat) (r2 : Option Value) (rest : List Value) : (r2.map (zq_v ad)).toList ++ rest.map (zq_v ad) = (r2.toList ++ rest).map (zq_v ad) := by
  cases r2 <;> rfl
section ZC
variable {l : Launch} {M : zq_M} {d : Nat} {r : Option Value} {h' : zq_H} {pc : Nat} {ls : List (Nat × Value)} {h : zq_H} {M2 : zq_M} {d2 idx n a ci : Nat} {av rest fs : List Value} {r2 : Option Value} {h2 : zq_H}
/-- the room of a call -/
def zq_rm (M2 : zq_M) (d2 d : Nat) (rest : List Value) : Bool := Nat.ble (d2 + 1) d && Nat.ble (8 + (M2.2.2.2.1 + 11) + 35 * d2) (35 * d) && Nat.ble (rest.map fun v => v.category).sum 8
theorem zq_rm_spec (hr : zq_rm M2 d2 d rest = true) : ((zq_R d2).frames + 1 ≤ (zq_R d).frames ∧ 8 + (M2.2.2.2.1 + 11) + (zq_R d2).locals ≤ (zq_R d).locals) ∧ (rest.map fun v => v.category).sum ≤ 8 := by
  unfold zq_rm at hr
  simp only [Bool.and_eq_true] at hr
  exact ⟨⟨Nat.le_of_ble_eq_true hr.1.1, Nat.le_of_ble_eq_true hr.1.2⟩, Nat.le_of_ble_eq_true hr.2⟩
theorem zq_callV (hd : decode M.2.2.1 pc = .ok (.invokevirtual idx, 3)) (hw : zq_cv M.1 idx M2 n ∧ Cond.instanceMethod M2.2.1 ∈ zq_g ∧ Cond.selects M2.2.1.cls M2.2.1 M2.2.1 ∈ zq_g) (hM : zq_P l M2 d2 (.ref a :: av) h r2 h2) (hrm : zq_rm M2 d2 d rest = true) (hn : av.length = n) (hh : zq_hp h a = some (.inr (ci, fs))) (hci : (vwCl[ci]?).map (fun q => q.1) = some M2.2.1.cls)
    (kk : zq_G l M d r h' (pc + 3) (ls, r2.toList ++ rest, h2)) : zq_G l M d r h' pc (ls, av.reverse ++ .ref a :: rest, h) := by
  intro p e s m args below meth c ad D cy A H locs la hX hP hD hS hl
  obtain ⟨⟨w1, w2, w3, w4⟩, w5, w6⟩ := hw
  obtain ⟨hR, hsum⟩ := zq_rm_spec hrm
  have hts := hX.2.2.2.2.2.2.1
  obtain ⟨q, hq, hq2⟩ := Option.map_eq_some_iff.mp hci
  rw [zq_hp_eq] at hh
  have hrec := va_recv hX.2.2.2.2.2.2.2.1 hP hq (zq_w_at hh)
  rw [hq2] at hrec
  refine zq_after (va_runV (Ts := zq_g) (As := av.map (zq_v ad)) (rest := rest.map (zq_v ad)) (b := ad a) ⟨hX.1, hX.2.1, hX.2.2.1, hX.2.2.2.2.2.1, hts⟩ (hM ad D cy A) ⟨callB_of n hts (zq_good w3) rfl rfl rfl (hts _ w2) (hts _ w1) w4 hR, hts _ w5, hts _ w6⟩ ⟨zq_blind _ ad D cy A h, hrec, fun U hU hW => ⟨rfl, by rw [hU]; exact hP, va_K.moved hW.alike hX.2.2.2.2.2.2.2.1, zq_N.warm hW hX.2.2.2.2.2.2.2.2, hD⟩⟩ rfl (by rw [List.length_map]; exact hn) hl.1 (by show List.map (zq_v ad) (av.reverse ++ .ref a :: rest) = _; rw [List.map_append, List.map_reverse]; rfl) (lv_room (by rw [zq_cat_sum]; exact hsum)) hd ⟨Nat.le_refl 0, Nat.le_refl 0⟩) hS (fun H1 locs1 hP1 hD1 hS1 => ?_)
  rw [zq_ret_map]
  exact kk p e s m args below meth c ad D cy A H1 locs1 la hX hP1 hD1 hS1 hl
theorem zq_callS (hd : decode M.2.2.1 pc = .ok (.invokestatic idx, 3)) (hw : zq_cv M.1 idx M2 n ∧ Cond.static M2.2.1 ∈ zq_g) (hM : zq_P l M2 d2 av h r2 h2) (hrm : zq_rm M2 d2 d rest = true) (hn : av.length = n)
    (kk : zq_G l M d r h' (pc + 3) (ls, r2.toList ++ rest, h2)) : zq_G l M d r h' pc (ls, av.reverse ++ rest, h) := by
  intro p e s m args below meth c ad D cy A H locs la hX hP hD hS hl
  obtain ⟨⟨w1, w2, w3, w4⟩, w5⟩ := hw
  obtain ⟨hR, hsum⟩ := zq_rm_spec hrm
  have hts := hX.2.2.2.2.2.2.1
  refine zq_after (va_runS (Ts := zq_g) (As := av.map (zq_v ad)) (rest := rest.map (zq_v ad)) ⟨hX.1, hX.2.1, hX.2.2.1, hX.2.2.2.2.2.1, hts⟩ (hM ad D cy A) ⟨callB_of n hts (zq_good w3) rfl rfl rfl (hts _ w2) (hts _ w1) w4 hR, hts _ w5⟩ ⟨zq_blind _ ad D cy A h, fun U hU hW => ⟨rfl, by rw [hU]; exact hP, va_K.moved hW.alike hX.2.2.2.2.2.2.2.1, zq_N.warm hW hX.2.2.2.2.2.2.2.2, hD⟩⟩ rfl (by rw [List.length_map]; exact hn) hl.1 (by show List.map (zq_v ad) (av.reverse ++ rest) = _; rw [List.map_append, List.map_reverse]) (lv_room (by rw [zq_cat_sum]; exact hsum)) hd ⟨Nat.le_refl 0, Nat.le_refl 0⟩) hS (fun H1 locs1 hP1 hD1 hS1 => ?_)
  rw [zq_ret_map]
  exact kk p e s m args below meth c ad D cy A H1 locs1 la hX hP1 hD1 hS1 hl
theorem zq_callN (hd : decode M.2.2.1 pc = .ok (.invokestatic idx, 3)) (hw : zq_cvN M.1 idx M2 n ∧ Cond.static M2.2.1 ∈ zq_g) (hM : zq_P l M2 d2 av h r2 h2) (hrm : zq_rm M2 d2 d rest = true) (hn : av.length = n)
    (kk : zq_G l M d r h' (pc + 3) (ls, r2.toList ++ rest, h2)) : zq_G l M d r h' pc (ls, av.reverse ++ rest, h) := by
  intro p e s m args below meth c ad D cy A H locs la hX hP hD hS hl
  obtain ⟨⟨w1, w2, w3, w4⟩, w5⟩ := hw
  obtain ⟨hR, hsum⟩ := zq_rm_spec hrm
  have hts := hX.2.2.2.2.2.2.1
  refine zq_after (va_runSN (Ts := zq_g) (As := av.map (zq_v ad)) (rest := rest.map (zq_v ad)) ⟨hX.1, hX.2.1, hX.2.2.1, hX.2.2.2.2.2.1, hts⟩ (hM ad D cy A) ⟨va_cnB n hts (zq_good w3) rfl rfl rfl (hX.2.2.2.2.2.2.2.2 _ w1) (hts _ w2) w4 hR, hts _ w5, trivial⟩ ⟨zq_blind _ ad D cy A h, fun U hU hW => ⟨rfl, by rw [hU]; exact hP, va_K.moved hW.alike hX.2.2.2.2.2.2.2.1, zq_N.warm hW hX.2.2.2.2.2.2.2.2, hD⟩⟩ rfl (by rw [List.length_map]; exact hn) hl.1 (by show List.map (zq_v ad) (av.reverse ++ rest) = _; rw [List.map_append, List.map_reverse]) (lv_room (by rw [zq_cat_sum]; exact hsum)) hd ⟨Nat.le_refl 0, Nat.le_refl 0⟩) hS (fun H1 locs1 hP1 hD1 hS1 => ?_)
  rw [zq_ret_map]
  exact kk p e s m args below meth c ad D cy A H1 locs1 la hX hP1 hD1 hS1 hl
/-- super.worth: the receiver's own name is any of the tables' -/
theorem zq_callU (hd : decode M.2.2.1 pc = .ok (.invokespecial idx, 3)) (hw : zq_cv M.1 idx M2 n ∧ Cond.sameMethod M2.2.1.cls M2.2.1.cls M2.2.1.name M2.2.1.desc ∈ zq_g ∧ Cond.superclass (zq_cn M.1) M2.2.1.cls ∈ zq_g ∧ Cond.instanceMethod M2.2.1 ∈ zq_g ∧ M2.2.1.name ≠ "<init>") (hM : zq_P l M2 d2 (.ref a :: av) h r2 h2) (hrm : zq_rm M2 d2 d rest = true) (hn : av.length = n) (hh : zq_hp h a = some (.inr (ci, fs))) (hci : ci < 13)
    (kk : zq_G l M d r h' (pc + 3) (ls, r2.toList ++ rest, h2)) : zq_G l M d r h' pc (ls, av.reverse ++ .ref a :: rest, h) := by
  intro p e s m args below meth c ad D cy A H locs la hX hP hD hS hl
  obtain ⟨⟨w1, w2, w3, w4⟩, w5, w6, w7, w8⟩ := hw
  obtain ⟨hR, hsum⟩ := zq_rm_spec hrm
  have hts := hX.2.2.2.2.2.2.1
  have hq : vwCl[ci]? = some vwCl[ci] := List.getElem?_eq_getElem (show ci < vwCl.length from hci)
  rw [zq_hp_eq] at hh
  have hrec := va_recv hX.2.2.2.2.2.2.2.1 hP hq (zq_w_at hh)
  have hG := zq_good w3
  have hc : zq_cw M2 ∈ zq_ws M2 := List.mem_cons_self
  have hlen : ∀ sig, parseMethodDescriptor M2.2.1.desc = some sig → n = sig.parameters.length := by
    intro sig hsig
    have h3 := w4.2.2
    rw [hsig] at h3
    exact (Option.some.inj h3).symm
  refine zq_after (va_runSU (Ts := zq_g) (As := av.map (zq_v ad)) (rest := rest.map (zq_v ad)) (b := ad a) ((hX.2.2.2.2.2.2.2.1.1 ci _ hq).2) ⟨hX.1, hX.2.1, hX.2.2.1, hX.2.2.2.2.2.1, hts⟩ (hM ad D cy A) ⟨⟨rfl, rfl, hR.1, hR.2, pay_in hts hG, hc⟩, hts _ w1, hts _ w5, hts _ w6, hts _ w7, hts _ w2, hts _ w3, w8, hlen⟩ ⟨zq_blind _ ad D cy A h, hrec, fun U hU hW => ⟨rfl, by rw [hU]; exact hP, va_K.moved hW.alike hX.2.2.2.2.2.2.2.1, zq_N.warm hW hX.2.2.2.2.2.2.2.2, hD⟩⟩ rfl (by rw [List.length_map]; exact hn) hl.1 (by show List.map (zq_v ad) (av.reverse ++ .ref a :: rest) = _; rw [List.map_append, List.map_reverse]; rfl) (lv_room (by rw [zq_cat_sum]; exact hsum)) hd ⟨Nat.le_refl 0, Nat.le_refl 0⟩) hS (fun H1 locs1 hP1 hD1 hS1 => ?_)
  rw [zq_ret_map]
  exact kk p e s m args below meth c ad D cy A H1 locs1 la hX hP1 hD1 hS1 hl
end ZC
