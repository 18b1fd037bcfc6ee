/-! switches, copies of rows, a call by the receiver's own kind, compares of longs -/
def zq_swd (M : zq_M) (pc : Nat) : Option (List (Int × Nat) × Nat) := match decode M.2.2.1 pc with
  | .ok (.lookupswitch d ps, _) => if (ps.toList.zip (ps.toList.drop 1)).all (fun (a, next) => a.1 < next.1) = true ∧ 0 ≤ (pc : Int) + d ∧ (∀ q ∈ ps.toList, 0 ≤ (pc : Int) + q.2) then some (ps.toList.map (fun q => (q.1, ((pc : Int) + q.2).toNat)), ((pc : Int) + d).toNat) else none
  | .ok (.tableswitch d lo hi offs, _) => if 0 ≤ (pc : Int) + d ∧ (∀ q ∈ offs.toList, 0 ≤ (pc : Int) + q) ∧ hi = lo + offs.size - 1 then some (offs.toList.mapIdx (fun i q => (lo + i, ((pc : Int) + q).toNat)), ((pc : Int) + d).toNat) else none
  | _ => none
def zq_swk (x : Int32) (G : Nat → Prop) : List (Int × Nat) → Prop
  | [] => True
  | q :: l => (x.toInt = q.1 → G q.2) ∧ zq_swk x G l
def zq_swn (x : Int32) : List (Int × Nat) → Prop
  | [] => True
  | q :: l => (¬ x.toInt = q.1) ∧ zq_swn x l
theorem zq_swk_at {x : Int32} {G : Nat → Prop} {l : List (Int × Nat)} (h : zq_swk x G l) {q : Int × Nat} (hq : q ∈ l) (hx : x.toInt = q.1) : G q.2 := by
  induction l with
  | nil => cases hq
  | cons a l ih =>
    rcases List.mem_cons.mp hq with e | hq
    · subst e; exact h.1 hx
    · exact ih h.2 hq
theorem zq_swn_of {x : Int32} {l : List (Int × Nat)} (h : ∀ q ∈ l, ¬ x.toInt = q.1) : zq_swn x l := by
  induction l with
  | nil => trivial
  | cons a l ih => exact ⟨h a List.mem_cons_self, ih (fun q hq => h q (List.mem_cons_of_mem _ hq))⟩
theorem zq_off {x d : Int} (l : List (Int × Int)) : (∃ q ∈ l, x = q.1 ∧ Op.lookupswitch.offset l d x = q.2) ∨ ((∀ q ∈ l, ¬ x = q.1) ∧ Op.lookupswitch.offset l d x = d) := by
  induction l with
  | nil => exact Or.inr ⟨fun q h => (by cases h), rfl⟩
  | cons a l ih =>
    by_cases hx : x = a.1
    · refine Or.inl ⟨a, List.mem_cons_self, hx, ?_⟩
      rw [Op.lookupswitch.offset_cons, if_pos hx.symm]
    · have e : Op.lookupswitch.offset (a :: l) d x = Op.lookupswitch.offset l d x := by
        rw [Op.lookupswitch.offset_cons, if_neg (fun q => hx q.symm)]
      rcases ih with ⟨q, h1, h2, h3⟩ | ⟨h1, h2⟩
      · exact Or.inl ⟨q, List.mem_cons_of_mem _ h1, h2, by rw [e]; exact h3⟩
      · refine Or.inr ⟨fun q hq => ?_, by rw [e]; exact h2⟩
        rcases List.mem_cons.mp hq with z | z
        · subst z; exact hx
        · exact h1 q z
section ZW
variable {l : Launch} {M : zq_M} {d : Nat} {r : Option Value} {h' : zq_H} {pc : Nat} {ls : List (Nat × Value)} {st : List Value} {h : zq_H}
theorem zq_swc {x : Int32} (prs : List (Int × Nat)) (df : Nat) (hd : zq_swd M pc = some (prs, df)) (hk : zq_swk x (fun t => zq_G l M d r h' t (ls, st, h)) prs) (hn : zq_swn x prs → zq_G l M d r h' df (ls, st, h)) : zq_G l M d r h' pc (ls, .int x :: st, h) := by
  unfold zq_swd at hd
  split at hd
  · rename_i d0 ps len hdec
    split at hd
    · rename_i hq
      obtain ⟨h1, h2, h3⟩ := hq
      cases hd
      rcases zq_off (x := x.toInt) (d := d0) ps.toList with ⟨q, g1, g2, g3⟩ | ⟨g1, g2⟩
      · have hg := zq_swk_at hk (List.mem_map.mpr ⟨q, g1, rfl⟩) g2
        intro p e s m args below meth c ad D cy A H locs la hX hP hD hS hl
        exact lv_lookup hX.1 hX.2.1 hdec h1 g3 (by have := h3 q g1; omega) (hg p e s m args below meth c ad D cy A H locs la hX hP hD hS hl)
      · have hg := hn (zq_swn_of (fun q hq => by obtain ⟨z, z1, rfl⟩ := List.mem_map.mp hq; exact g1 z z1))
        intro p e s m args below meth c ad D cy A H locs la hX hP hD hS hl
        exact lv_lookup hX.1 hX.2.1 hdec h1 g2 (by omega) (hg p e s m args below meth c ad D cy A H locs la hX hP hD hS hl)
    · cases hd
  · rename_i d0 lo hi offs len hdec
    split at hd
    · rename_i hq
      obtain ⟨h1, h2, h3⟩ := hq
      cases hd
      by_cases hin : lo ≤ x.toInt ∧ x.toInt ≤ hi
      · obtain ⟨k, hk2⟩ : ∃ k : Nat, x.toInt - lo = (k : Int) := ⟨(x.toInt - lo).toNat, by omega⟩
        have hkl : k < offs.size := by omega
        have hoff : offs[k]? = some offs[k] := Array.getElem?_eq_getElem hkl
        have hm : (lo + (k : Int), ((pc : Int) + offs[k]).toNat) ∈ offs.toList.mapIdx (fun i q => (lo + (i : Int), ((pc : Int) + q).toNat)) := by
          refine List.mem_of_getElem? (i := k) ?_
          rw [List.getElem?_mapIdx, Array.getElem?_toList, hoff]
          rfl
        have hg := zq_swk_at hk hm (by show x.toInt = lo + (k : Int); omega)
        have h2' := h2 offs[k] (Array.getElem_mem_toList hkl)
        intro p e s m args below meth c ad D cy A H locs la hX hP hD hS hl
        exact lv_tableIn hX.1 hX.2.1 hdec (by omega) (by omega) (by rw [hk2]; exact hoff) (by omega) (hg p e s m args below meth c ad D cy A H locs la hX hP hD hS hl)
      · have hg := hn (zq_swn_of (fun q hq => by
          obtain ⟨k, hk⟩ := List.getElem?_of_mem hq
          rw [List.getElem?_mapIdx] at hk
          obtain ⟨z, z1, rfl⟩ := Option.map_eq_some_iff.mp hk
          have hl := (List.getElem?_eq_some_iff.mp z1).1
          rw [Array.length_toList] at hl
          show ¬ x.toInt = lo + (k : Int)
          omega))
        intro p e s m args below meth c ad D cy A H locs la hX hP hD hS hl
        exact lv_tableOut hX.1 hX.2.1 hdec (by omega) (by omega) (hg p e s m args below meth c ad D cy A H locs la hX hP hD hS hl)
    · cases hd
  · cases hd
def zq_ac (o idx : Nat) : Prop := Cond.methodLink (zq_cn o) idx arraycopyName ∈ zq_g ∧ Cond.native arraycopyName ∈ zq_g ∧ Cond.static arraycopyName ∈ zq_g ∧ Cond.initialized "java/lang/System" ∈ zq_g
def zq_rc (d : Nat) (rest : List Value) : Bool := Nat.ble 1 d && Nat.ble ((rest.map fun v => v.category).sum + (nativeFrameWords "java/lang/System" "arraycopy" 5 + 11)) (35 * d)
theorem zq_copy {idx sp dp n a0 a1 n0 n1 : Nat} {xs xd xn : Int32} {f g : Nat → Int32} {rest : List Value} (hd : decode M.2.2.1 pc = .ok (.invokestatic idx, 3)) (hw : zq_ac M.1 idx) (h0 : zq_hp h a0 = some (.inl (0, n0, .inl f))) (h1 : zq_hp h a1 = some (.inl (0, n1, .inl g))) (hr : zq_rc d rest = true) (b0 : sp + n ≤ n0) (b1 : dp + n ≤ n1) (b2 : n0 < 2147483648 ∧ n1 < 2147483648) (es : xs = nI sp) (ed : xd = nI dp) (en : xn = nI n)
    (kk : zq_G l M d r h' (pc + 3) (ls, rest, h.set a1 (.inl (0, n1, .inl (va_cpy f g sp dp n))))) : zq_G l M d r h' pc (ls, .int xn :: .int xd :: .ref a1 :: .int xs :: .ref a0 :: rest, h) := by
  subst es ed en
  unfold zq_rc at hr
  simp only [Bool.and_eq_true] at hr
  have hr1 := Nat.le_of_ble_eq_true hr.1
  have hr2 := Nat.le_of_ble_eq_true hr.2
  rw [zq_hp_eq] at h0 h1
  intro p e s m args below meth c ad D cy A H locs la hX hP hD hS hl
  have hts := hX.2.2.2.2.2.2.1
  have e2 := zq_w_set ad cy h a1 (.inl (0, n1, .inl (va_cpy f g sp dp n)))
  refine va_copyi (ty := .int) hX.1 hX.2.1 (by rw [hX.2.2.1]; exact hl.1.symm) hX.2.2.2.2.2.1 (hts _ hw.1) (hts _ hw.2.1) (hts _ hw.2.2.1) (hts _ hw.2.2.2) hX.2.2.2.2.2.2.2.1 hP hD hS a0 a1 0 0 (zq_w_at h0) (zq_w_at h1) rfl rfl rfl (nI_pos (by omega)) (nI_pos (by omega)) (nI_pos (by omega)) (by rw [nI_clamp (by omega), nI_clamp (by omega)]; exact b0) (by rw [nI_clamp (by omega), nI_clamp (by omega)]; exact b1) (fun _ _ => rfl) hr1 (by rw [zq_cat_sum]; exact hr2) hd (fun H1 locs1 hP1 hD1 hS1 => ?_)
  rw [nI_clamp (n := sp) (by omega), nI_clamp (n := dp) (by omega), nI_clamp (n := n) (by omega)] at hP1 hD1
  refine kk p e s m args below meth c ad D cy A H1 locs1 la hX ?_ ?_ hS1 hl
  · show va_P D vwCl (zq_w ad cy (h.set a1 _)) H1
    rw [← e2]; exact hP1
  · show va_D A (zq_w ad cy (h.set a1 _))
    rw [← e2]; exact hD1
theorem zq_callD {M1 M2 : zq_M} {d2 idx n a ci : Nat} {av rest fs : List Value} {r2 : Option Value} {h2 : zq_H} {C : String} (hd : decode M.2.2.1 pc = .ok (.invokevirtual idx, 3))
    (hw : Cond.methodLink (zq_cn M.1) idx M1.2.1 ∈ zq_g ∧ Cond.sameMethod M1.2.1.cls M1.2.1.cls M1.2.1.name M1.2.1.desc ∈ zq_g ∧ Cond.instanceMethod M1.2.1 ∈ zq_g ∧ zq_cw M1 ∈ zq_g ∧ (M1.2.1.cls ≠ "java/lang/invoke/MethodHandle" ∧ M1.2.1.cls ≠ "java/lang/invoke/VarHandle" ∧ (parseMethodDescriptor M1.2.1.desc).map (fun d => d.parameters.length) = some n))
    (hw2 : Cond.selects C M1.2.1 M2.2.1 ∈ zq_g ∧ Cond.instanceMethod M2.2.1 ∈ zq_g ∧ Cond.initialized M2.2.1.cls ∈ zq_g ∧ zq_cw M2 ∈ zq_g)
    (hM : zq_P l M2 d2 (.ref a :: av) h r2 h2) (hrm : zq_rm M2 d2 d rest = true) (hn : av.length = n) (hh : zq_hp h a = some (.inr (ci, fs))) (hci : (vwCl[ci]?).map (fun q => q.1) = some C)
    (kk : zq_G l M d r h' (pc + 3) (ls, r2.toList ++ rest, h2)) : zq_G l M d r h' pc (ls, av.reverse ++ .ref a :: rest, h) := by
  intro p e s m args below meth c ad D cy A H locs la hX hP hD hS hl
  obtain ⟨w1, w2, w3, w4, w5⟩ := hw
  obtain ⟨v1, v2, v3, v4⟩ := hw2
  obtain ⟨hR, hsum⟩ := zq_rm_spec hrm
  have hts := hX.2.2.2.2.2.2.1
  obtain ⟨q, hq, hq2⟩ := Option.map_eq_some_iff.mp hci
  rw [zq_hp_eq] at hh
  have hrec := va_recv hX.2.2.2.2.2.2.2.1 hP hq (zq_w_at hh)
  rw [hq2] at hrec
  have hG := zq_good v4
  have hc : zq_cw M2 ∈ zq_ws M2 := List.mem_cons_self
  have hlen : ∀ sig, parseMethodDescriptor M1.2.1.desc = some sig → n = sig.parameters.length := by
    intro sig hsig
    have h3 := w5.2.2
    rw [hsig] at h3
    exact (Option.some.inj h3).symm
  refine zq_after (va_runU (Ts := zq_g) (As := av.map (zq_v ad)) (rest := rest.map (zq_v ad)) (b := ad a) (C := C) (owner := M1.2.1.cls) (x := M1.2.1) (y := M2.2.1) ⟨hX.1, hX.2.1, hX.2.2.1, hX.2.2.2.2.2.1, hts⟩ (hM ad D cy A) ⟨⟨rfl, rfl, hR.1, hR.2, pay_in hts hG, hc⟩, hts _ v4, hts _ v3, ⟨w5.1, w5.2.1⟩, hlen, hts _ w1, hts _ w2, va_Decl.of (hts _ w3) (hts _ w4), hts _ v1, hts _ v2⟩ ⟨zq_blind _ ad D cy A h, hrec, fun U hU hW => ⟨rfl, by rw [hU]; exact hP, va_K.moved hW.alike hX.2.2.2.2.2.2.2.1, zq_N.warm hW hX.2.2.2.2.2.2.2.2, hD⟩⟩ rfl (by rw [List.length_map]; exact hn) hl.1 (by show List.map (zq_v ad) (av.reverse ++ .ref a :: rest) = _; rw [List.map_append, List.map_reverse]; rfl) (lv_room (by rw [zq_cat_sum]; exact hsum)) hd ⟨Nat.le_refl 0, Nat.le_refl 0⟩) hS (fun H1 locs1 hP1 hD1 hS1 => ?_)
  rw [zq_ret_map]
  exact kk p e s m args below meth c ad D cy A H1 locs1 la hX hP1 hD1 hS1 hl
end ZW
theorem zq_lc (x y : Int64) : (x < y ∧ ¬ y < x ∧ ¬ x = y ∧ ¬ y ≤ x ∧ x ≤ y ∧ lg_cmp x y = -1) ∨ (x = y ∧ ¬ x < y ∧ ¬ y < x ∧ x ≤ y ∧ y ≤ x ∧ lg_cmp x y = 0) ∨ (y < x ∧ ¬ x < y ∧ ¬ x = y ∧ ¬ x ≤ y ∧ y ≤ x ∧ lg_cmp x y = 1) := by
  have inj : x = y → x.toInt = y.toInt := fun h => by rw [h]
  unfold lg_cmp
  simp only [gt_iff_lt, Int64.lt_iff_toInt_lt, Int64.le_iff_toInt_le]
  rcases Int.lt_trichotomy x.toInt y.toInt with g | g | g
  · refine Or.inl ⟨g, by omega, fun e => ?_, by omega, by omega, ?_⟩
    · have := inj e; omega
    · rw [if_neg (by omega), if_neg (fun e => by have := inj e; omega)]
  · have e : x = y := Int64.toInt_inj.mp g
    exact Or.inr (Or.inl ⟨e, by omega, by omega, by omega, by omega, by rw [if_neg (by omega), if_pos e]⟩)
  · refine Or.inr (Or.inr ⟨g, by omega, fun e => ?_, by omega, by omega, ?_⟩)
    · have := inj e; omega
    · rw [if_pos g]
theorem zq_lc_lt (x y : Int64) : zq_cc .lt (lg_cmp x y) 0 ↔ x < y := by
  rcases zq_lc x y with ⟨h1, h2, h3, h4, h5, h6⟩ | ⟨h1, h2, h3, h4, h5, h6⟩ | ⟨h1, h2, h3, h4, h5, h6⟩ 
  · simp only [zq_cc, h6, h1]; decide
  · simp only [zq_cc, h6, h2]; decide
  · simp only [zq_cc, h6, h2]; decide
theorem zq_lc_ge (x y : Int64) : zq_cc .ge (lg_cmp x y) 0 ↔ y ≤ x := by
  rcases zq_lc x y with ⟨h1, h2, h3, h4, h5, h6⟩ | ⟨h1, h2, h3, h4, h5, h6⟩ | ⟨h1, h2, h3, h4, h5, h6⟩ <;> simp only [zq_cc, h6, h4, h5] <;> decide
theorem zq_lc_gt (x y : Int64) : zq_cc .gt (lg_cmp x y) 0 ↔ y < x := by
  rcases zq_lc x y with ⟨h1, h2, h3, h4, h5, h6⟩ | ⟨h1, h2, h3, h4, h5, h6⟩ | ⟨h1, h2, h3, h4, h5, h6⟩ 
  · simp only [zq_cc, h6, h2]; decide
  · simp only [zq_cc, h6, h3]; decide
  · simp only [zq_cc, h6, h1]; decide
theorem zq_lc_le (x y : Int64) : zq_cc .le (lg_cmp x y) 0 ↔ x ≤ y := by
  rcases zq_lc x y with ⟨h1, h2, h3, h4, h5, h6⟩ | ⟨h1, h2, h3, h4, h5, h6⟩ | ⟨h1, h2, h3, h4, h5, h6⟩ <;> simp only [zq_cc, h6, h4, h5] <;> decide
theorem zq_lc_eq (x y : Int64) : zq_cc .eq (lg_cmp x y) 0 ↔ x = y := by
  rcases zq_lc x y with ⟨h1, h2, h3, h4, h5, h6⟩ | ⟨h1, h2, h3, h4, h5, h6⟩ | ⟨h1, h2, h3, h4, h5, h6⟩
  · simp only [zq_cc, h6, h3]; decide
  · simp only [zq_cc, h6]; exact ⟨fun _ => h1, fun _ => trivial⟩
  · simp only [zq_cc, h6, h3]; decide
theorem zq_lc_ne (x y : Int64) : zq_cc .ne (lg_cmp x y) 0 ↔ ¬ x = y := not_congr (zq_lc_eq x y)
theorem zq_pick {l : Launch} {M : zq_M} {d : Nat} {r : Option Value} {h' : zq_H} {pc : Nat} {ls ls2 : List (Nat × Value)} {st : List Value} {h : zq_H} (ks : List Nat) (hl : ks.filterMap (fun k => ls[k]?) = ls2) (k : zq_G l M d r h' pc (ls2, st, h)) : zq_G l M d r h' pc (ls, st, h) := by
  refine zq_less (fun q hq => ?_) k
  subst hl
  obtain ⟨i, -, hi⟩ := List.mem_filterMap.mp hq
  exact List.mem_of_getElem? hi
