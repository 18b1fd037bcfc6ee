/-! the law from its entry -/
set_option maxRecDepth 100000 in
theorem zk_inst : vwCl.all (fun c => decide (Cond.instantiable c.1 c.2.2 ∈ tables_1) && goodWord (Cond.instantiable c.1 c.2.2)) = true := by decide +kernel
theorem zk_kn {s : State} {args : Array Value} (hts : ∀ w ∈ zq_g, w.before args s = true) (k : Nat) : ∃ x : ClassId × (Nat → Nat), ∀ q : vw_C, vwCl[k]? = some q → u_Kn s q.1 q.2.1 q.2.2 x.1 x.2 := by
  cases hk : vwCl[k]? with
  | none => exact ⟨(0, fun _ => 0), fun q h => by cases h⟩
  | some q =>
    obtain ⟨C, T, N⟩ := q
    have h1 := List.all_eq_true.mp zk_inst (C, T, N) (List.mem_of_getElem? hk)
    simp only [Bool.and_eq_true, decide_eq_true_eq] at h1
    obtain ⟨cC, iS, h⟩ := u_known hts (zq_us hk) (hts _ (zq_tg h1.1 h1.2))
    refine ⟨(cC, iS), fun q hq => ?_⟩
    cases hq
    exact h
set_option maxRecDepth 100000 in
theorem zk_world {s : State} {args : Array Value} (hts : ∀ w ∈ lw_tbl, w.before args s = true) : ∃ (D : va_G) (cy : Nat → ClassId), va_K D vwCl (zq_t cy) s ∧ zk_Y s := by
  have hg : ∀ w ∈ zq_g, w.before args s = true := fun w hw => hts w (zq_g_in hw)
  have hAO5 : va_AO RX5 s := va_AO.of (hts (.arrayOver (.object RX5)) (List.mem_append_right _ (List.mem_of_getElem? (i := 150) rfl)))
  have hAO6 : va_AO RX6 s := va_AO.of (hts (.arrayOver (.object RX6)) (List.mem_append_right _ (List.mem_of_getElem? (i := 195) rfl)))
  obtain ⟨a0, k0, m0, f0, g0, i0⟩ := Cond.arrayClass_spec (hg _ zk_wi)
  obtain ⟨a1, k1, m1, f1, g1, i1⟩ := Cond.arrayClass_spec (hg _ zk_wz)
  obtain ⟨m2, a2, k2, f2, -, g2, i2, n2⟩ := Cond.arrayOver_spec hAO5
  obtain ⟨m3, a3, k3, f3, -, g3, i3, n3⟩ := Cond.arrayOver_spec hAO6
  refine ⟨(fun k => (Classical.choose (zk_kn hg k)).1, fun k => (Classical.choose (zk_kn hg k)).2), fun k => if k = 0 then a0 else if k = 1 then a1 else if k = 2 then a2 else a3, ⟨fun k q hq => Classical.choose_spec (zk_kn hg k) q hq, fun k q hq => ?_⟩, fun w hw => ?_, fun C hC => ?_, hAO5, hAO6⟩
  · match k, hq with
    | 0, hq => cases hq; exact ⟨fun n z => ⟨fun k h => (by cases h), k0, g0, m0, i0⟩, f0⟩
    | 1, hq => cases hq; exact ⟨fun n z => ⟨fun k h => (by cases h), k1, g1, m1, i1⟩, f1⟩
    | 2, hq => cases hq; exact ⟨fun n z => ⟨fun k h => (by cases h), k2, g2, m2, i2⟩, k2, m2, g2, i2, f2, n2⟩
    | 3, hq => cases hq; exact ⟨fun n z => ⟨fun k h => (by cases h), k3, g3, m3, i3⟩, k3, m3, g3, i3, f3, n3⟩
    | k + 4, hq => cases hq
  · obtain ⟨h1, h2⟩ := List.mem_filter.mp hw
    refine va_Nw.of ?_ (hts w h1)
    cases w <;> simp [zq_isN] at h2
    rfl
  · have hm : Cond.castable C RX6 ∈ lw_tbl := by
      simp only [List.mem_cons, List.mem_nil_iff, or_false] at hC
      rcases hC with rfl | rfl | rfl | rfl | rfl
      · exact List.mem_append_right _ (List.mem_of_getElem? (i := 963) rfl)
      · exact List.mem_append_right _ (List.mem_of_getElem? (i := 964) rfl)
      · exact List.mem_append_right _ (List.mem_of_getElem? (i := 965) rfl)
      · exact List.mem_append_right _ (List.mem_of_getElem? (i := 966) rfl)
      · exact List.mem_append_right _ (List.mem_of_getElem? (i := 967) rfl)
    exact va_Nw.of rfl (hts _ hm)
section ZW9
variable {p : Program} {l : Launch} {e : Env} {R : Room} {s : State} {m : MethodId} {args : Array Value} {below : List Frame} {meth : Method} {c : Code} {H : Heap} {locs : List Loc} {ce sl : Nat} {Q : State → Prop} {cc : ByteArray} {pc : Nat} {la : Array Slot} {st : List Value} {D : va_G} {cy : Nat → ClassId} {A : Nat → Prop} {N0 : Nat} {h : zq_H}
/-- a new object, in a frame of any kind -/
theorem zw_new {own : String} (ci : Nat) {idx : Nat} {C : String} {T : u_T} {N : Nat} {fs : List Value} (x1 : p.tables.exec = Jvm.exec) (x2 : c.code = cc) (hown : s.vm.findClass own = some m.cls) (hts : ∀ w ∈ zq_g, w.before args s = true) (hK : va_K D vwCl (zq_t cy) s) (hA : ∀ q : Nat, s.heap.size ≤ q → A q) (hz : H.size = N0 + h.length) (hP : va_P D vwCl (zq_w (zk_ad N0) cy h) H) (hD : va_D A (zq_w (zk_ad N0) cy h)) (hS : va_S A s.heap H locs) (hd : decode cc pc = .ok (.new idx, 3)) (hc : vwCl[ci]? = some (C, T, N)) (hw : Cond.classLink own idx C ∈ zq_g ∧ Cond.instantiable C N ∈ zq_g ∧ Cond.initialized C ∈ zq_g) (hfs : (List.range N).map (fun j => defaultValue (zq_ty ci j)) = (List.range N).map (fun j => vp_V fs j)) (hv : ∀ ad, fs.map (zq_v ad) = fs) (hb : ce + 1 ≤ R.cells ∧ sl + N ≤ R.slots)
    (kk : ∀ H1 : Heap, H1.size = N0 + (h ++ [(.inr (ci, fs) : zq_C)]).length → va_P D vwCl (zq_w (zk_ad N0) cy (h ++ [(.inr (ci, fs) : zq_C)])) H1 → va_D A (zq_w (zk_ad N0) cy (h ++ [(.inr (ci, fs) : zq_C)])) → va_S A s.heap H1 locs → W p l e R s m args below meth c H1 locs (ce + 1) (sl + N) Q (F0 m (pc + 3) la (.ref (zk_ad N0 h.length) :: st))) : W p l e R s m args below meth c H locs ce sl Q (F0 m pc la st) := by
  have hKn := hK.1 ci _ hc
  refine W.newcK x1 x2 hown (hts _ hw.1) (hts _ hw.2.1) (hts _ hw.2.2) rfl hd hb.1 hb.2 hKn.2.1 hz fun H1 kC hkC e1 z1 o1 => ?_
  have hk : ∀ (k : Nat) (x : Nat × va_E), (zq_w (zk_ad N0) cy h)[k]? = some x → H1[x.1]? = H[x.1]? := fun k x hx => o1 x.1 (by have := (hP k x hx).lt; rw [hz] at this; exact this)
  have hwe : zq_w (zk_ad N0) cy (h ++ [.inr (ci, fs)]) = zq_w (zk_ad N0) cy h ++ [(N0 + h.length, .inr (ci, fs))] := by
    rw [zk_w_app]
    show _ ++ [(_, Sum.inr (ci, fs.map (zq_v (zk_ad N0))))] = _
    rw [hv]; rfl
  refine kk H1 (by rw [z1, List.length_append]; rfl) ?_ ?_ ⟨Nat.le_trans hS.1 (by rw [z1, hz]; omega), fun x h1 h2 => (o1 x (by have := Nat.lt_of_lt_of_le h1 hS.1; rw [hz] at this; exact this)).trans (hS.2.1 x h1 h2), hS.2.2⟩
  · rw [hwe]
    refine (hP.kept hk).app (fun k x hx => ?_)
    have hq : k < 1 := (List.getElem?_eq_some_iff.mp hx).1
    rw [show k = 0 by omega] at hx
    cases hx
    refine ⟨_, hc, (u_born (zq_ty ci) hts (zq_us hc) hKn hkC e1 (zq_ty_ok hc)).to (fun j hj => ?_)⟩
    have := congrArg (fun l => l[j]?) hfs
    simpa [hj] using this
  · rw [hwe]
    exact hD.push hP hz.symm (hA _ (by rw [← hz]; exact hS.1))
/-- a call of a constructor without arguments, in a frame of any kind -/
theorem zw_init {own : String} {M2 : zq_M} {d2 nc2 ns2 idx a nL : Nat} {f2 : Bool} {h2 : zq_H} (x1 : p.tables.exec = Jvm.exec) (x2 : c.code = cc) (x3 : c.maxLocals = nL) (hown : s.vm.findClass own = some m.cls) (hts : ∀ w ∈ zq_g, w.before args s = true) (hK : va_K D vwCl (zq_t cy) s) (hY : zk_Y s) (hA : ∀ q : Nat, s.heap.size ≤ q → A q) (hz : H.size = N0 + h.length) (hP : va_P D vwCl (zq_w (zk_ad N0) cy h) H) (hD : va_D A (zq_w (zk_ad N0) cy h)) (hS : va_S A s.heap H locs) (hla : la.size = nL) (hd : decode cc pc = .ok (.invokespecial idx, 3)) (hw : (Cond.methodLink own idx M2.2.1 ∈ zq_g ∧ Cond.initialized M2.2.1.cls ∈ zq_g ∧ zq_cw M2 ∈ zq_g ∧ (M2.2.1.cls ≠ "java/lang/invoke/MethodHandle" ∧ M2.2.1.cls ≠ "java/lang/invoke/VarHandle" ∧ (parseMethodDescriptor M2.2.1.desc).map (fun d => d.parameters.length) = some 0)) ∧ M2.2.1.name = "<init>" ∧ M2.2.2.2.2 = none ∧ Cond.instanceMethod M2.2.1 ∈ zq_g) (hM : zk_P l M2 d2 nc2 ns2 f2 [.ref a] h h2) (hR : d2 + 1 ≤ R.frames ∧ 8 + (M2.2.2.2.1 + 11) + 35 * d2 ≤ R.locals) (hsum : (st.map fun v => v.category).sum ≤ 8) (hb : ce + nc2 ≤ R.cells ∧ sl + ns2 ≤ R.slots)
    (kk : ∀ (H1 : Heap) (locs1 : List Loc), (f2 = true → H1.size = N0 + h2.length) → va_P D vwCl (zq_w (zk_ad N0) cy h2) H1 → va_D A (zq_w (zk_ad N0) cy h2) → va_S A s.heap H1 locs1 → W p l e R s m args below meth c H1 locs1 (ce + nc2) (sl + ns2) Q (F0 m (pc + 3) la st)) : W p l e R s m args below meth c H locs ce sl Q (F0 m pc la (.ref (zk_ad N0 a) :: st)) := by
  obtain ⟨⟨w1, w2, w3, w4⟩, w5, w6, w7⟩ := hw
  have hG := zq_good w3
  have hcw : zq_cw M2 = Cond.code M2.2.1 M2.2.2.1 M2.2.2.2.1 none := by unfold zq_cw; rw [w6]
  exact zk_after (va_runI (Ts := zq_g) (As := []) (rest := st) (b := zk_ad N0 a) ⟨x1, x2, x3, hown, hts⟩ (hM N0 D cy A) ⟨callB_of 0 hts hG (show zq_ws M2 = Cond.code M2.2.1 M2.2.2.1 M2.2.2.2.1 none :: zq_g by unfold zq_ws; rw [hcw]) rfl rfl (hts _ w2) (hts _ w1) w4 hR, w5, hts _ w7⟩ ⟨zk_blind _ N0 D cy A h, fun U hU hW => ⟨rfl, by rw [hU]; exact hz, fun q hq => hA q (Nat.le_trans hS.1 (by rw [hU] at hq; exact hq)), by rw [hU]; exact hP, va_K.moved hW.alike hK, zk_Y.warm hW hY, hD⟩⟩ rfl rfl hla rfl (lv_room hsum) hd hb) hS kk
end ZW9
set_option maxHeartbeats 4000000 in
set_option maxRecDepth 100000 in
theorem start_m {p : Program} {e : Env} {s : State} {m : MethodId} {below : List Frame} {meth : Method} {c : Code} {l : Launch} {b L : Nat} {xs : Nat → Int32} {D : va_G} {cy : Nat → ClassId} (hL : L ≤ 256) (C : lz_C p s m meth c b L xs D cy) {h0 hm h1 : zq_H} (hlen : h0.length = 41) (he : h0 ++ [(.inr (12, [.long 0, .null, .int 0, .null, .null, .null, .null, .null, .int 0, .int 0, .int 0, .int 0, .null]) : zq_C)] = hm) (hM : zk_P l mX12_init 7 7 5821 false [.ref 41] hm h1) (hS1 : Sim h1) {H : Heap} {locs : List Loc} {ls : Array Slot} (hz : H.size = s.heap.size + h0.length) (hP : va_P D vwCl (zq_w (zk_ad s.heap.size) cy h0) H) (hD : va_D (lz_A s) (zq_w (zk_ad s.heap.size) cy h0)) (hS : va_S (lz_A s) s.heap H locs) (hl : lv_has ls 4 [(1, .ref (zk_ad s.heap.size 0)), (0, .ref b)]) : W p l e room_1 s m #[Value.ref b] below meth c H locs 41 929 (lw_Z below #[Value.ref b] s) (F0 m 8 ls []) := by
  obtain ⟨⟨hx, hb⟩, ⟨hr, hml, hlocks⟩, hown, hg, ⟨hX, hbl⟩, hK, hY⟩ := id C
  have hA : ∀ q : Nat, s.heap.size ≤ q → lz_A s q := fun _ h => h
  refine zw_new (N0 := s.heap.size) (h := h0) (A := lz_A s) 12 (own := R_law) (idx := 10) (C := RX12) (T := TX12) (N := 13) (fs := [.long 0, .null, .int 0, .null, .null, .null, .null, .null, .int 0, .int 0, .int 0, .int 0, .null]) hx hb hown hg hK hA hz hP hD hS (by decide +kernel) rfl ⟨zq_tg (List.mem_of_getElem? (i := 684) rfl) rfl, zq_tg (List.mem_of_getElem? (i := 685) rfl) rfl, zq_tg (List.mem_of_getElem? (i := 13) rfl) rfl⟩ rfl (fun _ => rfl) ⟨Nat.le_of_ble_eq_true rfl, Nat.le_of_ble_eq_true rfl⟩ (fun H hz hP hD hS => ?_)
  rw [he] at hz hP hD
  rw [hlen]
  refine lv_dup hx hb (by decide +kernel) rfl ?_
  refine zw_init (N0 := s.heap.size) (h := hm) (h2 := h1) (A := lz_A s) (own := R_law) (idx := 12) (M2 := mX12_init) (a := 41) (d2 := 7) (nc2 := 7) (ns2 := 5821) (f2 := false) hx hb hml hown hg hK hY hA hz hP hD hS hl.1 (by decide +kernel) ⟨⟨zq_tg (List.mem_of_getElem? (i := 686) rfl) rfl, zq_tg (List.mem_of_getElem? (i := 13) rfl) rfl, wX12_init, by decide +kernel⟩, rfl, rfl, zq_tg (List.mem_of_getElem? (i := 687) rfl) rfl⟩ hM ⟨Nat.le_of_ble_eq_true rfl, Nat.le_of_ble_eq_true rfl⟩ (show 1 + 0 ≤ 8 by decide) ⟨Nat.le_of_ble_eq_true rfl, Nat.le_of_ble_eq_true rfl⟩ (fun H locs hz hP hD hS => ?_)
  refine lv_astore_n (k := 2) (lv' := [(2, .ref (zk_ad s.heap.size 41)), (1, .ref (zk_ad s.heap.size 0)), (0, .ref b)]) hx hb (by decide +kernel) rfl hl (by decide) rfl (fun ls hl => ?_)
  refine lv_iconst (v := nI 0) (n := 0) hx hb (by decide +kernel) (by decide +kernel) ?_
  refine lv_istore_n (k := 3) (lv' := [(3, .int (nI 0)), (2, .ref (zk_ad s.heap.size 41)), (1, .ref (zk_ad s.heap.size 0)), (0, .ref b)]) hx hb (by decide +kernel) rfl hl (by decide) rfl (fun ls hl => ?_)
  exact lz_loop C hL (L + 1) 0 h1 (by omega) (by omega) hS1 H locs ls hP hD hS (lv_sub hl [3, 2, 1, 0] rfl)
theorem zh0_len : zh0.length = 41 := rfl
set_option maxHeartbeats 4000000 in
set_option maxRecDepth 100000 in
theorem start_x {p : Program} {e : Env} {s : State} {m : MethodId} {below : List Frame} {meth : Method} {c : Code} {l : Launch} {b L : Nat} {xs : Nat → Int32} {D : va_G} {cy : Nat → ClassId} (C : lz_C p s m meth c b L xs D cy) {h0 : zq_H} (hM : zk_P l mX11_init 4 40 918 true [.ref 0] [.inr (11, [.null, .int 0, .null, .null, .null, .null, .null, .null, .null, .null, .null])] h0) (kk : ∀ (H : Heap) (locs : List Loc) (ls : Array Slot), H.size = s.heap.size + h0.length → va_P D vwCl (zq_w (zk_ad s.heap.size) cy h0) H → va_D (lz_A s) (zq_w (zk_ad s.heap.size) cy h0) → va_S (lz_A s) s.heap H locs → lv_has ls 4 [(1, .ref (zk_ad s.heap.size 0)), (0, .ref b)] → W p l e room_1 s m #[Value.ref b] below meth c H locs 41 929 (lw_Z below #[Value.ref b] s) (F0 m 8 ls [])) : W p l e room_1 s m #[Value.ref b] below meth c s.heap [] 0 0 (lw_Z below #[Value.ref b] s) (entryFrame m ([Value.ref b] : List Value).toArray 4) := by
  obtain ⟨⟨hx, hb⟩, ⟨hr, hml, hlocks⟩, hown, hg, ⟨hX, hbl⟩, hK, hY⟩ := id C
  have hA : ∀ q : Nat, s.heap.size ≤ q → lz_A s q := fun _ h => h
  have hS : va_S (lz_A s) s.heap s.heap [] := va_S.rf
  have hP : va_P D vwCl (zq_w (zk_ad s.heap.size) cy []) s.heap := fun k q h => by simp [zq_w] at h
  have hD : va_D (lz_A s) (zq_w (zk_ad s.heap.size) cy []) := ⟨fun i j p q h => by simp [zq_w] at h, fun k q h => by simp [zq_w] at h⟩
  have hl := lv_entry ([.ref b]) (n := 4) (Nat.le_of_ble_eq_true rfl)
  rw [lg_entry_eq]
  generalize (lg_sl ([.ref b]) ++ List.replicate (4 - (lg_sl ([.ref b])).length) Slot.unset).toArray = ls at hl ⊢
  have hl : lv_has ls 4 [(0, .ref b)] := hl
  refine zw_new (N0 := s.heap.size) (h := []) (A := lz_A s) 11 (own := R_law) (idx := 7) (C := RX11) (T := TX11) (N := 11) (fs := [.null, .int 0, .null, .null, .null, .null, .null, .null, .null, .null, .null]) hx hb hown hg hK hA rfl hP hD hS (by decide +kernel) rfl ⟨zq_tg (List.mem_of_getElem? (i := 17) rfl) rfl, zq_tg (List.mem_of_getElem? (i := 18) rfl) rfl, zq_tg (List.mem_of_getElem? (i := 1) rfl) rfl⟩ rfl (fun _ => rfl) ⟨Nat.le_of_ble_eq_true rfl, Nat.le_of_ble_eq_true rfl⟩ (fun H hz hP hD hS => ?_)
  refine lv_dup hx hb (by decide +kernel) rfl ?_
  refine zw_init (N0 := s.heap.size) (h := [.inr (11, [.null, .int 0, .null, .null, .null, .null, .null, .null, .null, .null, .null])]) (h2 := h0) (A := lz_A s) (own := R_law) (idx := 9) (M2 := mX11_init) (a := 0) (d2 := 4) (nc2 := 40) (ns2 := 918) (f2 := true) hx hb hml hown hg hK hY hA hz hP hD hS hl.1 (by decide +kernel) ⟨⟨zq_tg (List.mem_of_getElem? (i := 19) rfl) rfl, zq_tg (List.mem_of_getElem? (i := 1) rfl) rfl, wX11_init, by decide +kernel⟩, rfl, rfl, zq_tg (List.mem_of_getElem? (i := 20) rfl) rfl⟩ hM ⟨Nat.le_of_ble_eq_true rfl, Nat.le_of_ble_eq_true rfl⟩ (show 1 + 0 ≤ 8 by decide) ⟨Nat.le_of_ble_eq_true rfl, Nat.le_of_ble_eq_true rfl⟩ (fun H locs hz hP hD hS => ?_)
  exact lv_astore_n (k := 1) (lv' := [(1, .ref (zk_ad s.heap.size 0)), (0, .ref b)]) hx hb (by decide +kernel) rfl hl (by decide) rfl (fun ls hl => kk H locs ls (hz rfl) hP hD hS hl)
theorem whole_start {p : Program} {e : Env} {s : State} {m : MethodId} {below : List Frame} {meth : Method} {c : Code} (l : Launch) {b L : Nat} {xs : Nat → Int32} (hL : L ≤ 256) (C0 : lw_At p s m meth c b L xs) : W p l e room_1 s m #[Value.ref b] below meth c s.heap [] 0 0 (lw_Z below #[Value.ref b] s) (entryFrame m ([Value.ref b] : List Value).toArray 4) := by
  obtain ⟨hx, hb, hr, hml, hown, hts, hX, hbl, hlocks, hgv⟩ := id C0
  obtain ⟨D, cy, hK, hY⟩ := zk_world hts
  have C : lz_C p s m meth c b L xs D cy := ⟨⟨hx, hb⟩, ⟨hr, hml, hlocks⟩, hown, fun w hw => hts w (zq_g_in hw), ⟨hX, hbl⟩, hK, hY⟩
  exact start_x C i_class (fun H locs ls hz hP hD hS hl => start_m hL C zh0_len rfl i_ref i_sim hz hP hD hS hl)
