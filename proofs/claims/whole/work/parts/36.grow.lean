/-! a machine that makes cells: the next one lies right behind all that are there -/
def zk_ad (N0 : Nat) : Nat → Nat := fun i => N0 + i
theorem zk_w_app (ad : Nat → Nat) (cy : Nat → ClassId) (h : zq_H) (c : zq_C) : zq_w ad cy (h ++ [c]) = zq_w ad cy h ++ [(ad h.length, zq_c ad cy c)] := by
  unfold zq_w
  rw [List.mapIdx_append]
  simp
def zk_Y (U : State) : Prop := zq_N U ∧ (∀ C ∈ [RX7, RX3, RX4, RX2, RX10], va_Nw (.castable C RX6) U) ∧ va_AO RX5 U ∧ va_AO RX6 U
theorem zk_Y.warm {s U : State} (hW : s.WarmedH U.vm) (h : zk_Y s) : zk_Y U := ⟨zq_N.warm hW h.1, fun C hC => va_Nw.warmC hW (h.2.1 C hC), h.2.2.1.moved hW.alike, h.2.2.2.moved hW.alike⟩
theorem zk_Y.same {s U : State} (hv : s.vm = U.vm) (h : zk_Y s) : zk_Y U := ⟨zq_N.same hv h.1, fun C hC => va_Nw.same rfl hv (h.2.1 C hC), h.2.2.1.moved (by rw [← hv]; exact Vm.Alike.refl _), h.2.2.2.moved (by rw [← hv]; exact Vm.Alike.refl _)⟩
def zk_R (d nc ns : Nat) : Room := { frames := d, cells := nc, slots := ns, locals := 35 * d }
def zk_X (M : zq_M) (D : va_G) (cy : Nat → ClassId) (p : Program) (s : State) (m : MethodId) (args : Array Value) (meth : Method) (c : Code) (A : Nat → Prop) : Prop :=
  zq_X M D cy p s m args meth c ∧ meth.name = "<init>" ∧ zk_Y s ∧ ∀ q : Nat, s.heap.size ≤ q → A q
def zk_Q (N0 : Nat) (D : va_G) (cy : Nat → ClassId) (A : Nat → Prop) (f : Bool) (h' : zq_H) : Array Value → State → Outcome → State → Prop := fun _ st o t =>
  o = .returned none ∧ (f = true → t.heap.size = N0 + h'.length) ∧ va_P D vwCl (zq_w (zk_ad N0) cy h') t.heap ∧ va_D A (zq_w (zk_ad N0) cy h') ∧ va_F A st t
def zk_G (l : Launch) (M : zq_M) (d nc ns : Nat) (f' : Bool) (h' : zq_H) (pc ce sl : Nat) (f : Bool) (σ : zq_S) : Prop :=
  ∀ (p : Program) (e : Env) (s : State) (m : MethodId) (args : Array Value) (below : List Frame) (meth : Method) (c : Code) (N0 : Nat) (D : va_G) (cy : Nat → ClassId) (A : Nat → Prop) (H : Heap) (locs : List Loc) (la : Array Slot),
    zk_X M D cy p s m args meth c A → (f = true → H.size = N0 + σ.2.2.length) → va_P D vwCl (zq_w (zk_ad N0) cy σ.2.2) H → va_D A (zq_w (zk_ad N0) cy σ.2.2) → va_S A s.heap H locs → lv_has la M.2.2.2.1 (σ.1.map (fun q => (q.1, zq_v (zk_ad N0) q.2))) →
    W p l e (zk_R d nc ns) s m args below meth c H locs ce sl (MQ below (zk_Q N0 D cy A f' h') args s nc ns A) (F0 m pc la (σ.2.1.map (zq_v (zk_ad N0))))
def zk_P (l : Launch) (M : zq_M) (d nc ns : Nat) (f' : Bool) (av : List Value) (h h' : zq_H) : Prop :=
  ∀ (N0 : Nat) (D : va_G) (cy : Nat → ClassId) (A : Nat → Prop), Met l M.2.1 (zq_ws M) (zk_R d nc ns) (va_Pc (av.map (zq_v (zk_ad N0))) (fun U => U.heap.size = N0 + h.length ∧ (∀ q : Nat, U.heap.size ≤ q → A q) ∧ va_P D vwCl (zq_w (zk_ad N0) cy h) U.heap ∧ va_K D vwCl (zq_t cy) U ∧ zk_Y U ∧ va_D A (zq_w (zk_ad N0) cy h))) (zk_Q N0 D cy A f' h') nc ns A
theorem zk_blind (av : List Value) (N0 : Nat) (D : va_G) (cy : Nat → ClassId) (A : Nat → Prop) (h : zq_H) : FrameBlind (va_Pc av (fun U => U.heap.size = N0 + h.length ∧ (∀ q : Nat, U.heap.size ≤ q → A q) ∧ va_P D vwCl (zq_w (zk_ad N0) cy h) U.heap ∧ va_K D vwCl (zq_t cy) U ∧ zk_Y U ∧ va_D A (zq_w (zk_ad N0) cy h))) := by
  intro a U g mk q
  obtain ⟨q0, qz, qA, q1, q2, q3, q4⟩ := q
  exact ⟨q0, qz, qA, q1, va_K.moved (u := U) (U := U.calling g mk a) (Vm.Alike.refl U.vm) q2, zk_Y.same (s := U) (U := U.calling g mk a) rfl q3, q4⟩
theorem zk_start {l : Launch} {M : zq_M} {d nc ns : Nat} {f' : Bool} {av : List Value} {h h' : zq_H} (hn : plainName M.2.1.cls = true) (hcl : M.2.1.cls = zq_cn M.1) (hi : M.2.1.name = "<init>") (hlen : (lg_sl av).length ≤ M.2.2.2.1) (k : zk_G l M d nc ns f' h' 0 0 0 true (lv_args 0 av, [], h)) : zk_P l M d nc ns f' av h h' := by
  intro N0 D cy A
  refine Met.ofW (cc := M.2.2.1) (maxL := M.2.2.2.1) (ret := M.2.2.2.2) hn rfl ?_
  intro p e s m args below meth c s₁ B hml hv
  obtain ⟨rfl, hz, hA, hP, hK, hY, hD⟩ := hv
  have hts := atoms_spec (ws := zq_ws M) B.pre
  have hown : s.vm.findClass M.2.1.cls = some m.cls := findClass_of_methodNamed B.named
  have hl := lv_entry (av.map (zq_v (zk_ad N0))) (n := M.2.2.2.1) (by rw [zq_lg]; exact hlen)
  rw [lg_entry_eq]
  rw [zq_args] at hl
  exact k p e s m _ below meth c N0 D cy A s.heap [] _ ⟨⟨B.exec, B.bytes, hml, B.returns, B.notSynchronized, by rw [← hcl]; exact hown, fun w hw => hts w (List.mem_cons_of_mem _ hw), hK, hY.1⟩, (name_of_methodNamed B.named B.method).1.trans hi, hY, hA⟩ (fun _ => hz) hP hD va_S.rf hl
/-- behind a call -/
theorem zk_after {p : Program} {l : Launch} {e : Env} {R : Room} {s : State} {m : MethodId} {args : Array Value} {below : List Frame} {meth : Method} {c : Code} {H : Heap} {locs : List Loc} {ce sl mc ms : Nat} {Q : State → Prop} {pc : Nat} {la : Array Slot} {st0 rest : List Value} {a : Array Value} {A : Nat → Prop} {N0 : Nat} {D : va_G} {cy : Nat → ClassId} {f2 : Bool} {h2 : zq_H}
    (hr : va_Run p l e R s m args below meth c H locs ce sl mc ms (F0 m pc la st0) rest (zk_Q N0 D cy A f2 h2 a) A) (hS : va_S A s.heap H locs)
    (kk : ∀ (H1 : Heap) (locs1 : List Loc), (f2 = true → H1.size = N0 + h2.length) → va_P D vwCl (zq_w (zk_ad N0) cy h2) H1 → va_D A (zq_w (zk_ad N0) cy h2) → va_S A s.heap H1 locs1 → W p l e R s m args below meth c H1 locs1 (ce + mc) (sl + ms) Q (F0 m (pc + 3) la rest)) : W p l e R s m args below meth c H locs ce sl Q (F0 m pc la st0) := by
  intro T hT X
  obtain ⟨v, st₀, t, T', L, h0, X', hL, e1, e2, ⟨hv, hz0, hP, hD, hz, hk⟩, st⟩ := hr T hT X
  cases hv
  rw [h0] at hz hk
  obtain ⟨t2, a1, b1⟩ := kk T'.heap (locs ++ L) (fun q => by rw [e1]; exact hz0 q) (by rw [e1]; exact hP) hD ⟨Nat.le_trans hS.1 (by rw [e1]; exact hz), fun q h1 h2 => by rw [e1, hk q (Nat.lt_of_lt_of_le h1 hS.1) h2]; exact hS.2.1 q h1 h2, fun q hq => by
      rcases List.mem_append.mp hq with h | h
      · exact hS.2.2 q h
      · exact hL q h⟩ T' rfl X'
  exact ⟨t2, st t2 a1, b1⟩
section ZK
variable {l : Launch} {M : zq_M} {d nc ns : Nat} {f' f : Bool} {h' : zq_H} {pc pc' ce sl : Nat} {ls : List (Nat × Value)} {st : List Value} {h h2 : zq_H}
theorem zk_al (j : Fin 4) {x : Nat} (hd : decode M.2.2.1 pc = .ok (.aload_n j, 1)) (hx : zq_ld j ls = some (.ref x)) (hp : pc + 1 = pc') (kk : zk_G l M d nc ns f' h' pc' ce sl f (ls, .ref x :: st, h)) : zk_G l M d nc ns f' h' pc ce sl f (ls, st, h) := by
  subst hp
  intro p e s m args below meth c N0 D cy A H locs la hX hz hP hD hS hl
  exact lv_aload_n hX.1.1 hX.1.2.1 hd rfl (zq_at hl hx) (kk p e s m args below meth c N0 D cy A H locs la hX hz hP hD hS hl)
theorem zk_ic (n : Int) (v : Int32) (hd : decode M.2.2.1 pc = .ok (.iconst n, 1)) (hv : Int32.ofInt n = v) (hp : pc + 1 = pc') (kk : zk_G l M d nc ns f' h' pc' ce sl f (ls, .int v :: st, h)) : zk_G l M d nc ns f' h' pc ce sl f (ls, st, h) := by
  subst hp
  intro p e s m args below meth c N0 D cy A H locs la hX hz hP hD hS hl
  exact lv_iconst hX.1.1 hX.1.2.1 hd hv (kk p e s m args below meth c N0 D cy A H locs la hX hz hP hD hS hl)
theorem zk_bi (n : Int) (v : Int32) (hd : decode M.2.2.1 pc = .ok (.bipush n, 2)) (hv : (Int8.ofInt n).toInt32 = v) (hp : pc + 2 = pc') (kk : zk_G l M d nc ns f' h' pc' ce sl f (ls, .int v :: st, h)) : zk_G l M d nc ns f' h' pc ce sl f (ls, st, h) := by
  subst hp
  intro p e s m args below meth c N0 D cy A H locs la hX hz hP hD hS hl
  exact lv_bipush hX.1.1 hX.1.2.1 hd hv (kk p e s m args below meth c N0 D cy A H locs la hX hz hP hD hS hl)
theorem zk_si (n : Int) (v : Int32) (hd : decode M.2.2.1 pc = .ok (.sipush n, 3)) (hv : (Int16.ofInt n).toInt32 = v) (hp : pc + 3 = pc') (kk : zk_G l M d nc ns f' h' pc' ce sl f (ls, .int v :: st, h)) : zk_G l M d nc ns f' h' pc ce sl f (ls, st, h) := by
  subst hp
  intro p e s m args below meth c N0 D cy A H locs la hX hz hP hD hS hl
  exact lv_sipush hX.1.1 hX.1.2.1 hd hv (kk p e s m args below meth c N0 D cy A H locs la hX hz hP hD hS hl)
theorem zk_dup {x : Nat} (hd : decode M.2.2.1 pc = .ok (.dup, 1)) (hp : pc + 1 = pc') (kk : zk_G l M d nc ns f' h' pc' ce sl f (ls, .ref x :: .ref x :: st, h)) : zk_G l M d nc ns f' h' pc ce sl f (ls, .ref x :: st, h) := by
  subst hp
  intro p e s m args below meth c N0 D cy A H locs la hX hz hP hD hS hl
  exact lv_dup hX.1.1 hX.1.2.1 hd rfl (kk p e s m args below meth c N0 D cy A H locs la hX hz hP hD hS hl)
theorem zk_pop {x : Int32} (hd : decode M.2.2.1 pc = .ok (.pop, 1)) (hp : pc + 1 = pc') (kk : zk_G l M d nc ns f' h' pc' ce sl f (ls, st, h)) : zk_G l M d nc ns f' h' pc ce sl f (ls, .int x :: st, h) := by
  subst hp
  intro p e s m args below meth c N0 D cy A H locs la hX hz hP hD hS hl
  exact lv_pop hX.1.1 hX.1.2.1 hd rfl (kk p e s m args below meth c N0 D cy A H locs la hX hz hP hD hS hl)
theorem zk_get (ci k : Nat) {idx a : Nat} {fs : List Value} {v : Value} (hd : decode M.2.2.1 pc = .ok (.getfield idx, 3)) (hf : (M.1, idx, ci, k) ∈ zq_fl) (hh : zq_hp h a = some (.inr (ci, fs))) (hv : zq_fd fs k = some v) (hp : pc + 3 = pc') (kk : zk_G l M d nc ns f' h' pc' ce sl f (ls, v :: st, h)) : zk_G l M d nc ns f' h' pc ce sl f (ls, .ref a :: st, h) := by
  subst hp
  intro p e s m args below meth c N0 D cy A H locs la hX hz hP hD hS hl
  rw [zq_hp_eq] at hh
  rw [zq_fd_eq] at hv
  obtain ⟨C, T, N, g1, g2, g3⟩ := zq_fl_at hf
  exact va_get hX.1.1 hX.1.2.1 hX.1.2.2.2.2.2.2.1 (zq_us g1) hX.1.2.2.2.2.2.1 hX.1.2.2.2.2.2.2.2.1 hP a (zq_w_at hh) g1 k g2 (hX.1.2.2.2.2.2.2.1 _ g3) (fun _ h9 => h9) (v := zq_v (zk_ad N0) v) (by simp [hv]) hd (kk p e s m args below meth c N0 D cy A H locs la hX hz hP hD hS hl)
theorem zk_obj {idx x : Nat} (hd : decode M.2.2.1 pc = .ok (.invokespecial idx, 3)) (hw : Cond.methodLink (zq_cn M.1) idx objectInit ∈ zq_g ∧ Cond.instanceMethod objectInit ∈ zq_g ∧ Cond.code objectInit ⟨#[0xb1]⟩ 1 none ∈ zq_g) (h1 : 1 ≤ d) (hp : pc + 3 = pc') (kk : zk_G l M d nc ns f' h' pc' ce sl f (ls, [], h)) : zk_G l M d nc ns f' h' pc ce sl f (ls, [.ref x], h) := by
  subst hp
  intro p e s m args below meth c N0 D cy A H locs la hX hz hP hD hS hl
  have hts := hX.1.2.2.2.2.2.2.1
  have hr := lv_room (m := m) (pc := pc) (ls := la) (rest := [.ref (zk_ad N0 x)]) (st := []) (by decide)
  refine W.objInit (rest := []) hX.1.1 hX.1.2.1 hX.1.2.2.2.2.2.1 (hts _ hw.1) (hts _ hw.2.1) (hts _ hw.2.2) rfl (by rw [hX.1.2.2.1]; exact hl.1) rfl hd h1 ?_ (kk p e s m args below meth c N0 D cy A H locs la hX hz hP hD hS hl)
  exact Nat.le_trans (Nat.add_le_add_right hr 12) (show 8 + 12 ≤ 35 * d by omega)
theorem zk_vret (hd : decode M.2.2.1 pc = .ok (.return_, 1)) (hr : M.2.2.2.2 = none) : zk_G l M d nc ns f h pc nc ns f (ls, [], h) := by
  intro p e s m args below meth c N0 D cy A H locs la hX hz hP hD hS hl
  exact W.vret hX.1.1 hX.1.2.1 (hX.1.2.2.2.1.trans hr) (fun t ht hW => ⟨rfl, by rw [ht]; exact hz, by rw [ht]; exact hP, hD, hS.F ht⟩) hS.2.2 hd hX.1.2.2.2.2.1
theorem zk_eq {h3 : zq_H} (e : h = h3) (k : zk_G l M d nc ns f' h' pc ce sl f (ls, st, h3)) : zk_G l M d nc ns f' h' pc ce sl f (ls, st, h) := e ▸ k
theorem zk_new (ci n : Nat) {idx : Nat} {C : String} {T : u_T} {N : Nat} {fs : List Value} (hd : decode M.2.2.1 pc = .ok (.new idx, 3)) (hc : vwCl[ci]? = some (C, T, N)) (hw : Cond.classLink (zq_cn M.1) idx C ∈ zq_g ∧ Cond.instantiable C N ∈ zq_g ∧ Cond.initialized C ∈ zq_g) (hfs : (List.range N).map (fun j => defaultValue (zq_ty ci j)) = (List.range N).map (fun j => vp_V fs j)) (hv : ∀ ad, fs.map (zq_v ad) = fs) (hn : h.length = n) (he : h ++ [.inr (ci, fs)] = h2) (hb : ce + 1 ≤ nc ∧ sl + N ≤ ns) (hp : pc + 3 = pc') (kk : zk_G l M d nc ns f' h' pc' (ce + 1) (sl + N) true (ls, .ref n :: st, h2)) : zk_G l M d nc ns f' h' pc ce sl true (ls, st, h) := by
  subst hp; subst hn; subst he
  intro p e s m args below meth c N0 D cy A H locs la hX hz hP hD hS hl
  replace hz := hz rfl
  have hts := hX.1.2.2.2.2.2.2.1
  have hK := hX.1.2.2.2.2.2.2.2.1
  have hKn := hK.1 ci _ hc
  refine W.newcK hX.1.1 hX.1.2.1 hX.1.2.2.2.2.2.1 (hts _ hw.1) (hts _ hw.2.1) (hts _ hw.2.2) rfl hd hb.1 hb.2 hKn.2.1 hz fun H1 kC hkC e1 z1 o1 => ?_
  have hk : ∀ (k : Nat) (x : Nat × va_E), (zq_w (zk_ad N0) cy h)[k]? = some x → H1[x.1]? = H[x.1]? := fun k x hx => o1 x.1 (by have := (hP k x hx).lt; rw [hz] at this; exact this)
  have hwe : zq_w (zk_ad N0) cy (h ++ [.inr (ci, fs)]) = zq_w (zk_ad N0) cy h ++ [(N0 + h.length, .inr (ci, fs))] := by
    rw [zk_w_app]
    show _ ++ [(_, Sum.inr (ci, fs.map (zq_v (zk_ad N0))))] = _
    rw [hv]; rfl
  refine kk p e s m args below meth c N0 D cy A H1 locs la hX (fun _ => by rw [z1, List.length_append]; rfl) ?_ ?_ ⟨Nat.le_trans hS.1 (by rw [z1, hz]; omega), fun x h1 h2 => (o1 x (by have := Nat.lt_of_lt_of_le h1 hS.1; rw [hz] at this; exact this)).trans (hS.2.1 x h1 h2), hS.2.2⟩ hl
  · show va_P D vwCl (zq_w (zk_ad N0) cy (h ++ [.inr (ci, fs)])) H1
    rw [hwe]
    refine (hP.kept hk).app (fun k x hx => ?_)
    have hq : k < 1 := (List.getElem?_eq_some_iff.mp hx).1
    rw [show k = 0 by omega] at hx
    cases hx
    refine ⟨_, hc, (u_born (zq_ty ci) hts (zq_us hc) hKn hkC e1 (zq_ty_ok hc)).to (fun j hj => ?_)⟩
    have := congrArg (fun l => l[j]?) hfs
    simpa [hj] using this
  · show va_D A (zq_w (zk_ad N0) cy (h ++ [.inr (ci, fs)]))
    rw [hwe]
    exact hD.push hP hz.symm (hX.2.2.2 _ (by rw [← hz]; exact hS.1))
theorem zk_newa (t n : Nat) {at_ : ArrayType} {x : Int32} {N : Nat} (hd : decode M.2.2.1 pc = .ok (.newarray at_, 2)) (ht : (newarray.typeOf at_ = .int ∧ t = 0) ∨ (newarray.typeOf at_ = .boolean ∧ t = 1)) (hw : Cond.arrayClass (newarray.typeOf at_) ∈ zq_g) (hx : ¬ x < 0 ∧ x.toNatClampNeg = N ∧ N * componentBytes (newarray.typeOf at_) ≤ 536870912) (hn : h.length = n) (he : h ++ [(.inl (t, N, .inl (fun _ => 0)) : zq_C)] = h2) (hb : ce + 1 ≤ nc ∧ sl + N ≤ ns) (hp : pc + 2 = pc') (kk : zk_G l M d nc ns f' h' pc' (ce + 1) (sl + N) true (ls, .ref n :: st, h2)) : zk_G l M d nc ns f' h' pc ce sl true (ls, .int x :: st, h) := by
  subst hp; subst hn; subst he
  intro p e s m args below meth c N0 D cy A H locs la hX hz hP hD hS hl
  replace hz := hz rfl
  have hts := hX.1.2.2.2.2.2.2.1
  have hK := hX.1.2.2.2.2.2.2.2.1
  refine va_newaK hX.1.1 hX.1.2.1 (hts _ hw) rfl hd rfl hx.1 hx.2.1 hx.2.2 hb.1 hb.2 hz fun H1 cA e1 z1 o1 hAr hNm => ?_
  have hk : ∀ (k : Nat) (x : Nat × va_E), (zq_w (zk_ad N0) cy h)[k]? = some x → H1[x.1]? = H[x.1]? := fun k x hx => o1 x.1 (by have := (hP k x hx).lt; rw [hz] at this; exact this)
  have hcA : vp_cell (cy t) (N, .inl (fun _ => 0)) = arrV cA N (fun _ => defaultValue (newarray.typeOf at_)) := by
    rcases ht with ⟨g1, rfl⟩ | ⟨g1, rfl⟩
    · have hra : s.vm.findClass ("[" ++ (FieldType.int).toString) = some (cy 0) := (hK.2 0 _ rfl).2
      rw [g1] at hNm ⊢
      rw [Option.some.inj (hNm.symm.trans hra)]
      rfl
    · have hra : s.vm.findClass ("[" ++ (FieldType.boolean).toString) = some (cy 1) := (hK.2 1 _ rfl).2
      rw [g1] at hNm ⊢
      rw [Option.some.inj (hNm.symm.trans hra)]
      rfl
  have hwe : zq_w (zk_ad N0) cy (h ++ [(.inl (t, N, .inl (fun _ => 0)) : zq_C)]) = zq_w (zk_ad N0) cy h ++ [(N0 + h.length, .inl (cy t, N, .inl (fun _ => 0)))] := zk_w_app _ _ _ _
  refine kk p e s m args below meth c N0 D cy A H1 locs la hX (fun _ => by rw [z1, List.length_append]; rfl) ?_ ?_ ⟨Nat.le_trans hS.1 (by rw [z1, hz]; omega), fun x h1 h2 => (o1 x (by have := Nat.lt_of_lt_of_le h1 hS.1; rw [hz] at this; exact this)).trans (hS.2.1 x h1 h2), hS.2.2⟩ hl
  · show va_P D vwCl (zq_w (zk_ad N0) cy (h ++ [(.inl (t, N, .inl (fun _ => 0)) : zq_C)])) H1
    rw [hwe]
    refine (hP.kept hk).app (fun k x hx => ?_)
    have hq : k < 1 := (List.getElem?_eq_some_iff.mp hx).1
    rw [show k = 0 by omega] at hx
    cases hx
    show H1[N0 + h.length]? = some (vp_cell (cy t) (N, .inl (fun _ => 0)))
    rw [hcA]
    exact e1
  · show va_D A (zq_w (zk_ad N0) cy (h ++ [(.inl (t, N, .inl (fun _ => 0)) : zq_C)]))
    rw [hwe]
    exact hD.push hP hz.symm (hX.2.2.2 _ (by rw [← hz]; exact hS.1))
end ZK
