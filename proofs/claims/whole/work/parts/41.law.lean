/-! the law: its words out of the skeleton, and what holds all through its walk -/
def R_law : String := "SquareLateLaw"
def lw_P (b : Addr) (xs : List Int32) (args : Array Value) (s : State) : Prop := args = #[.ref b] ∧ s.IntsAt b xs ∧ xs.length ≤ 256 ∧ (Jvm.Cond.and given_1 narrow_1).before args s = true
def lw_Q (_ : Array Value) (s : State) (o : Outcome) (t : State) : Prop := o = .returned (some (.int 1)) ∧ Framed s o t [] 49 6763
def lw_Z (below : List Frame) (a : Array Value) (s : State) : State → Prop := fun t => ∃ o, t.status = .running ∧ Ended t below o ∧ lw_Q a s o t
/-- the law's own end, with 1 on the stack, nothing written that was there before, its room as the claim has it -/
theorem lw_ret {p : Program} {l : Launch} {e : Env} {s : State} {m : MethodId} {below : List Frame} {meth : Method} {c : Code} {b : Nat} (hx : p.tables.exec = Jvm.exec) (hb : c.code = code) (hr : meth.sig.returnType = ret) (hlocks : meth.locks = false) {pc : Nat} {H : Heap} {ls : Array Slot} (hdg : decode code pc = .ok (.ireturn, 1)) : W p l e room_1 s m #[Value.ref b] below meth c H [] 49 6763 (lw_Z below #[Value.ref b] s) (F0 m pc ls [.int 1]) := by
  intro T hT X
  obtain ⟨fs, hret, hrun, hended, hW, hframe⟩ := X.leave (v := some (.int 1)) (hlocks := hlocks) (fun h => by rw [hr] at h; cases h)
  have hmeth' : T.vm.method? m = some meth := X.method'
  refine ⟨T.setFrames fs, ?_, .returned (some (.int 1)), hrun, hended, rfl, ⟨_, rfl⟩, hW, hframe⟩
  jvm_step X.here [X.here.top, hx, hb, hdg, hmeth', hr, ret, narrow_b1]
  (try refine ⟨rfl, ?_⟩); (try refine ⟨rfl, ?_⟩)
  first | (intro acts; rw [hret _ acts rfl rfl rfl]) | rw [hret _ _ rfl rfl rfl]
  exact Steps.refl _
/-- what holds at the law's entry: the machine, the code, the tables' words (any of lw_tbl by 'hts w (by decide +kernel)'), the script of L ints xs at the cell b, what the Statement gives of the start (any of its parts by flat_of_before) -/
def lw_At (p : Program) (s : State) (m : MethodId) (meth : Method) (c : Code) (b L : Nat) (xs : Nat → Int32) : Prop :=
  p.tables.exec = Jvm.exec ∧ c.code = code ∧ meth.sig.returnType = ret ∧ c.maxLocals = 4 ∧ s.vm.findClass R_law = some m.cls ∧ (∀ w ∈ lw_tbl, w.before #[Value.ref b] s = true) ∧ va_X b L xs s s.heap ∧ b < s.heap.size ∧ meth.locks = false ∧ (Jvm.Cond.and given_1 narrow_1).before #[Value.ref b] s = true

def lz_C (p : Program) (s : State) (m : MethodId) (meth : Method) (c : Code) (b L : Nat) (xs : Nat → Int32) (D : va_G) (cy : Nat → ClassId) : Prop :=
  (p.tables.exec = Jvm.exec ∧ c.code = code) ∧ (meth.sig.returnType = ret ∧ c.maxLocals = 4 ∧ meth.locks = false) ∧ s.vm.findClass R_law = some m.cls ∧ (∀ w ∈ zq_g, w.before #[Value.ref b] s = true) ∧ (va_X b L xs s s.heap ∧ b < s.heap.size) ∧ va_K D vwCl (zq_t cy) s ∧ zk_Y s
def lz_A (s : State) : Nat → Prop := fun q => s.heap.size ≤ q
def lz_G (l : Launch) (p : Program) (e : Env) (s : State) (m : MethodId) (below : List Frame) (meth : Method) (c : Code) (b : Nat) (D : va_G) (cy : Nat → ClassId) (i : Int32) (pc : Nat) (st : List Value) (h : zq_H) : Prop :=
  ∀ (H : Heap) (locs : List Loc) (la : Array Slot), va_P D vwCl (zq_w (zk_ad s.heap.size) cy h) H → va_D (lz_A s) (zq_w (zk_ad s.heap.size) cy h) → va_S (lz_A s) s.heap H locs → lv_has la 4 [(0, .ref b), (1, .ref (zk_ad s.heap.size 0)), (2, .ref (zk_ad s.heap.size 41)), (3, .int i)] →
    W p l e room_1 s m #[Value.ref b] below meth c H locs 49 6763 (lw_Z below #[Value.ref b] s) (F0 m pc la st)
def lz_cv (idx : Nat) (M2 : zq_M) (n : Nat) : Prop := Cond.methodLink R_law idx M2.2.1 ∈ zq_g ∧ Cond.initialized M2.2.1.cls ∈ zq_g ∧ zq_cw M2 ∈ zq_g ∧ (M2.2.1.cls ≠ "java/lang/invoke/MethodHandle" ∧ M2.2.1.cls ≠ "java/lang/invoke/VarHandle" ∧ (parseMethodDescriptor M2.2.1.desc).map (fun d => d.parameters.length) = some n) ∧ Cond.instanceMethod M2.2.1 ∈ zq_g ∧ Cond.selects M2.2.1.cls M2.2.1 M2.2.1 ∈ zq_g
section LZ
variable {l : Launch} {p : Program} {e : Env} {s : State} {m : MethodId} {below : List Frame} {meth : Method} {c : Code} {b L : Nat} {xs : Nat → Int32} {D : va_G} {cy : Nat → ClassId} {i : Int32} {pc : Nat} {h h1 : zq_H}
theorem lz_call (C : lz_C p s m meth c b L xs D cy) {M2 : zq_M} {d2 idx n a ci : Nat} {av rest fs : List Value} {r : Value} (hd : decode code pc = .ok (.invokevirtual idx, 3)) (hw : lz_cv idx M2 n) (hM : zq_P l M2 d2 (.ref a :: av) h (some r) h1) (hd2 : d2 ≤ 7) (hL : M2.2.2.2.1 ≤ 40) (hn : av.length = n) (hh : zq_hp h a = some (.inr (ci, fs))) (hci : (vwCl[ci]?).map (fun q => q.1) = some M2.2.1.cls) (hsum : (rest.map fun v => v.category).sum ≤ 8)
    (kk : lz_G l p e s m below meth c b D cy i (pc + 3) (zq_v (zk_ad s.heap.size) r :: rest) h1) : lz_G l p e s m below meth c b D cy i pc ((av.map (zq_v (zk_ad s.heap.size))).reverse ++ .ref (zk_ad s.heap.size a) :: rest) h := by
  intro H locs la hP hD hS hl
  obtain ⟨w1, w2, w3, w4, w5, w6⟩ := hw
  have hts := C.2.2.2.1
  obtain ⟨q, hq, hq2⟩ := Option.map_eq_some_iff.mp hci
  rw [zq_hp_eq] at hh
  have hrec := va_recv C.2.2.2.2.2.1 hP hq (zq_w_at hh)
  rw [hq2] at hrec
  have hrun := va_runV (R := room_1) (Ts := zq_g) (As := av.map (zq_v (zk_ad s.heap.size))) (rest := rest) (b := zk_ad s.heap.size a) (below := below) (locs := locs) (cells := 49) (slots := 6763) (e := e) (meth := meth) (g := F0 m pc la ((av.map (zq_v (zk_ad s.heap.size))).reverse ++ .ref (zk_ad s.heap.size a) :: rest)) ⟨C.1.1, C.1.2, C.2.1.2.1, C.2.2.1, hts⟩ (hM (zk_ad s.heap.size) D cy (lz_A s)) ⟨callB_of n hts (zq_good w3) rfl rfl rfl (hts _ w2) (hts _ w1) w4 ⟨show d2 + 1 ≤ 10 by omega, show 8 + (M2.2.2.2.1 + 11) + 35 * d2 ≤ 358 by omega⟩, hts _ w5, hts _ w6⟩ ⟨zq_blind _ (zk_ad s.heap.size) D cy (lz_A s) h, hrec, fun U hU hW => ⟨rfl, by rw [hU]; exact hP, va_K.moved hW.alike C.2.2.2.2.2.1, zq_N.warm hW C.2.2.2.2.2.2.1, hD⟩⟩ rfl (by rw [List.length_map]; exact hn) hl.1 rfl (lv_room hsum) hd ⟨Nat.le_refl 49, Nat.le_refl 6763⟩
  intro T hT X
  obtain ⟨v, st₀, t, T', L', h0, X', hL', e1, e2, ⟨hv, hP1, hD1, hz1, hk1⟩, stp⟩ := hrun T hT X
  cases hv
  rw [h0] at hz1 hk1
  have kk2 := kk T'.heap (locs ++ L') la (by rw [e1]; exact hP1) hD1 ⟨Nat.le_trans hS.1 (by rw [e1]; exact hz1), fun q h1 h2 => by rw [e1, hk1 q (Nat.lt_of_lt_of_le h1 hS.1) h2]; exact hS.2.1 q h1 h2, fun q hq => by
      rcases List.mem_append.mp hq with h | h
      · exact hS.2.2 q h
      · exact hL' q h⟩ hl
  obtain ⟨t2, a1, b1⟩ := kk2 T' rfl X'
  exact ⟨t2, stp t2 a1, b1⟩
end LZ
def lz_d : Nat → List (Instr × Nat) → Bool
  | _, [] => true
  | pc, q :: l => decide (decode code pc = .ok q) && lz_d (pc + q.2) l
theorem sim_x {h : zq_H} (hS : Sim h) : ∃ fs, zq_hp h 0 = some (.inr (11, fs)) := by
  obtain ⟨Z, P, C, R, L, D, N, K, tx, tx', hs, ss, cs, gs, vs, td, dr, rd, sm, ce, de, ke, se, s, i0, i1, kp, kp', im, dd, tr, tr', dr', at_, so, sr, va, wy, rfl, hSR⟩ := hS
  exact ⟨_, rfl⟩
theorem lg_same (v : Int64) : lg_cmp v v = 0 := by simp [lg_cmp]
