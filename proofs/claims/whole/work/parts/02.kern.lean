/-! an abstract machine over a heap of cells with numbers for addresses: what a step of it does, the real one does -/
abbrev zq_C : Type := (Nat × vp_A) ⊕ (Nat × List Value)
abbrev zq_H : Type := List zq_C
abbrev zq_M : Type := Nat × MethodName × ByteArray × Nat × Option FieldType
abbrev zq_S : Type := List (Nat × Value) × List Value × zq_H
def zq_v (ad : Nat → Nat) : Value → Value
  | .ref a => .ref (ad a)
  | v => v
def zq_a (ad : Nat → Nat) : vp_A → vp_A
  | (n, .inr (.inr (.inr (.inr f)))) => (n, .inr (.inr (.inr (.inr (fun j => (f j).map ad)))))
  | x => x
def zq_c (ad : Nat → Nat) (cy : Nat → ClassId) : zq_C → va_E
  | .inl (k, x) => .inl (cy k, zq_a ad x)
  | .inr (ci, fs) => .inr (ci, fs.map (zq_v ad))
def zq_w (ad : Nat → Nat) (cy : Nat → ClassId) (h : zq_H) : va_W := h.mapIdx (fun i c => (ad i, zq_c ad cy c))
theorem zq_w_at {ad : Nat → Nat} {cy : Nat → ClassId} {h : zq_H} {i : Nat} {c : zq_C} (hi : h[i]? = some c) : (zq_w ad cy h)[i]? = some (ad i, zq_c ad cy c) := by
  simp [zq_w, List.getElem?_mapIdx, hi]
theorem zq_w_set (ad : Nat → Nat) (cy : Nat → ClassId) (h : zq_H) (i : Nat) (c : zq_C) : (zq_w ad cy h).set i (ad i, zq_c ad cy c) = zq_w ad cy (h.set i c) := by
  apply List.ext_getElem?
  intro j
  unfold zq_w
  by_cases hij : i = j
  · subst hij
    by_cases hl : i < h.length
    · rw [List.getElem?_set_self (by rw [List.length_mapIdx]; exact hl), List.getElem?_mapIdx, List.getElem?_set_self hl]; rfl
    · rw [List.getElem?_eq_none (by rw [List.length_set, List.length_mapIdx]; omega), List.getElem?_eq_none (by rw [List.length_mapIdx, List.length_set]; omega)]
  · rw [List.getElem?_set_ne hij, List.getElem?_mapIdx, List.getElem?_mapIdx, List.getElem?_set_ne hij]
def zq_t (cy : Nat → ClassId) : List (ClassId × FieldType) := [(cy 0, .int), (cy 1, .boolean), (cy 2, .object "SquareLate$Now"), (cy 3, .object "SquareLate$Plain")]
def zq_g : List Cond := lw_tbl.filter goodWord
theorem zq_g_in {w : Cond} (h : w ∈ zq_g) : w ∈ lw_tbl := (List.mem_filter.mp h).1
theorem zq_g_good {w : Cond} (h : w ∈ zq_g) : goodWord w = true := (List.mem_filter.mp h).2
def zq_isN : Cond → Bool
  | .methodLinkNest .. => true
  | _ => false
def zq_n : List Cond := lw_tbl.filter zq_isN
def zq_N (U : State) : Prop := ∀ w ∈ zq_n, va_Nw w U
theorem zq_N.warm {s U : State} (hW : s.WarmedH U.vm) (h : zq_N s) : zq_N U := by
  intro w hw
  have h1 := h w hw
  have h2 := (List.mem_filter.mp hw).2
  cases w <;> simp [zq_isN] at h2
  exact va_Nw.warmM hW h1
theorem zq_N.same {s U : State} (hv : s.vm = U.vm) (h : zq_N s) : zq_N U := by
  intro w hw
  have h1 := h w hw
  have h2 := (List.mem_filter.mp hw).2
  cases w <;> simp [zq_isN] at h2
  exact va_Nw.same rfl hv h1
def zq_cw (M : zq_M) : Cond := Cond.code M.2.1 M.2.2.1 M.2.2.2.1 M.2.2.2.2
def zq_ws (M : zq_M) : List Cond := zq_cw M :: zq_g
theorem zq_good {M : zq_M} (h : zq_cw M ∈ zq_g) : GoodIn zq_g (zq_ws M) := by
  intro w hw
  have h1 : w ∈ zq_g := (List.mem_cons.mp hw).elim (fun e => by rw [e]; exact h) id
  exact ⟨h1, good_of_word (zq_g_good h1)⟩
def zq_R (d : Nat) : Room := { frames := d, cells := 0, slots := 0, locals := 35 * d }
def zq_cn (o : Nat) : String := ([RX0, RX1, RX2, RX3, RX4, RX5, RX6, RX7, RX8, RX9, RX10, RX11, RX12, RJ6, RJ9] : List String).getD o ""
def zq_X (M : zq_M) (D : va_G) (cy : Nat → ClassId) (p : Program) (s : State) (m : MethodId) (args : Array Value) (meth : Method) (c : Code) : Prop :=
  p.tables.exec = Jvm.exec ∧ c.code = M.2.2.1 ∧ c.maxLocals = M.2.2.2.1 ∧ meth.sig.returnType = M.2.2.2.2 ∧ meth.locks = false ∧ s.vm.findClass (zq_cn M.1) = some m.cls ∧ (∀ w ∈ zq_g, w.before args s = true) ∧ va_K D vwCl (zq_t cy) s ∧ zq_N s
def zq_Q (ad : Nat → Nat) (D : va_G) (cy : Nat → ClassId) (A : Nat → Prop) (r : Option Value) (h' : zq_H) : Array Value → State → Outcome → State → Prop := fun _ st o t =>
  o = .returned (r.map (zq_v ad)) ∧ va_P D vwCl (zq_w ad cy h') t.heap ∧ va_D A (zq_w ad cy h') ∧ va_F A st t
def zq_G (l : Launch) (M : zq_M) (d : Nat) (r : Option Value) (h' : zq_H) (pc : Nat) (σ : zq_S) : Prop :=
  ∀ (p : Program) (e : Env) (s : State) (m : MethodId) (args : Array Value) (below : List Frame) (meth : Method) (c : Code) (ad : Nat → Nat) (D : va_G) (cy : Nat → ClassId) (A : Nat → Prop) (H : Heap) (locs : List Loc) (la : Array Slot),
    zq_X M D cy p s m args meth c → va_P D vwCl (zq_w ad cy σ.2.2) H → va_D A (zq_w ad cy σ.2.2) → va_S A s.heap H locs → lv_has la M.2.2.2.1 (σ.1.map (fun q => (q.1, zq_v ad q.2))) →
    W p l e (zq_R d) s m args below meth c H locs 0 0 (MQ below (zq_Q ad D cy A r h') args s 0 0 A) (F0 m pc la (σ.2.1.map (zq_v ad)))
/-- the contract of a method in this machine's words -/
def zq_P (l : Launch) (M : zq_M) (d : Nat) (av : List Value) (h : zq_H) (r : Option Value) (h' : zq_H) : Prop :=
  ∀ (ad : Nat → Nat) (D : va_G) (cy : Nat → ClassId) (A : Nat → Prop), Met l M.2.1 (zq_ws M) (zq_R d) (va_Pc (av.map (zq_v ad)) (fun U => va_P D vwCl (zq_w ad cy h) U.heap ∧ va_K D vwCl (zq_t cy) U ∧ zq_N U ∧ va_D A (zq_w ad cy h))) (zq_Q ad D cy A r h') 0 0 A
abbrev zq_O0 : Type := (zq_M → Nat → Nat → Instr → Option Nat) × (zq_S → (zq_S → Prop) → Prop)
def zq_ok (o : zq_O0) : Prop := ∀ (l : Launch) (M : zq_M) (d : Nat) (r : Option Value) (h' : zq_H) (pc len pc' : Nat) (i : Instr) (σ : zq_S) (K : zq_S → Prop),
  decode M.2.2.1 pc = .ok (i, len) → o.1 M pc len i = some pc' → (∀ σ', K σ' → zq_G l M d r h' pc' σ') → o.2 σ K → zq_G l M d r h' pc σ
abbrev zq_O : Type := { o : zq_O0 // zq_ok o }
def zq_run : List zq_O → zq_S → (zq_S → Prop) → Prop
  | [], σ, K => K σ
  | o :: os, σ, K => o.1.2 σ (fun σ1 => zq_run os σ1 K)
/-- the pc behind a stretch, if the bytes there are its instructions -/
def zq_chk (M : zq_M) : List zq_O → Nat → Option Nat
  | [], pc => some pc
  | q :: os, pc => match decode M.2.2.1 pc with
    | .ok (i, len) => match q.1.1 M pc len i with
      | some pc' => zq_chk M os pc'
      | none => none
    | .error _ => none
theorem zq_blk {l : Launch} {M : zq_M} {d : Nat} {r : Option Value} {h' : zq_H} {pc : Nat} {σ : zq_S} (os : List zq_O) (pc' : Nat) (hc : zq_chk M os pc = some pc') (hr : zq_run os σ (fun σ' => zq_G l M d r h' pc' σ')) : zq_G l M d r h' pc σ := by
  induction os generalizing pc σ with
  | nil =>
    simp only [zq_chk, Option.some.injEq] at hc
    subst hc
    exact hr
  | cons o os ih =>
    unfold zq_chk at hc
    split at hc
    · rename_i i len hd
      split at hc
      · rename_i pc1 h1
        exact o.2 l M d r h' pc len pc1 i σ _ hd h1 (fun σ' hk => ih hc hk) hr
      · cases hc
    · cases hc
theorem zq_lv {la : Array Slot} {n : Nat} {l l' : List (Nat × Value)} (h : lv_has la n l) (hs : ∀ q ∈ l', q ∈ l) : lv_has la n l' := ⟨h.1, h.2.1, fun q hq => h.2.2 q (hs q hq)⟩
def zq_ins (i : Nat) (v : Value) : List (Nat × Value) → List (Nat × Value)
  | [] => [(i, v)]
  | q :: l => bif Nat.blt q.1 i then q :: zq_ins i v l else (i, v) :: q :: l
theorem zq_ins_mem {i : Nat} {v : Value} {l : List (Nat × Value)} {q : Nat × Value} (h : q ∈ zq_ins i v l) : q = (i, v) ∨ q ∈ l := by
  induction l with
  | nil => exact Or.inl (List.mem_singleton.mp h)
  | cons a l ih =>
    unfold zq_ins at h
    cases hb : Nat.blt a.1 i with
    | true =>
      rw [hb, cond_true] at h
      rcases List.mem_cons.mp h with h | h
      · exact Or.inr (List.mem_cons.mpr (Or.inl h))
      · exact (ih h).imp id (fun z => List.mem_cons_of_mem _ z)
    | false =>
      rw [hb, cond_false] at h
      rcases List.mem_cons.mp h with h | h
      · exact Or.inl h
      · exact Or.inr h
def zq_s1 (i : Nat) (v : Value) (l : List (Nat × Value)) : List (Nat × Value) := zq_ins i v (l.filter (fun q => !(q.1 == i) && !(q.1 + 1 == i && q.2.category == 2)))
def zq_s2 (i : Nat) (v : Value) (l : List (Nat × Value)) : List (Nat × Value) := zq_ins i v (l.filter (fun q => !(q.1 == i) && (!(q.1 == i + 1) && !(q.1 + 1 == i && q.2.category == 2))))
def zq_ld (i : Nat) : List (Nat × Value) → Option Value
  | [] => none
  | q :: l => bif Nat.beq q.1 i then some q.2 else zq_ld i l
theorem zq_ld_mem {i : Nat} {l : List (Nat × Value)} {v : Value} (h : zq_ld i l = some v) : (i, v) ∈ l := by
  induction l with
  | nil => cases h
  | cons a l ih =>
    unfold zq_ld at h
    cases hb : Nat.beq a.1 i with
    | true =>
      rw [hb, cond_true] at h
      cases h
      have := Nat.eq_of_beq_eq_true hb
      subst this
      exact List.mem_cons_self
    | false =>
      rw [hb, cond_false] at h
      exact List.mem_cons_of_mem _ (ih h)
theorem zq_cat (ad : Nat → Nat) (v : Value) : (zq_v ad v).category = v.category := by cases v <;> rfl
theorem zq_at {ad : Nat → Nat} {la : Array Slot} {n i : Nat} {l : List (Nat × Value)} {v : Value} (hl : lv_has la n (l.map (fun q => (q.1, zq_v ad q.2)))) (h : zq_ld i l = some v) : la[i]? = some (.val (zq_v ad v)) :=
  hl.2.2 (i, zq_v ad v) (List.mem_map.mpr ⟨(i, v), zq_ld_mem h, rfl⟩)
theorem zq_s1_has {ad : Nat → Nat} {la : Array Slot} {n i : Nat} {v : Value} {l : List (Nat × Value)} (h : lv_has la n ((i, zq_v ad v) :: (l.map (fun q => (q.1, zq_v ad q.2))).filter (fun q => !(q.1 == i) && !(q.1 + 1 == i && q.2.category == 2)))) : lv_has la n ((zq_s1 i v l).map (fun q => (q.1, zq_v ad q.2))) := by
  refine zq_lv h fun q hq => ?_
  obtain ⟨x, hx, rfl⟩ := List.mem_map.mp hq
  rcases zq_ins_mem hx with rfl | hx
  · exact List.mem_cons_self
  · obtain ⟨h1, h2⟩ := List.mem_filter.mp hx
    refine List.mem_cons_of_mem _ (List.mem_filter.mpr ⟨List.mem_map.mpr ⟨x, h1, rfl⟩, ?_⟩)
    show (!(x.1 == i) && !(x.1 + 1 == i && (zq_v ad x.2).category == 2)) = true
    rw [zq_cat]
    exact h2
theorem zq_s2_has {ad : Nat → Nat} {la : Array Slot} {n i : Nat} {v : Value} {l : List (Nat × Value)} (h : lv_has la n ((i, zq_v ad v) :: (l.map (fun q => (q.1, zq_v ad q.2))).filter (fun q => !(q.1 == i) && (!(q.1 == i + 1) && !(q.1 + 1 == i && q.2.category == 2))))) : lv_has la n ((zq_s2 i v l).map (fun q => (q.1, zq_v ad q.2))) := by
  refine zq_lv h fun q hq => ?_
  obtain ⟨x, hx, rfl⟩ := List.mem_map.mp hq
  rcases zq_ins_mem hx with rfl | hx
  · exact List.mem_cons_self
  · obtain ⟨h1, h2⟩ := List.mem_filter.mp hx
    refine List.mem_cons_of_mem _ (List.mem_filter.mpr ⟨List.mem_map.mpr ⟨x, h1, rfl⟩, ?_⟩)
    show (!(x.1 == i) && (!(x.1 == i + 1) && !(x.1 + 1 == i && (zq_v ad x.2).category == 2))) = true
    rw [zq_cat]
    exact h2
def zq_is (j : Instr) (n : Nat) : zq_M → Nat → Nat → Instr → Option Nat := fun _ pc len i => if i = j ∧ len = n then some (pc + n) else none
theorem zq_is_spec {j : Instr} {o : zq_M} {n pc len : Nat} {i : Instr} {pc' : Nat} (h : zq_is j n o pc len i = some pc') : i = j ∧ len = n ∧ pc' = pc + n := by
  unfold zq_is at h
  split at h
  · rename_i hq
    cases h
    exact ⟨hq.1, hq.2, rfl⟩
  · cases h
