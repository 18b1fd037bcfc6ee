/-! both sides in one heap -/
def mcl (tr : Int64) (tx : Nat → Int32) (ty : Int32) (td dr s im kp : Nat → Int32) (at_ so sr va : Int32) (wy : Nat → Int32) : Nat → zq_C := fun j => match j with
  | 0 => .inr (12, [.long tr, .ref 42, .int ty, .ref 43, .ref 44, .ref 45, .ref 46, .ref 47, .int at_, .int so, .int sr, .int va, .ref 48])
  | 1 => zA 200 tx
  | 2 => zA 32 td
  | 3 => zA 32 dr
  | 4 => zA 1849 s
  | 5 => zA 3698 im
  | 6 => zZ 2 kp
  | _ => zA 8 wy
def xcl (tx : Nat → Int32) (n : Int32) (t dr : zT) (rd : zR) (w i0 i1 : zN) (kp : Nat → Int32) (dd : Int32) (tr : Int64) : Nat → zq_C := fun j => (XH tx n t dr rd w i0 i1 kp dd tr (fun _ => .inr (0, []))).getD j (.inr (0, []))
theorem XM (tx : Nat → Int32) (n : Int32) (t dr : zT) (rd : zR) (w i0 i1 : zN) (kp : Nat → Int32) (dd : Int32) (tr : Int64) (tr' : Int64) (tx' : Nat → Int32) (ty : Int32) (td dr' s im kp' : Nat → Int32) (at_ so sr va : Int32) (wy : Nat → Int32) : XH tx n t dr rd w i0 i1 kp dd tr (mcl tr' tx' ty td dr' s im kp' at_ so sr va wy) = MH (xcl tx n t dr rd w i0 i1 kp dd tr) tr' tx' ty td dr' s im kp' at_ so sr va wy := rfl
def ImR (P k : Nat) (i : zN) (kp kp' im : Nat → Int32) : Prop := (kp k = 0 ∧ kp' k = 0) ∨ ((¬ kp k = 0 ∧ ¬ kp' k = 0) ∧ ∃ D N K, (i.1 = nI D ∧ i.2.2.1 = nI N ∧ i.2.2.2.1 = nI K) ∧ RS P D N K i.2.1 i.2.2.2.2.1 i.2.2.2.2.2.1 i.2.2.2.2.2.2.1 i.2.2.2.2.2.2.2 (fun j => im (1849 * k + j)))
def TxR (Z : Nat) (tx tx' : Nat → Int32) : Prop := Z ≤ 200 ∧ ∃ bt : Nat → Nat, ∀ j, j < Z → tx j = nI (bt j) ∧ tx' j = nI (bt j) ∧ bt j ≤ 255
def TdR (P C R L : Nat) (hs cs gs vs td : Nat → Int32) : Prop := (td 0 = nI P ∧ td 1 = nI C ∧ td 2 = nI R ∧ td 3 = nI L) ∧ (P ≤ 6 ∧ C ≤ 8 ∧ R ≤ 6 ∧ L ≤ 30) ∧ (∀ j, j < P → hs j = td (6 + j)) ∧ (∀ j, j < C → cs j = td (18 + j)) ∧ ∃ ga gv : Nat → Nat, ∀ j, j < R → gs j = nI (ga j) ∧ vs j = nI (gv j) ∧ td (26 + j) = nI (10 * ga j + gv j) ∧ ga j ≤ 7 ∧ gv j ≤ 7
def SR (Z P C R L D N K : Nat) (tx tx' hs cs gs vs td : Nat → Int32) (sm : Int32) (ce de ke se s : Nat → Int32) (i0 i1 : zN) (kp kp' im : Nat → Int32) (tr tr' : Int64) : Prop :=
  TxR Z tx tx' ∧ TdR P C R L hs cs gs vs td ∧ RS P D N K sm ce de ke se s ∧ ImR P 0 i0 kp kp' im ∧ ImR P 1 i1 kp kp' im ∧ tr = tr'
def Sim (H : zq_H) : Prop := ∃ (Z P C R L D N K : Nat) (tx tx' hs ss cs gs vs td : Nat → Int32) (dr : zT) (rd : zR) (sm : Int32) (ce de ke se s : Nat → Int32) (i0 i1 : zN) (kp kp' im : Nat → Int32) (dd : Int32) (tr tr' : Int64) (dr' : Nat → Int32) (at_ so sr va : Int32) (wy : Nat → Int32),
  H = XH tx (nI Z) (nI P, nI C, nI R, nI L, hs, ss, cs, gs, vs) dr rd (nI D, sm, nI N, nI K, ce, de, ke, se) i0 i1 kp dd tr (mcl tr' tx' (nI Z) td dr' s im kp' at_ so sr va wy) ∧ SR Z P C R L D N K tx tx' hs cs gs vs td sm ce de ke se s i0 i1 kp kp' im tr tr'
theorem sim_mk {Z P C R L D N K : Nat} {tx tx' hs ss cs gs vs td : Nat → Int32} {dr : zT} {rd : zR} {sm : Int32} {ce de ke se s : Nat → Int32} {i0 i1 : zN} {kp kp' im : Nat → Int32} {dd : Int32} {tr tr' : Int64} {dr' : Nat → Int32} {at_ so sr va : Int32} {wy : Nat → Int32} (h : SR Z P C R L D N K tx tx' hs cs gs vs td sm ce de ke se s i0 i1 kp kp' im tr tr') : Sim (XH tx (nI Z) (nI P, nI C, nI R, nI L, hs, ss, cs, gs, vs) dr rd (nI D, sm, nI N, nI K, ce, de, ke, se) i0 i1 kp dd tr (mcl tr' tx' (nI Z) td dr' s im kp' at_ so sr va wy)) :=
  ⟨Z, P, C, R, L, D, N, K, tx, tx', hs, ss, cs, gs, vs, td, dr, rd, sm, ce, de, ke, se, s, i0, i1, kp, kp', im, dd, tr, tr', dr', at_, so, sr, va, wy, rfl, h⟩
def RvO (rx : Nat × MethodName × ByteArray × Nat × Option FieldType) (r : Value) : Prop := (rx.2.2.2.2 = some .int ∧ ∃ v, r = .int v) ∨ (rx.2.2.2.2 = some .long ∧ ∃ v, r = .long v)
def Opx (l : Launch) (rx rm : Nat × MethodName × ByteArray × Nat × Option FieldType) (args : List Value) (H : zq_H) : Prop := ∃ r h1 h2 dx dm, (dx ≤ 7 ∧ dm ≤ 7 ∧ RvO rx r ∧ ∃ fs, zq_hp h1 41 = some (.inr (12, fs))) ∧ zq_P l rx dx (.ref 0 :: args) H (some r) h1 ∧ zq_P l rm dm (.ref 41 :: args) h1 (some r) h2 ∧ Sim h2
theorem opx {l : Launch} {rx rm : Nat × MethodName × ByteArray × Nat × Option FieldType} {args : List Value} {H : zq_H} {r r' : Value} {dx dm : Nat} {tx : Nat → Int32} {n : Int32} {t dr : zT} {rd : zR} {w i0 i1 : zN} {kp : Nat → Int32} {dd : Int32} {tr : Int64} {tr' tr2 : Int64} {tx' tx2 : Nat → Int32} {ty ty2 : Int32} {td dr' s im kp' td2 dr2 s2 im2 kp2 : Nat → Int32} {at_ so sr va at2 so2 sr2 va2 : Int32} {wy wy2 : Nat → Int32}
    (hx : zq_P l rx dx (.ref 0 :: args) H (some r) (XH tx n t dr rd w i0 i1 kp dd tr (mcl tr' tx' ty td dr' s im kp' at_ so sr va wy)))
    (hm : zq_P l rm dm (.ref 41 :: args) (MH (xcl tx n t dr rd w i0 i1 kp dd tr) tr' tx' ty td dr' s im kp' at_ so sr va wy) (some r') (MH (xcl tx n t dr rd w i0 i1 kp dd tr) tr2 tx2 ty2 td2 dr2 s2 im2 kp2 at2 so2 sr2 va2 wy2))
    (e : r = r') (d1 : dx ≤ 7) (d2 : dm ≤ 7) (hs : Sim (XH tx n t dr rd w i0 i1 kp dd tr (mcl tr2 tx2 ty2 td2 dr2 s2 im2 kp2 at2 so2 sr2 va2 wy2))) (hr : RvO rx r := by first | exact Or.inl ⟨rfl, _, rfl⟩ | exact Or.inr ⟨rfl, _, rfl⟩) : Opx l rx rm args H := by
  subst e
  exact ⟨r, _, _, dx, dm, ⟨d1, d2, hr, _, rfl⟩, hx, hm, hs⟩
theorem toN {x : Int32} (h : 0 ≤ x.toInt) : ∃ a : Nat, x = nI a ∧ (a : Int) = x.toInt := by
  refine ⟨x.toInt.toNat, ?_, by omega⟩
  rw [← zi_nat (z := x.toInt) (by omega), zi_self]
theorem bare_h {P p : Nat} {hs h2 : Nat → Int32} {sm : Int32} {cc : Nat → Nat} (h : ∀ j, j < P → hs j = h2 j) (hp : p < P) : bareB P hs sm cc p = bareB P h2 sm cc p := by
  unfold bareB
  rw [h p hp, zany_c (fun q hq => by rw [h q hq])]
theorem cloud_h {C D : Nat} {cs c2 : Nat → Int32} (h : ∀ j, j < C → cs j = c2 j) : zany (fun i => decide (cs i = nI D)) C = zany (fun i => decide (c2 i = nI D)) C := zany_c (fun i hi => by rw [h i hi])
theorem seen_h {P C D : Nat} {hs h2 cs c2 : Nat → Int32} {sm : Int32} {cn : Nat → Nat} (h : ∀ j, j < P → hs j = h2 j) (hc : ∀ j, j < C → cs j = c2 j) : zseen C cs D P hs sm cn = zseen C c2 D P h2 sm cn := by
  unfold zseen
  rw [cloud_h hc, orB_c (fun p hp => bare_h h hp)]
theorem own_h {N : Nat} {de d2 : Nat → Int32} (h : ∀ q, q < N * 5 → de q = d2 q) (x y z : Int32) : zown de N x y z = zown d2 N x y z := by
  unfold zown
  apply zls_c
  intro i hi
  refine ⟨?_, h _ (by omega)⟩
  unfold ownF
  rw [h _ (by omega), h _ (by omega), h _ (by omega)]
