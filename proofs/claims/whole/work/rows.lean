section
/-! names -/
/-- a private method of a class that the tables say can be made, by its rows of tables_1 -/
def lw_okq (q : MethodName × Nat) : Prop := (q.1.cls ≠ "java/lang/invoke/MethodHandle" ∧ q.1.cls ≠ "java/lang/invoke/VarHandle") ∧ Cond.instantiable q.1.cls q.2 ∈ tables_1 ∧ Cond.privateMethod q.1 ∈ tables_1 ∧ Cond.instanceMethod q.1 ∈ tables_1
theorem lw_p0 : lw_okq (⟨"SquareLate$Reader", "nextToken", "()V"⟩, 8) := ⟨⟨by decide +kernel, by decide +kernel⟩, List.mem_of_getElem? (i := 80) (by decide +kernel), List.mem_of_getElem? (i := 298) (by decide +kernel), List.mem_of_getElem? (i := 299) (by decide +kernel)⟩
theorem lw_p1 : lw_okq (⟨"SquareLate$Reader", "takeLetters", "()V"⟩, 8) := ⟨⟨by decide +kernel, by decide +kernel⟩, List.mem_of_getElem? (i := 80) (by decide +kernel), List.mem_of_getElem? (i := 305) (by decide +kernel), List.mem_of_getElem? (i := 306) (by decide +kernel)⟩
theorem lw_p2 : lw_okq (⟨"SquareLate$Reader", "takeDigits", "()V"⟩, 8) := ⟨⟨by decide +kernel, by decide +kernel⟩, List.mem_of_getElem? (i := 80) (by decide +kernel), List.mem_of_getElem? (i := 312) (by decide +kernel), List.mem_of_getElem? (i := 313) (by decide +kernel)⟩
theorem lw_p3 : lw_okq (⟨"SquareLate$Reader", "readItem", "()Z"⟩, 8) := ⟨⟨by decide +kernel, by decide +kernel⟩, List.mem_of_getElem? (i := 80) (by decide +kernel), List.mem_of_getElem? (i := 316) (by decide +kernel), List.mem_of_getElem? (i := 317) (by decide +kernel)⟩
theorem lw_p4 : lw_okq (⟨"SquareLate$Reader", "readPerson", "()Z"⟩, 8) := ⟨⟨by decide +kernel, by decide +kernel⟩, List.mem_of_getElem? (i := 80) (by decide +kernel), List.mem_of_getElem? (i := 320) (by decide +kernel), List.mem_of_getElem? (i := 321) (by decide +kernel)⟩
theorem lw_p5 : lw_okq (⟨"SquareLate$Reader", "readNumber", "(II)Z"⟩, 8) := ⟨⟨by decide +kernel, by decide +kernel⟩, List.mem_of_getElem? (i := 80) (by decide +kernel), List.mem_of_getElem? (i := 324) (by decide +kernel), List.mem_of_getElem? (i := 325) (by decide +kernel)⟩
theorem lw_p6 : lw_okq (⟨"SquareLate$Reader", "readStop", "()Z"⟩, 8) := ⟨⟨by decide +kernel, by decide +kernel⟩, List.mem_of_getElem? (i := 80) (by decide +kernel), List.mem_of_getElem? (i := 328) (by decide +kernel), List.mem_of_getElem? (i := 329) (by decide +kernel)⟩
theorem lw_p7 : lw_okq (⟨"SquareLate$Reader", "readLate", "()Z"⟩, 8) := ⟨⟨by decide +kernel, by decide +kernel⟩, List.mem_of_getElem? (i := 80) (by decide +kernel), List.mem_of_getElem? (i := 332) (by decide +kernel), List.mem_of_getElem? (i := 333) (by decide +kernel)⟩
theorem lw_p8 : lw_okq (⟨"SquareLate$Reader", "readCloud", "()Z"⟩, 8) := ⟨⟨by decide +kernel, by decide +kernel⟩, List.mem_of_getElem? (i := 80) (by decide +kernel), List.mem_of_getElem? (i := 336) (by decide +kernel), List.mem_of_getElem? (i := 337) (by decide +kernel)⟩
theorem lw_p9 : lw_okq (⟨"SquareLate$Reader", "readRule", "()Z"⟩, 8) := ⟨⟨by decide +kernel, by decide +kernel⟩, List.mem_of_getElem? (i := 80) (by decide +kernel), List.mem_of_getElem? (i := 344) (by decide +kernel), List.mem_of_getElem? (i := 345) (by decide +kernel)⟩
theorem lw_p10 : lw_okq (⟨"SquareLate$Now", "isInSmoke", "(I)Z"⟩, 9) := ⟨⟨by decide +kernel, by decide +kernel⟩, List.mem_of_getElem? (i := 111) (by decide +kernel), List.mem_of_getElem? (i := 388) (by decide +kernel), List.mem_of_getElem? (i := 389) (by decide +kernel)⟩
theorem lw_p11 : lw_okq (⟨"SquareLate$Now", "remember", "(III)V"⟩, 9) := ⟨⟨by decide +kernel, by decide +kernel⟩, List.mem_of_getElem? (i := 111) (by decide +kernel), List.mem_of_getElem? (i := 420) (by decide +kernel), List.mem_of_getElem? (i := 421) (by decide +kernel)⟩
theorem lw_p12 : lw_okq (⟨"SquareLate$Claims", "leastActsDoer", "(III)I"⟩, 2) := ⟨⟨by decide +kernel, by decide +kernel⟩, List.mem_of_getElem? (i := 152) (by decide +kernel), List.mem_of_getElem? (i := 492) (by decide +kernel), List.mem_of_getElem? (i := 493) (by decide +kernel)⟩
theorem lw_p13 : lw_okq (⟨"SquareLate$Claims", "lastDoer", "(III)I"⟩, 2) := ⟨⟨by decide +kernel, by decide +kernel⟩, List.mem_of_getElem? (i := 152) (by decide +kernel), List.mem_of_getElem? (i := 497) (by decide +kernel), List.mem_of_getElem? (i := 498) (by decide +kernel)⟩
theorem lw_p14 : lw_okq (⟨"SquareLate$Told", "actsAcross", "(I[I[I)I"⟩, 9) := ⟨⟨by decide +kernel, by decide +kernel⟩, List.mem_of_getElem? (i := 26) (by decide +kernel), List.mem_of_getElem? (i := 506) (by decide +kernel), List.mem_of_getElem? (i := 507) (by decide +kernel)⟩
theorem lw_p15 : lw_okq (⟨"SquareLate$Now", "nearestRow", "(II)I"⟩, 9) := ⟨⟨by decide +kernel, by decide +kernel⟩, List.mem_of_getElem? (i := 111) (by decide +kernel), List.mem_of_getElem? (i := 547) (by decide +kernel), List.mem_of_getElem? (i := 548) (by decide +kernel)⟩
def lw_privs_1 : List (MethodName × Nat) := [(⟨"SquareLate$Reader", "nextToken", "()V"⟩, 8), (⟨"SquareLate$Reader", "takeLetters", "()V"⟩, 8), (⟨"SquareLate$Reader", "takeDigits", "()V"⟩, 8), (⟨"SquareLate$Reader", "readItem", "()Z"⟩, 8), (⟨"SquareLate$Reader", "readPerson", "()Z"⟩, 8), (⟨"SquareLate$Reader", "readNumber", "(II)Z"⟩, 8), (⟨"SquareLate$Reader", "readStop", "()Z"⟩, 8), (⟨"SquareLate$Reader", "readLate", "()Z"⟩, 8), (⟨"SquareLate$Reader", "readCloud", "()Z"⟩, 8), (⟨"SquareLate$Reader", "readRule", "()Z"⟩, 8), (⟨"SquareLate$Now", "isInSmoke", "(I)Z"⟩, 9), (⟨"SquareLate$Now", "remember", "(III)V"⟩, 9), (⟨"SquareLate$Claims", "leastActsDoer", "(III)I"⟩, 2), (⟨"SquareLate$Claims", "lastDoer", "(III)I"⟩, 2), (⟨"SquareLate$Told", "actsAcross", "(I[I[I)I"⟩, 9), (⟨"SquareLate$Now", "nearestRow", "(II)I"⟩, 9)]
theorem lw_r1 : ∀ q ∈ lw_privs_1, lw_okq q := List.forall_mem_cons.mpr ⟨lw_p0, List.forall_mem_cons.mpr ⟨lw_p1, List.forall_mem_cons.mpr ⟨lw_p2, List.forall_mem_cons.mpr ⟨lw_p3, List.forall_mem_cons.mpr ⟨lw_p4, List.forall_mem_cons.mpr ⟨lw_p5, List.forall_mem_cons.mpr ⟨lw_p6, List.forall_mem_cons.mpr ⟨lw_p7, List.forall_mem_cons.mpr ⟨lw_p8, List.forall_mem_cons.mpr ⟨lw_p9, List.forall_mem_cons.mpr ⟨lw_p10, List.forall_mem_cons.mpr ⟨lw_p11, List.forall_mem_cons.mpr ⟨lw_p12, List.forall_mem_cons.mpr ⟨lw_p13, List.forall_mem_cons.mpr ⟨lw_p14, List.forall_mem_cons.mpr ⟨lw_p15, fun _ h => absurd h List.not_mem_nil⟩⟩⟩⟩⟩⟩⟩⟩⟩⟩⟩⟩⟩⟩⟩⟩
theorem lw_p16 : lw_okq (⟨"SquareLate$Now", "farthestRow", "(II)I"⟩, 9) := ⟨⟨by decide +kernel, by decide +kernel⟩, List.mem_of_getElem? (i := 111) (by decide +kernel), List.mem_of_getElem? (i := 552) (by decide +kernel), List.mem_of_getElem? (i := 553) (by decide +kernel)⟩
theorem lw_p17 : lw_okq (⟨"SquareLateModel", "reads", "()Z"⟩, 13) := ⟨⟨by decide +kernel, by decide +kernel⟩, List.mem_of_getElem? (i := 685) (by decide +kernel), List.mem_of_getElem? (i := 691) (by decide +kernel), List.mem_of_getElem? (i := 692) (by decide +kernel)⟩
theorem lw_p18 : lw_okq (⟨"SquareLateModel", "token", "()V"⟩, 13) := ⟨⟨by decide +kernel, by decide +kernel⟩, List.mem_of_getElem? (i := 685) (by decide +kernel), List.mem_of_getElem? (i := 695) (by decide +kernel), List.mem_of_getElem? (i := 696) (by decide +kernel)⟩
theorem lw_p19 : lw_okq (⟨"SquareLateModel", "byteAt", "(I)I"⟩, 13) := ⟨⟨by decide +kernel, by decide +kernel⟩, List.mem_of_getElem? (i := 685) (by decide +kernel), List.mem_of_getElem? (i := 699) (by decide +kernel), List.mem_of_getElem? (i := 700) (by decide +kernel)⟩
theorem lw_p20 : lw_okq (⟨"SquareLateModel", "readsItem", "()Z"⟩, 13) := ⟨⟨by decide +kernel, by decide +kernel⟩, List.mem_of_getElem? (i := 685) (by decide +kernel), List.mem_of_getElem? (i := 712) (by decide +kernel), List.mem_of_getElem? (i := 713) (by decide +kernel)⟩
theorem lw_p21 : lw_okq (⟨"SquareLateModel", "readsPerson", "()Z"⟩, 13) := ⟨⟨by decide +kernel, by decide +kernel⟩, List.mem_of_getElem? (i := 685) (by decide +kernel), List.mem_of_getElem? (i := 716) (by decide +kernel), List.mem_of_getElem? (i := 717) (by decide +kernel)⟩
theorem lw_p22 : lw_okq (⟨"SquareLateModel", "number", "(III)Z"⟩, 13) := ⟨⟨by decide +kernel, by decide +kernel⟩, List.mem_of_getElem? (i := 685) (by decide +kernel), List.mem_of_getElem? (i := 720) (by decide +kernel), List.mem_of_getElem? (i := 721) (by decide +kernel)⟩
theorem lw_p23 : lw_okq (⟨"SquareLateModel", "readsLate", "()Z"⟩, 13) := ⟨⟨by decide +kernel, by decide +kernel⟩, List.mem_of_getElem? (i := 685) (by decide +kernel), List.mem_of_getElem? (i := 724) (by decide +kernel), List.mem_of_getElem? (i := 725) (by decide +kernel)⟩
theorem lw_p24 : lw_okq (⟨"SquareLateModel", "readsCloud", "()Z"⟩, 13) := ⟨⟨by decide +kernel, by decide +kernel⟩, List.mem_of_getElem? (i := 685) (by decide +kernel), List.mem_of_getElem? (i := 728) (by decide +kernel), List.mem_of_getElem? (i := 729) (by decide +kernel)⟩
theorem lw_p25 : lw_okq (⟨"SquareLateModel", "readsRule", "()Z"⟩, 13) := ⟨⟨by decide +kernel, by decide +kernel⟩, List.mem_of_getElem? (i := 685) (by decide +kernel), List.mem_of_getElem? (i := 732) (by decide +kernel), List.mem_of_getElem? (i := 733) (by decide +kernel)⟩
theorem lw_p26 : lw_okq (⟨"SquareLateModel", "tells", "()V"⟩, 13) := ⟨⟨by decide +kernel, by decide +kernel⟩, List.mem_of_getElem? (i := 685) (by decide +kernel), List.mem_of_getElem? (i := 736) (by decide +kernel), List.mem_of_getElem? (i := 737) (by decide +kernel)⟩
theorem lw_p27 : lw_okq (⟨"SquareLateModel", "isPerson", "(I)Z"⟩, 13) := ⟨⟨by decide +kernel, by decide +kernel⟩, List.mem_of_getElem? (i := 685) (by decide +kernel), List.mem_of_getElem? (i := 796) (by decide +kernel), List.mem_of_getElem? (i := 797) (by decide +kernel)⟩
theorem lw_p28 : lw_okq (⟨"SquareLateModel", "isSeen", "(I)Z"⟩, 13) := ⟨⟨by decide +kernel, by decide +kernel⟩, List.mem_of_getElem? (i := 685) (by decide +kernel), List.mem_of_getElem? (i := 800) (by decide +kernel), List.mem_of_getElem? (i := 801) (by decide +kernel)⟩
theorem lw_p29 : lw_okq (⟨"SquareLateModel", "isBare", "(III)Z"⟩, 13) := ⟨⟨by decide +kernel, by decide +kernel⟩, List.mem_of_getElem? (i := 685) (by decide +kernel), List.mem_of_getElem? (i := 804) (by decide +kernel), List.mem_of_getElem? (i := 805) (by decide +kernel)⟩
theorem lw_p30 : lw_okq (⟨"SquareLateModel", "isCloud", "(I)Z"⟩, 13) := ⟨⟨by decide +kernel, by decide +kernel⟩, List.mem_of_getElem? (i := 685) (by decide +kernel), List.mem_of_getElem? (i := 808) (by decide +kernel), List.mem_of_getElem? (i := 809) (by decide +kernel)⟩
theorem lw_p31 : lw_okq (⟨"SquareLateModel", "seenNow", "()I"⟩, 13) := ⟨⟨by decide +kernel, by decide +kernel⟩, List.mem_of_getElem? (i := 685) (by decide +kernel), List.mem_of_getElem? (i := 820) (by decide +kernel), List.mem_of_getElem? (i := 821) (by decide +kernel)⟩
def lw_privs_2 : List (MethodName × Nat) := [(⟨"SquareLate$Now", "farthestRow", "(II)I"⟩, 9), (⟨"SquareLateModel", "reads", "()Z"⟩, 13), (⟨"SquareLateModel", "token", "()V"⟩, 13), (⟨"SquareLateModel", "byteAt", "(I)I"⟩, 13), (⟨"SquareLateModel", "readsItem", "()Z"⟩, 13), (⟨"SquareLateModel", "readsPerson", "()Z"⟩, 13), (⟨"SquareLateModel", "number", "(III)Z"⟩, 13), (⟨"SquareLateModel", "readsLate", "()Z"⟩, 13), (⟨"SquareLateModel", "readsCloud", "()Z"⟩, 13), (⟨"SquareLateModel", "readsRule", "()Z"⟩, 13), (⟨"SquareLateModel", "tells", "()V"⟩, 13), (⟨"SquareLateModel", "isPerson", "(I)Z"⟩, 13), (⟨"SquareLateModel", "isSeen", "(I)Z"⟩, 13), (⟨"SquareLateModel", "isBare", "(III)Z"⟩, 13), (⟨"SquareLateModel", "isCloud", "(I)Z"⟩, 13), (⟨"SquareLateModel", "seenNow", "()I"⟩, 13)]
theorem lw_r2 : ∀ q ∈ lw_privs_2, lw_okq q := List.forall_mem_cons.mpr ⟨lw_p16, List.forall_mem_cons.mpr ⟨lw_p17, List.forall_mem_cons.mpr ⟨lw_p18, List.forall_mem_cons.mpr ⟨lw_p19, List.forall_mem_cons.mpr ⟨lw_p20, List.forall_mem_cons.mpr ⟨lw_p21, List.forall_mem_cons.mpr ⟨lw_p22, List.forall_mem_cons.mpr ⟨lw_p23, List.forall_mem_cons.mpr ⟨lw_p24, List.forall_mem_cons.mpr ⟨lw_p25, List.forall_mem_cons.mpr ⟨lw_p26, List.forall_mem_cons.mpr ⟨lw_p27, List.forall_mem_cons.mpr ⟨lw_p28, List.forall_mem_cons.mpr ⟨lw_p29, List.forall_mem_cons.mpr ⟨lw_p30, List.forall_mem_cons.mpr ⟨lw_p31, fun _ h => absurd h List.not_mem_nil⟩⟩⟩⟩⟩⟩⟩⟩⟩⟩⟩⟩⟩⟩⟩⟩
theorem lw_p32 : lw_okq (⟨"SquareLateModel", "keeps", "()V"⟩, 13) := ⟨⟨by decide +kernel, by decide +kernel⟩, List.mem_of_getElem? (i := 685) (by decide +kernel), List.mem_of_getElem? (i := 828) (by decide +kernel), List.mem_of_getElem? (i := 829) (by decide +kernel)⟩
theorem lw_p33 : lw_okq (⟨"SquareLateModel", "isDeed", "(I)Z"⟩, 13) := ⟨⟨by decide +kernel, by decide +kernel⟩, List.mem_of_getElem? (i := 685) (by decide +kernel), List.mem_of_getElem? (i := 859) (by decide +kernel), List.mem_of_getElem? (i := 860) (by decide +kernel)⟩
theorem lw_p34 : lw_okq (⟨"SquareLateModel", "holderBy", "(III)I"⟩, 13) := ⟨⟨by decide +kernel, by decide +kernel⟩, List.mem_of_getElem? (i := 685) (by decide +kernel), List.mem_of_getElem? (i := 871) (by decide +kernel), List.mem_of_getElem? (i := 872) (by decide +kernel)⟩
theorem lw_p35 : lw_okq (⟨"SquareLateModel", "ownHolder", "(III)I"⟩, 13) := ⟨⟨by decide +kernel, by decide +kernel⟩, List.mem_of_getElem? (i := 685) (by decide +kernel), List.mem_of_getElem? (i := 875) (by decide +kernel), List.mem_of_getElem? (i := 876) (by decide +kernel)⟩
theorem lw_p36 : lw_okq (⟨"SquareLateModel", "laysWays", "(I)V"⟩, 13) := ⟨⟨by decide +kernel, by decide +kernel⟩, List.mem_of_getElem? (i := 685) (by decide +kernel), List.mem_of_getElem? (i := 879) (by decide +kernel), List.mem_of_getElem? (i := 880) (by decide +kernel)⟩
theorem lw_p37 : lw_okq (⟨"SquareLateModel", "isPeople", "(I)Z"⟩, 13) := ⟨⟨by decide +kernel, by decide +kernel⟩, List.mem_of_getElem? (i := 685) (by decide +kernel), List.mem_of_getElem? (i := 899) (by decide +kernel), List.mem_of_getElem? (i := 900) (by decide +kernel)⟩
def lw_privs_3 : List (MethodName × Nat) := [(⟨"SquareLateModel", "keeps", "()V"⟩, 13), (⟨"SquareLateModel", "isDeed", "(I)Z"⟩, 13), (⟨"SquareLateModel", "holderBy", "(III)I"⟩, 13), (⟨"SquareLateModel", "ownHolder", "(III)I"⟩, 13), (⟨"SquareLateModel", "laysWays", "(I)V"⟩, 13), (⟨"SquareLateModel", "isPeople", "(I)Z"⟩, 13)]
theorem lw_r3 : ∀ q ∈ lw_privs_3, lw_okq q := List.forall_mem_cons.mpr ⟨lw_p32, List.forall_mem_cons.mpr ⟨lw_p33, List.forall_mem_cons.mpr ⟨lw_p34, List.forall_mem_cons.mpr ⟨lw_p35, List.forall_mem_cons.mpr ⟨lw_p36, List.forall_mem_cons.mpr ⟨lw_p37, fun _ h => absurd h List.not_mem_nil⟩⟩⟩⟩⟩⟩
def lw_privs : List (MethodName × Nat) := lw_privs_1 ++ (lw_privs_2 ++ (lw_privs_3))
def lw_tbl : List Cond := k2_sels lw_privs ++ tables_1
theorem lw_privs_ok : ∀ q ∈ lw_privs, lw_okq q := by
  show ∀ q ∈ lw_privs_1 ++ (lw_privs_2 ++ (lw_privs_3)), lw_okq q
  exact List.forall_mem_append.mpr ⟨lw_r1, List.forall_mem_append.mpr ⟨lw_r2, lw_r3⟩⟩
def RX0 : String := "SquareLate$Asked"
def TX0 : u_T := fun k => match k with
  | 0 => ("SquareLate$Asked", "told", "LSquareLate$Told;", true)
  | 1 => ("SquareLate$Asked", "now", "LSquareLate$Now;", true)
  | 2 => ("SquareLate$Asked", "deed", "I", false)
  | _ => ("SquareLate$Asked", "trace", "J", false)
def tyX0 : Nat → FieldType := fun k => match k with
  | 0 => .object "SquareLate$Told"
  | 1 => .object "SquareLate$Now"
  | 2 => .int
  | _ => .long
theorem nmX0 : ∀ a, a < 4 → ∀ b, b < 4 → a ≠ b → (TX0 a).2.1 ≠ (TX0 b).2.1 := by decide +kernel
theorem tyX0_ok : ∀ k, k < 4 → parseFieldDescriptor (TX0 k).2.2.1 = some (tyX0 k) := by decide +kernel
abbrev cX0_init : ByteArray := prog_2_method_1_code
def yX0_init : MethodName := ⟨RX0, "<init>", "(LSquareLate$Told;LSquareLate$Now;)V"⟩
abbrev cX0_get : ByteArray := prog_2_method_2_code
def yX0_get : MethodName := ⟨RX0, "get", "(I)I"⟩
def RX1 : String := "SquareLate$Claims"
def TX1 : u_T := fun k => match k with
  | 0 => ("SquareLate$Claims", "told", "LSquareLate$Told;", true)
  | _ => ("SquareLate$Claims", "now", "LSquareLate$Now;", true)
def tyX1 : Nat → FieldType := fun k => match k with
  | 0 => .object "SquareLate$Told"
  | _ => .object "SquareLate$Now"
theorem nmX1 : ∀ a, a < 2 → ∀ b, b < 2 → a ≠ b → (TX1 a).2.1 ≠ (TX1 b).2.1 := by decide +kernel
theorem tyX1_ok : ∀ k, k < 2 → parseFieldDescriptor (TX1 k).2.2.1 = some (tyX1 k) := by decide +kernel
abbrev cX1_init : ByteArray := prog_3_method_1_code
def yX1_init : MethodName := ⟨RX1, "<init>", "(LSquareLate$Told;LSquareLate$Now;)V"⟩
abbrev cX1_whoHolds : ByteArray := prog_3_method_2_code
def yX1_whoHolds : MethodName := ⟨RX1, "whoHolds", "(III)I"⟩
abbrev cX1_leastActsDoer : ByteArray := prog_3_method_3_code
def yX1_leastActsDoer : MethodName := ⟨RX1, "leastActsDoer", "(III)I"⟩
abbrev cX1_lastDoer : ByteArray := prog_3_method_4_code
def yX1_lastDoer : MethodName := ⟨RX1, "lastDoer", "(III)I"⟩
abbrev cX1_comesBack : ByteArray := prog_3_method_5_code
def yX1_comesBack : MethodName := ⟨RX1, "comesBack", "(I)Z"⟩
def RX2 : String := "SquareLate$Clouded"
def TX2 : u_T := fun k => match k with
  | _ => ("", "", "", false)
def tyX2 : Nat → FieldType := fun k => match k with
  | _ => .int
theorem nmX2 : ∀ a, a < 0 → ∀ b, b < 0 → a ≠ b → (TX2 a).2.1 ≠ (TX2 b).2.1 := by decide +kernel
theorem tyX2_ok : ∀ k, k < 0 → parseFieldDescriptor (TX2 k).2.2.1 = some (tyX2 k) := by decide +kernel
abbrev cX2_init : ByteArray := prog_4_method_1_code
def yX2_init : MethodName := ⟨RX2, "<init>", "()V"⟩
abbrev cX2_worth : ByteArray := prog_4_method_2_code
def yX2_worth : MethodName := ⟨RX2, "worth", "(LSquareLate$Asked;)I"⟩
def RX3 : String := "SquareLate$Hidden"
def TX3 : u_T := fun k => match k with
  | _ => ("", "", "", false)
def tyX3 : Nat → FieldType := fun k => match k with
  | _ => .int
theorem nmX3 : ∀ a, a < 0 → ∀ b, b < 0 → a ≠ b → (TX3 a).2.1 ≠ (TX3 b).2.1 := by decide +kernel
theorem tyX3_ok : ∀ k, k < 0 → parseFieldDescriptor (TX3 k).2.2.1 = some (tyX3 k) := by decide +kernel
abbrev cX3_init : ByteArray := prog_5_method_1_code
def yX3_init : MethodName := ⟨RX3, "<init>", "()V"⟩
abbrev cX3_worth : ByteArray := prog_5_method_2_code
def yX3_worth : MethodName := ⟨RX3, "worth", "(LSquareLate$Asked;)I"⟩
def RX4 : String := "SquareLate$Lawful"
def TX4 : u_T := fun k => match k with
  | _ => ("", "", "", false)
def tyX4 : Nat → FieldType := fun k => match k with
  | _ => .int
theorem nmX4 : ∀ a, a < 0 → ∀ b, b < 0 → a ≠ b → (TX4 a).2.1 ≠ (TX4 b).2.1 := by decide +kernel
theorem tyX4_ok : ∀ k, k < 0 → parseFieldDescriptor (TX4 k).2.2.1 = some (tyX4 k) := by decide +kernel
abbrev cX4_init : ByteArray := prog_6_method_1_code
def yX4_init : MethodName := ⟨RX4, "<init>", "()V"⟩
abbrev cX4_worth : ByteArray := prog_6_method_2_code
def yX4_worth : MethodName := ⟨RX4, "worth", "(LSquareLate$Asked;)I"⟩
def RX5 : String := "SquareLate$Now"
def TX5 : u_T := fun k => match k with
  | 0 => ("SquareLate$Now", "told", "LSquareLate$Told;", true)
  | 1 => ("SquareLate$Now", "day", "I", false)
  | 2 => ("SquareLate$Now", "smoke", "I", false)
  | 3 => ("SquareLate$Now", "deeds", "I", false)
  | 4 => ("SquareLate$Now", "steps", "I", false)
  | 5 => ("SquareLate$Now", "cells", "[I", true)
  | 6 => ("SquareLate$Now", "deedRows", "[I", true)
  | 7 => ("SquareLate$Now", "keptRow", "[I", true)
  | _ => ("SquareLate$Now", "stepRows", "[I", true)
def tyX5 : Nat → FieldType := fun k => match k with
  | 0 => .object "SquareLate$Told"
  | 1 => .int
  | 2 => .int
  | 3 => .int
  | 4 => .int
  | 5 => .array .int
  | 6 => .array .int
  | 7 => .array .int
  | _ => .array .int
theorem nmX5 : ∀ a, a < 9 → ∀ b, b < 9 → a ≠ b → (TX5 a).2.1 ≠ (TX5 b).2.1 := by decide +kernel
theorem tyX5_ok : ∀ k, k < 9 → parseFieldDescriptor (TX5 k).2.2.1 = some (tyX5 k) := by decide +kernel
abbrev cX5_init : ByteArray := prog_7_method_1_code
def yX5_init : MethodName := ⟨RX5, "<init>", "(LSquareLate$Told;)V"⟩
abbrev cX5_begin : ByteArray := prog_7_method_2_code
def yX5_begin : MethodName := ⟨RX5, "begin", "()V"⟩
abbrev cX5_become : ByteArray := prog_7_method_3_code
def yX5_become : MethodName := ⟨RX5, "become", "(LSquareLate$Now;)V"⟩
abbrev cX5_move : ByteArray := prog_7_method_4_code
def yX5_move : MethodName := ⟨RX5, "move", "(II)I"⟩
abbrev cX5_turnSmoke : ByteArray := prog_7_method_5_code
def yX5_turnSmoke : MethodName := ⟨RX5, "turnSmoke", "(I)V"⟩
abbrev cX5_act : ByteArray := prog_7_method_6_code
def yX5_act : MethodName := ⟨RX5, "act", "(II)I"⟩
abbrev cX5_passDay : ByteArray := prog_7_method_7_code
def yX5_passDay : MethodName := ⟨RX5, "passDay", "()V"⟩
abbrev cX5_remember : ByteArray := prog_7_method_8_code
def yX5_remember : MethodName := ⟨RX5, "remember", "(III)V"⟩
abbrev cX5_takeBack : ByteArray := prog_7_method_9_code
def yX5_takeBack : MethodName := ⟨RX5, "takeBack", "()V"⟩
abbrev cX5_hasDeed : ByteArray := prog_7_method_10_code
def yX5_hasDeed : MethodName := ⟨RX5, "hasDeed", "(I)Z"⟩
abbrev cX5_ofDeed : ByteArray := prog_7_method_11_code
def yX5_ofDeed : MethodName := ⟨RX5, "ofDeed", "(II)I"⟩
abbrev cX5_deedsOfAct : ByteArray := prog_7_method_12_code
def yX5_deedsOfAct : MethodName := ⟨RX5, "deedsOfAct", "(I)I"⟩
abbrev cX5_keptOn : ByteArray := prog_7_method_13_code
def yX5_keptOn : MethodName := ⟨RX5, "keptOn", "(I)I"⟩
abbrev cX5_daysKept : ByteArray := prog_7_method_14_code
def yX5_daysKept : MethodName := ⟨RX5, "daysKept", "(I)I"⟩
abbrev cX5_firstDayKept : ByteArray := prog_7_method_15_code
def yX5_firstDayKept : MethodName := ⟨RX5, "firstDayKept", "(I)I"⟩
abbrev cX5_lastDayKept : ByteArray := prog_7_method_16_code
def yX5_lastDayKept : MethodName := ⟨RX5, "lastDayKept", "(I)I"⟩
abbrev cX5_peopleIn : ByteArray := prog_7_method_17_code
def yX5_peopleIn : MethodName := ⟨RX5, "peopleIn", "(I)I"⟩
abbrev cX5_seen : ByteArray := prog_7_method_18_code
def yX5_seen : MethodName := ⟨RX5, "seen", "()I"⟩
abbrev cX5_shown : ByteArray := prog_7_method_19_code
def yX5_shown : MethodName := ⟨RX5, "shown", "()I"⟩
abbrev cX5_shownIf : ByteArray := prog_7_method_20_code
def yX5_shownIf : MethodName := ⟨RX5, "shownIf", "(II)I"⟩
abbrev cX5_shows : ByteArray := prog_7_method_21_code
def yX5_shows : MethodName := ⟨RX5, "shows", "(III)Z"⟩
abbrev cX5_isInSmoke : ByteArray := prog_7_method_22_code
def yX5_isInSmoke : MethodName := ⟨RX5, "isInSmoke", "(I)Z"⟩
abbrev cX5_isAhead : ByteArray := prog_7_method_23_code
def yX5_isAhead : MethodName := ⟨RX5, "isAhead", "(II)Z"⟩
abbrev cX5_leastSmoke : ByteArray := prog_7_method_24_code
def yX5_leastSmoke : MethodName := ⟨RX5, "leastSmoke", "(II)I"⟩
abbrev cX5_nearestRow : ByteArray := prog_7_method_25_code
def yX5_nearestRow : MethodName := ⟨RX5, "nearestRow", "(II)I"⟩
abbrev cX5_farthestRow : ByteArray := prog_7_method_26_code
def yX5_farthestRow : MethodName := ⟨RX5, "farthestRow", "(II)I"⟩
def RX6 : String := "SquareLate$Plain"
def TX6 : u_T := fun k => match k with
  | _ => ("", "", "", false)
def tyX6 : Nat → FieldType := fun k => match k with
  | _ => .int
theorem nmX6 : ∀ a, a < 0 → ∀ b, b < 0 → a ≠ b → (TX6 a).2.1 ≠ (TX6 b).2.1 := by decide +kernel
theorem tyX6_ok : ∀ k, k < 0 → parseFieldDescriptor (TX6 k).2.2.1 = some (tyX6 k) := by decide +kernel
abbrev cX6_init : ByteArray := prog_8_method_1_code
def yX6_init : MethodName := ⟨RX6, "<init>", "()V"⟩
abbrev cX6_worth : ByteArray := prog_8_method_2_code
def yX6_worth : MethodName := ⟨RX6, "worth", "(LSquareLate$Asked;)I"⟩
def RX7 : String := "SquareLate$Posed"
def TX7 : u_T := fun k => match k with
  | _ => ("", "", "", false)
def tyX7 : Nat → FieldType := fun k => match k with
  | _ => .int
theorem nmX7 : ∀ a, a < 0 → ∀ b, b < 0 → a ≠ b → (TX7 a).2.1 ≠ (TX7 b).2.1 := by decide +kernel
theorem tyX7_ok : ∀ k, k < 0 → parseFieldDescriptor (TX7 k).2.2.1 = some (tyX7 k) := by decide +kernel
abbrev cX7_init : ByteArray := prog_9_method_1_code
def yX7_init : MethodName := ⟨RX7, "<init>", "()V"⟩
abbrev cX7_worth : ByteArray := prog_9_method_2_code
def yX7_worth : MethodName := ⟨RX7, "worth", "(LSquareLate$Asked;)I"⟩
def RX8 : String := "SquareLate$Reader"
def TX8 : u_T := fun k => match k with
  | 0 => ("SquareLate$Reader", "bytes", "[I", true)
  | 1 => ("SquareLate$Reader", "draft", "LSquareLate$Told;", true)
  | 2 => ("SquareLate$Reader", "length", "I", false)
  | 3 => ("SquareLate$Reader", "at", "I", false)
  | 4 => ("SquareLate$Reader", "lateTold", "Z", false)
  | 5 => ("SquareLate$Reader", "start", "I", false)
  | 6 => ("SquareLate$Reader", "token", "I", false)
  | _ => ("SquareLate$Reader", "value", "I", false)
def tyX8 : Nat → FieldType := fun k => match k with
  | 0 => .array .int
  | 1 => .object "SquareLate$Told"
  | 2 => .int
  | 3 => .int
  | 4 => .boolean
  | 5 => .int
  | 6 => .int
  | _ => .int
theorem nmX8 : ∀ a, a < 8 → ∀ b, b < 8 → a ≠ b → (TX8 a).2.1 ≠ (TX8 b).2.1 := by decide +kernel
theorem tyX8_ok : ∀ k, k < 8 → parseFieldDescriptor (TX8 k).2.2.1 = some (tyX8 k) := by decide +kernel
abbrev cX8_init : ByteArray := prog_10_method_1_code
def yX8_init : MethodName := ⟨RX8, "<init>", "([ILSquareLate$Told;)V"⟩
abbrev cX8_readAll : ByteArray := prog_10_method_2_code
def yX8_readAll : MethodName := ⟨RX8, "readAll", "(I)I"⟩
abbrev cX8_readItem : ByteArray := prog_10_method_3_code
def yX8_readItem : MethodName := ⟨RX8, "readItem", "()Z"⟩
abbrev cX8_readPerson : ByteArray := prog_10_method_4_code
def yX8_readPerson : MethodName := ⟨RX8, "readPerson", "()Z"⟩
abbrev cX8_readLate : ByteArray := prog_10_method_5_code
def yX8_readLate : MethodName := ⟨RX8, "readLate", "()Z"⟩
abbrev cX8_readCloud : ByteArray := prog_10_method_6_code
def yX8_readCloud : MethodName := ⟨RX8, "readCloud", "()Z"⟩
abbrev cX8_readRule : ByteArray := prog_10_method_7_code
def yX8_readRule : MethodName := ⟨RX8, "readRule", "()Z"⟩
abbrev cX8_readNumber : ByteArray := prog_10_method_8_code
def yX8_readNumber : MethodName := ⟨RX8, "readNumber", "(II)Z"⟩
abbrev cX8_readStop : ByteArray := prog_10_method_9_code
def yX8_readStop : MethodName := ⟨RX8, "readStop", "()Z"⟩
abbrev cX8_nextToken : ByteArray := prog_10_method_10_code
def yX8_nextToken : MethodName := ⟨RX8, "nextToken", "()V"⟩
abbrev cX8_takeLetters : ByteArray := prog_10_method_11_code
def yX8_takeLetters : MethodName := ⟨RX8, "takeLetters", "()V"⟩
abbrev cX8_takeDigits : ByteArray := prog_10_method_12_code
def yX8_takeDigits : MethodName := ⟨RX8, "takeDigits", "()V"⟩
abbrev cX8_isLetter : ByteArray := prog_10_method_13_code
def yX8_isLetter : MethodName := ⟨RX8, "isLetter", "(I)Z"⟩
abbrev cX8_isDigit : ByteArray := prog_10_method_14_code
def yX8_isDigit : MethodName := ⟨RX8, "isDigit", "(I)Z"⟩
def RX9 : String := "SquareLate$Told"
def TX9 : u_T := fun k => match k with
  | 0 => ("SquareLate$Told", "people", "I", false)
  | 1 => ("SquareLate$Told", "clouds", "I", false)
  | 2 => ("SquareLate$Told", "rules", "I", false)
  | 3 => ("SquareLate$Told", "late", "I", false)
  | 4 => ("SquareLate$Told", "heights", "[I", true)
  | 5 => ("SquareLate$Told", "starts", "[I", true)
  | 6 => ("SquareLate$Told", "cloudDays", "[I", true)
  | 7 => ("SquareLate$Told", "giving", "[I", true)
  | _ => ("SquareLate$Told", "given", "[I", true)
def tyX9 : Nat → FieldType := fun k => match k with
  | 0 => .int
  | 1 => .int
  | 2 => .int
  | 3 => .int
  | 4 => .array .int
  | 5 => .array .int
  | 6 => .array .int
  | 7 => .array .int
  | _ => .array .int
theorem nmX9 : ∀ a, a < 9 → ∀ b, b < 9 → a ≠ b → (TX9 a).2.1 ≠ (TX9 b).2.1 := by decide +kernel
theorem tyX9_ok : ∀ k, k < 9 → parseFieldDescriptor (TX9 k).2.2.1 = some (tyX9 k) := by decide +kernel
abbrev cX9_init : ByteArray := prog_11_method_1_code
def yX9_init : MethodName := ⟨RX9, "<init>", "()V"⟩
abbrev cX9_forget : ByteArray := prog_11_method_2_code
def yX9_forget : MethodName := ⟨RX9, "forget", "()V"⟩
abbrev cX9_become : ByteArray := prog_11_method_3_code
def yX9_become : MethodName := ⟨RX9, "become", "(LSquareLate$Told;)V"⟩
abbrev cX9_hasPerson : ByteArray := prog_11_method_4_code
def yX9_hasPerson : MethodName := ⟨RX9, "hasPerson", "(I)Z"⟩
abbrev cX9_areBits : ByteArray := prog_11_method_5_code
def yX9_areBits : MethodName := ⟨RX9, "areBits", "(I)Z"⟩
abbrev cX9_hasCloud : ByteArray := prog_11_method_6_code
def yX9_hasCloud : MethodName := ⟨RX9, "hasCloud", "(I)Z"⟩
abbrev cX9_ofHeight : ByteArray := prog_11_method_7_code
def yX9_ofHeight : MethodName := ⟨RX9, "ofHeight", "(I)I"⟩
abbrev cX9_actsGiving : ByteArray := prog_11_method_8_code
def yX9_actsGiving : MethodName := ⟨RX9, "actsGiving", "(I)I"⟩
abbrev cX9_actsGivenBy : ByteArray := prog_11_method_9_code
def yX9_actsGivenBy : MethodName := ⟨RX9, "actsGivenBy", "(I)I"⟩
abbrev cX9_actsAcross : ByteArray := prog_11_method_10_code
def yX9_actsAcross : MethodName := ⟨RX9, "actsAcross", "(I[I[I)I"⟩
def RX10 : String := "SquareLate$Twice"
def TX10 : u_T := fun k => match k with
  | _ => ("", "", "", false)
def tyX10 : Nat → FieldType := fun k => match k with
  | _ => .int
theorem nmX10 : ∀ a, a < 0 → ∀ b, b < 0 → a ≠ b → (TX10 a).2.1 ≠ (TX10 b).2.1 := by decide +kernel
theorem tyX10_ok : ∀ k, k < 0 → parseFieldDescriptor (TX10 k).2.2.1 = some (tyX10 k) := by decide +kernel
abbrev cX10_init : ByteArray := prog_12_method_1_code
def yX10_init : MethodName := ⟨RX10, "<init>", "()V"⟩
abbrev cX10_worth : ByteArray := prog_12_method_2_code
def yX10_worth : MethodName := ⟨RX10, "worth", "(LSquareLate$Asked;)I"⟩
def RX11 : String := "SquareLate"
def TX11 : u_T := fun k => match k with
  | 0 => ("SquareLate", "text", "[I", true)
  | 1 => ("SquareLate", "length", "I", false)
  | 2 => ("SquareLate", "told", "LSquareLate$Told;", true)
  | 3 => ("SquareLate", "draft", "LSquareLate$Told;", true)
  | 4 => ("SquareLate", "reader", "LSquareLate$Reader;", true)
  | 5 => ("SquareLate", "present", "LSquareLate$Now;", true)
  | 6 => ("SquareLate", "images", "[LSquareLate$Now;", true)
  | 7 => ("SquareLate", "kept", "[Z", true)
  | 8 => ("SquareLate", "claims", "LSquareLate$Claims;", true)
  | 9 => ("SquareLate", "asked", "LSquareLate$Asked;", true)
  | _ => ("SquareLate", "kinds", "[LSquareLate$Plain;", true)
def tyX11 : Nat → FieldType := fun k => match k with
  | 0 => .array .int
  | 1 => .int
  | 2 => .object "SquareLate$Told"
  | 3 => .object "SquareLate$Told"
  | 4 => .object "SquareLate$Reader"
  | 5 => .object "SquareLate$Now"
  | 6 => .array (.object "SquareLate$Now")
  | 7 => .array .boolean
  | 8 => .object "SquareLate$Claims"
  | 9 => .object "SquareLate$Asked"
  | _ => .array (.object "SquareLate$Plain")
theorem nmX11 : ∀ a, a < 11 → ∀ b, b < 11 → a ≠ b → (TX11 a).2.1 ≠ (TX11 b).2.1 := by decide +kernel
theorem tyX11_ok : ∀ k, k < 11 → parseFieldDescriptor (TX11 k).2.2.1 = some (tyX11 k) := by decide +kernel
abbrev cX11_init : ByteArray := prog_1_method_1_code
def yX11_init : MethodName := ⟨RX11, "<init>", "()V"⟩
abbrev cX11_type : ByteArray := prog_1_method_2_code
def yX11_type : MethodName := ⟨RX11, "type", "(I)I"⟩
abbrev cX11_clear : ByteArray := prog_1_method_3_code
def yX11_clear : MethodName := ⟨RX11, "clear", "()I"⟩
abbrev cX11_square : ByteArray := prog_1_method_4_code
def yX11_square : MethodName := ⟨RX11, "square", "()I"⟩
abbrev cX11_person : ByteArray := prog_1_method_5_code
def yX11_person : MethodName := ⟨RX11, "person", "(II)I"⟩
abbrev cX11_cell : ByteArray := prog_1_method_6_code
def yX11_cell : MethodName := ⟨RX11, "cell", "(II)I"⟩
abbrev cX11_now : ByteArray := prog_1_method_7_code
def yX11_now : MethodName := ⟨RX11, "now", "(I)I"⟩
abbrev cX11_walk : ByteArray := prog_1_method_8_code
def yX11_walk : MethodName := ⟨RX11, "walk", "(II)I"⟩
abbrev cX11_die : ByteArray := prog_1_method_9_code
def yX11_die : MethodName := ⟨RX11, "die", "(I)I"⟩
abbrev cX11_smoke : ByteArray := prog_1_method_10_code
def yX11_smoke : MethodName := ⟨RX11, "smoke", "(II)I"⟩
abbrev cX11_deed : ByteArray := prog_1_method_11_code
def yX11_deed : MethodName := ⟨RX11, "deed", "(II)I"⟩
abbrev cX11_day : ByteArray := prog_1_method_12_code
def yX11_day : MethodName := ⟨RX11, "day", "()I"⟩
abbrev cX11_undo : ByteArray := prog_1_method_13_code
def yX11_undo : MethodName := ⟨RX11, "undo", "()I"⟩
abbrev cX11_done : ByteArray := prog_1_method_14_code
def yX11_done : MethodName := ⟨RX11, "done", "(II)I"⟩
abbrev cX11_counts : ByteArray := prog_1_method_15_code
def yX11_counts : MethodName := ⟨RX11, "counts", "(I)I"⟩
abbrev cX11_holder : ByteArray := prog_1_method_16_code
def yX11_holder : MethodName := ⟨RX11, "holder", "(II)I"⟩
abbrev cX11_round : ByteArray := prog_1_method_17_code
def yX11_round : MethodName := ⟨RX11, "round", "()I"⟩
abbrev cX11_votes : ByteArray := prog_1_method_18_code
def yX11_votes : MethodName := ⟨RX11, "votes", "(I)I"⟩
abbrev cX11_nearer : ByteArray := prog_1_method_19_code
def yX11_nearer : MethodName := ⟨RX11, "nearer", "(II)I"⟩
abbrev cX11_hide : ByteArray := prog_1_method_20_code
def yX11_hide : MethodName := ⟨RX11, "hide", "(III)I"⟩
abbrev cX11_blocks : ByteArray := prog_1_method_21_code
def yX11_blocks : MethodName := ⟨RX11, "blocks", "(II)I"⟩
abbrev cX11_hides : ByteArray := prog_1_method_22_code
def yX11_hides : MethodName := ⟨RX11, "hides", "(I)I"⟩
abbrev cX11_odds : ByteArray := prog_1_method_23_code
def yX11_odds : MethodName := ⟨RX11, "odds", "(III)J"⟩
abbrev cX11_often : ByteArray := prog_1_method_24_code
def yX11_often : MethodName := ⟨RX11, "often", "(II)I"⟩
abbrev cX11_stood : ByteArray := prog_1_method_25_code
def yX11_stood : MethodName := ⟨RX11, "stood", "(II)I"⟩
abbrev cX11_days : ByteArray := prog_1_method_26_code
def yX11_days : MethodName := ⟨RX11, "days", "(II)I"⟩
abbrev cX11_together : ByteArray := prog_1_method_27_code
def yX11_together : MethodName := ⟨RX11, "together", "(I)I"⟩
abbrev cX11_mark : ByteArray := prog_1_method_28_code
def yX11_mark : MethodName := ⟨RX11, "mark", "(II)I"⟩
abbrev cX11_keep : ByteArray := prog_1_method_29_code
def yX11_keep : MethodName := ⟨RX11, "keep", "(I)I"⟩
abbrev cX11_back : ByteArray := prog_1_method_30_code
def yX11_back : MethodName := ⟨RX11, "back", "(I)I"⟩
abbrev cX11_count : ByteArray := prog_1_method_31_code
def yX11_count : MethodName := ⟨RX11, "count", "(I)I"⟩
abbrev cX11_trace : ByteArray := prog_1_method_32_code
def yX11_trace : MethodName := ⟨RX11, "trace", "()J"⟩
abbrev cX11_isBeyond : ByteArray := prog_1_method_33_code
def yX11_isBeyond : MethodName := ⟨RX11, "isBeyond", "(II)Z"⟩
abbrev cX11_isInSquare : ByteArray := prog_1_method_34_code
def yX11_isInSquare : MethodName := ⟨RX11, "isInSquare", "(I)Z"⟩
abbrev cX11_bit : ByteArray := prog_1_method_35_code
def yX11_bit : MethodName := ⟨RX11, "bit", "(II)I"⟩
abbrev cX11_power : ByteArray := prog_1_method_36_code
def yX11_power : MethodName := ⟨RX11, "power", "(II)J"⟩
abbrev cX11_commonDivisor : ByteArray := prog_1_method_37_code
def yX11_commonDivisor : MethodName := ⟨RX11, "commonDivisor", "(JJ)J"⟩
def RX12 : String := "SquareLateModel"
def TX12 : u_T := fun k => match k with
  | 0 => ("SquareLateModel", "trace", "J", false)
  | 1 => ("SquareLateModel", "text", "[I", true)
  | 2 => ("SquareLateModel", "typed", "I", false)
  | 3 => ("SquareLateModel", "told", "[I", true)
  | 4 => ("SquareLateModel", "draft", "[I", true)
  | 5 => ("SquareLateModel", "s", "[I", true)
  | 6 => ("SquareLateModel", "images", "[I", true)
  | 7 => ("SquareLateModel", "kept", "[Z", true)
  | 8 => ("SquareLateModel", "at", "I", false)
  | 9 => ("SquareLateModel", "sort", "I", false)
  | 10 => ("SquareLateModel", "start", "I", false)
  | 11 => ("SquareLateModel", "value", "I", false)
  | _ => ("SquareLateModel", "ways", "[I", true)
def tyX12 : Nat → FieldType := fun k => match k with
  | 0 => .long
  | 1 => .array .int
  | 2 => .int
  | 3 => .array .int
  | 4 => .array .int
  | 5 => .array .int
  | 6 => .array .int
  | 7 => .array .boolean
  | 8 => .int
  | 9 => .int
  | 10 => .int
  | 11 => .int
  | _ => .array .int
theorem nmX12 : ∀ a, a < 13 → ∀ b, b < 13 → a ≠ b → (TX12 a).2.1 ≠ (TX12 b).2.1 := by decide +kernel
theorem tyX12_ok : ∀ k, k < 13 → parseFieldDescriptor (TX12 k).2.2.1 = some (tyX12 k) := by decide +kernel
abbrev cX12_init : ByteArray := prog_14_method_1_code
def yX12_init : MethodName := ⟨RX12, "<init>", "()V"⟩
abbrev cX12_in : ByteArray := prog_14_method_3_code
def yX12_in : MethodName := ⟨RX12, "in", "(III)Z"⟩
abbrev cX12_isPerson : ByteArray := prog_14_method_4_code
def yX12_isPerson : MethodName := ⟨RX12, "isPerson", "(I)Z"⟩
abbrev cX12_isPeople : ByteArray := prog_14_method_5_code
def yX12_isPeople : MethodName := ⟨RX12, "isPeople", "(I)Z"⟩
abbrev cX12_type : ByteArray := prog_14_method_6_code
def yX12_type : MethodName := ⟨RX12, "type", "(I)I"⟩
abbrev cX12_clear : ByteArray := prog_14_method_7_code
def yX12_clear : MethodName := ⟨RX12, "clear", "()I"⟩
abbrev cX12_byteAt : ByteArray := prog_14_method_8_code
def yX12_byteAt : MethodName := ⟨RX12, "byteAt", "(I)I"⟩
abbrev cX12_isLetter : ByteArray := prog_14_method_9_code
def yX12_isLetter : MethodName := ⟨RX12, "isLetter", "(I)Z"⟩
abbrev cX12_isDigit : ByteArray := prog_14_method_10_code
def yX12_isDigit : MethodName := ⟨RX12, "isDigit", "(I)Z"⟩
abbrev cX12_token : ByteArray := prog_14_method_11_code
def yX12_token : MethodName := ⟨RX12, "token", "()V"⟩
abbrev cX12_number : ByteArray := prog_14_method_12_code
def yX12_number : MethodName := ⟨RX12, "number", "(III)Z"⟩
abbrev cX12_readsPerson : ByteArray := prog_14_method_13_code
def yX12_readsPerson : MethodName := ⟨RX12, "readsPerson", "()Z"⟩
abbrev cX12_readsLate : ByteArray := prog_14_method_14_code
def yX12_readsLate : MethodName := ⟨RX12, "readsLate", "()Z"⟩
abbrev cX12_readsCloud : ByteArray := prog_14_method_15_code
def yX12_readsCloud : MethodName := ⟨RX12, "readsCloud", "()Z"⟩
abbrev cX12_readsRule : ByteArray := prog_14_method_16_code
def yX12_readsRule : MethodName := ⟨RX12, "readsRule", "()Z"⟩
abbrev cX12_readsItem : ByteArray := prog_14_method_17_code
def yX12_readsItem : MethodName := ⟨RX12, "readsItem", "()Z"⟩
abbrev cX12_reads : ByteArray := prog_14_method_18_code
def yX12_reads : MethodName := ⟨RX12, "reads", "()Z"⟩
abbrev cX12_tells : ByteArray := prog_14_method_19_code
def yX12_tells : MethodName := ⟨RX12, "tells", "()V"⟩
abbrev cX12_square : ByteArray := prog_14_method_20_code
def yX12_square : MethodName := ⟨RX12, "square", "()I"⟩
abbrev cX12_isCloud : ByteArray := prog_14_method_21_code
def yX12_isCloud : MethodName := ⟨RX12, "isCloud", "(I)Z"⟩
abbrev cX12_isBare : ByteArray := prog_14_method_22_code
def yX12_isBare : MethodName := ⟨RX12, "isBare", "(III)Z"⟩
abbrev cX12_isSeen : ByteArray := prog_14_method_23_code
def yX12_isSeen : MethodName := ⟨RX12, "isSeen", "(I)Z"⟩
abbrev cX12_seenNow : ByteArray := prog_14_method_24_code
def yX12_seenNow : MethodName := ⟨RX12, "seenNow", "()I"⟩
abbrev cX12_person : ByteArray := prog_14_method_25_code
def yX12_person : MethodName := ⟨RX12, "person", "(II)I"⟩
abbrev cX12_cell : ByteArray := prog_14_method_26_code
def yX12_cell : MethodName := ⟨RX12, "cell", "(II)I"⟩
abbrev cX12_now : ByteArray := prog_14_method_27_code
def yX12_now : MethodName := ⟨RX12, "now", "(I)I"⟩
abbrev cX12_keeps : ByteArray := prog_14_method_28_code
def yX12_keeps : MethodName := ⟨RX12, "keeps", "()V"⟩
abbrev cX12_walk : ByteArray := prog_14_method_29_code
def yX12_walk : MethodName := ⟨RX12, "walk", "(II)I"⟩
abbrev cX12_die : ByteArray := prog_14_method_30_code
def yX12_die : MethodName := ⟨RX12, "die", "(I)I"⟩
abbrev cX12_smoke : ByteArray := prog_14_method_31_code
def yX12_smoke : MethodName := ⟨RX12, "smoke", "(II)I"⟩
abbrev cX12_ones : ByteArray := prog_14_method_32_code
def yX12_ones : MethodName := ⟨RX12, "ones", "(I)I"⟩
abbrev cX12_deed : ByteArray := prog_14_method_33_code
def yX12_deed : MethodName := ⟨RX12, "deed", "(II)I"⟩
abbrev cX12_day : ByteArray := prog_14_method_34_code
def yX12_day : MethodName := ⟨RX12, "day", "()I"⟩
abbrev cX12_undo : ByteArray := prog_14_method_35_code
def yX12_undo : MethodName := ⟨RX12, "undo", "()I"⟩
abbrev cX12_isDeed : ByteArray := prog_14_method_36_code
def yX12_isDeed : MethodName := ⟨RX12, "isDeed", "(I)Z"⟩
abbrev cX12_done : ByteArray := prog_14_method_37_code
def yX12_done : MethodName := ⟨RX12, "done", "(II)I"⟩
abbrev cX12_counts : ByteArray := prog_14_method_38_code
def yX12_counts : MethodName := ⟨RX12, "counts", "(I)I"⟩
abbrev cX12_ownHolder : ByteArray := prog_14_method_39_code
def yX12_ownHolder : MethodName := ⟨RX12, "ownHolder", "(III)I"⟩
abbrev cX12_laysWays : ByteArray := prog_14_method_40_code
def yX12_laysWays : MethodName := ⟨RX12, "laysWays", "(I)V"⟩
abbrev cX12_holderBy : ByteArray := prog_14_method_41_code
def yX12_holderBy : MethodName := ⟨RX12, "holderBy", "(III)I"⟩
abbrev cX12_holder : ByteArray := prog_14_method_42_code
def yX12_holder : MethodName := ⟨RX12, "holder", "(II)I"⟩
abbrev cX12_round : ByteArray := prog_14_method_43_code
def yX12_round : MethodName := ⟨RX12, "round", "()I"⟩
abbrev cX12_votes : ByteArray := prog_14_method_44_code
def yX12_votes : MethodName := ⟨RX12, "votes", "(I)I"⟩
abbrev cX12_nearer : ByteArray := prog_14_method_45_code
def yX12_nearer : MethodName := ⟨RX12, "nearer", "(II)I"⟩
abbrev cX12_hide : ByteArray := prog_14_method_46_code
def yX12_hide : MethodName := ⟨RX12, "hide", "(III)I"⟩
abbrev cX12_blocks : ByteArray := prog_14_method_47_code
def yX12_blocks : MethodName := ⟨RX12, "blocks", "(II)I"⟩
abbrev cX12_hides : ByteArray := prog_14_method_48_code
def yX12_hides : MethodName := ⟨RX12, "hides", "(I)I"⟩
abbrev cX12_power : ByteArray := prog_14_method_49_code
def yX12_power : MethodName := ⟨RX12, "power", "(JI)J"⟩
abbrev cX12_odds : ByteArray := prog_14_method_50_code
def yX12_odds : MethodName := ⟨RX12, "odds", "(III)J"⟩
abbrev cX12_often : ByteArray := prog_14_method_51_code
def yX12_often : MethodName := ⟨RX12, "often", "(II)I"⟩
abbrev cX12_stood : ByteArray := prog_14_method_52_code
def yX12_stood : MethodName := ⟨RX12, "stood", "(II)I"⟩
abbrev cX12_days : ByteArray := prog_14_method_53_code
def yX12_days : MethodName := ⟨RX12, "days", "(II)I"⟩
abbrev cX12_together : ByteArray := prog_14_method_54_code
def yX12_together : MethodName := ⟨RX12, "together", "(I)I"⟩
abbrev cX12_mark : ByteArray := prog_14_method_55_code
def yX12_mark : MethodName := ⟨RX12, "mark", "(II)I"⟩
abbrev cX12_keep : ByteArray := prog_14_method_56_code
def yX12_keep : MethodName := ⟨RX12, "keep", "(I)I"⟩
abbrev cX12_back : ByteArray := prog_14_method_57_code
def yX12_back : MethodName := ⟨RX12, "back", "(I)I"⟩
abbrev cX12_count : ByteArray := prog_14_method_58_code
def yX12_count : MethodName := ⟨RX12, "count", "(I)I"⟩
abbrev cX12_trace : ByteArray := prog_14_method_59_code
def yX12_trace : MethodName := ⟨RX12, "trace", "()J"⟩
def RJ6 : String := "java/lang/Integer"
def TJ6 : u_T := fun k => match k with
  | _ => ("", "", "", false)
def tyJ6 : Nat → FieldType := fun k => match k with
  | _ => .int
abbrev cJ6_bitCount_0f7a4 : ByteArray := prog_15_method_49_code
def yJ6_bitCount_0f7a4 : MethodName := ⟨RJ6, "bitCount", "(I)I"⟩
def RJ9 : String := "java/lang/Math"
def TJ9 : u_T := fun k => match k with
  | _ => ("", "", "", false)
def tyJ9 : Nat → FieldType := fun k => match k with
  | _ => .int
abbrev cJ9_max_7cf53 : ByteArray := prog_16_method_65_code
def yJ9_max_7cf53 : MethodName := ⟨RJ9, "max", "(II)I"⟩
abbrev cJ9_max_f86c9 : ByteArray := prog_16_method_66_code
def yJ9_max_f86c9 : MethodName := ⟨RJ9, "max", "(JJ)J"⟩
abbrev cJ9_min_7cf53 : ByteArray := prog_16_method_69_code
def yJ9_min_7cf53 : MethodName := ⟨RJ9, "min", "(II)I"⟩
def RJ10 : String := "java/lang/System"
def TJ10 : u_T := fun k => match k with
  | _ => ("", "", "", false)
def tyJ10 : Nat → FieldType := fun k => match k with
  | _ => .int
abbrev vwCl : List vw_C := [(RX0, TX0, 4), (RX1, TX1, 2), (RX2, TX2, 0), (RX3, TX3, 0), (RX4, TX4, 0), (RX5, TX5, 9), (RX6, TX6, 0), (RX7, TX7, 0), (RX8, TX8, 8), (RX9, TX9, 9), (RX10, TX10, 0), (RX11, TX11, 11), (RX12, TX12, 13)]
def mX0_init : Nat × MethodName × ByteArray × Nat × Option FieldType := (0, yX0_init, cX0_init, 3, none)
def mX5_ofDeed : Nat × MethodName × ByteArray × Nat × Option FieldType := (5, yX5_ofDeed, cX5_ofDeed, 3, (some .int))
def mX0_get : Nat × MethodName × ByteArray × Nat × Option FieldType := (0, yX0_get, cX0_get, 2, (some .int))
def mX1_init : Nat × MethodName × ByteArray × Nat × Option FieldType := (1, yX1_init, cX1_init, 3, none)
def mX11_bit : Nat × MethodName × ByteArray × Nat × Option FieldType := (11, yX11_bit, cX11_bit, 2, (some .int))
def mX1_lastDoer : Nat × MethodName × ByteArray × Nat × Option FieldType := (1, yX1_lastDoer, cX1_lastDoer, 6, (some .int))
def mX1_leastActsDoer : Nat × MethodName × ByteArray × Nat × Option FieldType := (1, yX1_leastActsDoer, cX1_leastActsDoer, 6, (some .int))
def mX9_actsAcross : Nat × MethodName × ByteArray × Nat × Option FieldType := (9, yX9_actsAcross, cX9_actsAcross, 6, (some .int))
def mX9_actsGiving : Nat × MethodName × ByteArray × Nat × Option FieldType := (9, yX9_actsGiving, cX9_actsGiving, 2, (some .int))
def mX1_whoHolds : Nat × MethodName × ByteArray × Nat × Option FieldType := (1, yX1_whoHolds, cX1_whoHolds, 8, (some .int))
def mX9_actsGivenBy : Nat × MethodName × ByteArray × Nat × Option FieldType := (9, yX9_actsGivenBy, cX9_actsGivenBy, 2, (some .int))
def mX1_comesBack : Nat × MethodName × ByteArray × Nat × Option FieldType := (1, yX1_comesBack, cX1_comesBack, 4, (some .boolean))
def mX6_init : Nat × MethodName × ByteArray × Nat × Option FieldType := (6, yX6_init, cX6_init, 1, none)
def mX3_init : Nat × MethodName × ByteArray × Nat × Option FieldType := (3, yX3_init, cX3_init, 1, none)
def mX2_init : Nat × MethodName × ByteArray × Nat × Option FieldType := (2, yX2_init, cX2_init, 1, none)
def mX6_worth : Nat × MethodName × ByteArray × Nat × Option FieldType := (6, yX6_worth, cX6_worth, 2, (some .int))
def mX3_worth : Nat × MethodName × ByteArray × Nat × Option FieldType := (3, yX3_worth, cX3_worth, 2, (some .int))
def mX2_worth : Nat × MethodName × ByteArray × Nat × Option FieldType := (2, yX2_worth, cX2_worth, 2, (some .int))
def mX7_init : Nat × MethodName × ByteArray × Nat × Option FieldType := (7, yX7_init, cX7_init, 1, none)
def mX4_init : Nat × MethodName × ByteArray × Nat × Option FieldType := (4, yX4_init, cX4_init, 1, none)
def mX7_worth : Nat × MethodName × ByteArray × Nat × Option FieldType := (7, yX7_worth, cX7_worth, 2, (some .int))
def mX4_worth : Nat × MethodName × ByteArray × Nat × Option FieldType := (4, yX4_worth, cX4_worth, 2, (some .int))
def mX5_init : Nat × MethodName × ByteArray × Nat × Option FieldType := (5, yX5_init, cX5_init, 2, none)
def mX5_begin : Nat × MethodName × ByteArray × Nat × Option FieldType := (5, yX5_begin, cX5_begin, 1, none)
def mX5_become : Nat × MethodName × ByteArray × Nat × Option FieldType := (5, yX5_become, cX5_become, 2, none)
def mX5_remember : Nat × MethodName × ByteArray × Nat × Option FieldType := (5, yX5_remember, cX5_remember, 5, none)
def mX5_move : Nat × MethodName × ByteArray × Nat × Option FieldType := (5, yX5_move, cX5_move, 4, (some .int))
def mX5_turnSmoke : Nat × MethodName × ByteArray × Nat × Option FieldType := (5, yX5_turnSmoke, cX5_turnSmoke, 2, none)
def mX9_hasCloud : Nat × MethodName × ByteArray × Nat × Option FieldType := (9, yX9_hasCloud, cX9_hasCloud, 3, (some .boolean))
def mX11_isInSquare : Nat × MethodName × ByteArray × Nat × Option FieldType := (11, yX11_isInSquare, cX11_isInSquare, 1, (some .boolean))
def mX5_isInSmoke : Nat × MethodName × ByteArray × Nat × Option FieldType := (5, yX5_isInSmoke, cX5_isInSmoke, 3, (some .boolean))
def mX5_isAhead : Nat × MethodName × ByteArray × Nat × Option FieldType := (5, yX5_isAhead, cX5_isAhead, 2, (some .boolean))
def mX5_shows : Nat × MethodName × ByteArray × Nat × Option FieldType := (5, yX5_shows, cX5_shows, 7, (some .boolean))
def mX5_shownIf : Nat × MethodName × ByteArray × Nat × Option FieldType := (5, yX5_shownIf, cX5_shownIf, 5, (some .int))
def mX5_shown : Nat × MethodName × ByteArray × Nat × Option FieldType := (5, yX5_shown, cX5_shown, 1, (some .int))
def mX5_seen : Nat × MethodName × ByteArray × Nat × Option FieldType := (5, yX5_seen, cX5_seen, 1, (some .int))
def mX5_act : Nat × MethodName × ByteArray × Nat × Option FieldType := (5, yX5_act, cX5_act, 5, (some .int))
def mX5_passDay : Nat × MethodName × ByteArray × Nat × Option FieldType := (5, yX5_passDay, cX5_passDay, 1, none)
def mX5_takeBack : Nat × MethodName × ByteArray × Nat × Option FieldType := (5, yX5_takeBack, cX5_takeBack, 3, none)
def mX5_hasDeed : Nat × MethodName × ByteArray × Nat × Option FieldType := (5, yX5_hasDeed, cX5_hasDeed, 2, (some .boolean))
def mX5_deedsOfAct : Nat × MethodName × ByteArray × Nat × Option FieldType := (5, yX5_deedsOfAct, cX5_deedsOfAct, 4, (some .int))
def mX5_keptOn : Nat × MethodName × ByteArray × Nat × Option FieldType := (5, yX5_keptOn, cX5_keptOn, 2, (some .int))
def mX5_daysKept : Nat × MethodName × ByteArray × Nat × Option FieldType := (5, yX5_daysKept, cX5_daysKept, 4, (some .int))
def mX5_firstDayKept : Nat × MethodName × ByteArray × Nat × Option FieldType := (5, yX5_firstDayKept, cX5_firstDayKept, 3, (some .int))
def mX5_lastDayKept : Nat × MethodName × ByteArray × Nat × Option FieldType := (5, yX5_lastDayKept, cX5_lastDayKept, 3, (some .int))
def mX5_peopleIn : Nat × MethodName × ByteArray × Nat × Option FieldType := (5, yX5_peopleIn, cX5_peopleIn, 4, (some .int))
def mX5_nearestRow : Nat × MethodName × ByteArray × Nat × Option FieldType := (5, yX5_nearestRow, cX5_nearestRow, 5, (some .int))
def mX5_farthestRow : Nat × MethodName × ByteArray × Nat × Option FieldType := (5, yX5_farthestRow, cX5_farthestRow, 5, (some .int))
def mX5_leastSmoke : Nat × MethodName × ByteArray × Nat × Option FieldType := (5, yX5_leastSmoke, cX5_leastSmoke, 8, (some .int))
def mX8_init : Nat × MethodName × ByteArray × Nat × Option FieldType := (8, yX8_init, cX8_init, 3, none)
def mX9_forget : Nat × MethodName × ByteArray × Nat × Option FieldType := (9, yX9_forget, cX9_forget, 1, none)
def mX8_isLetter : Nat × MethodName × ByteArray × Nat × Option FieldType := (8, yX8_isLetter, cX8_isLetter, 1, (some .boolean))
def mX8_takeLetters : Nat × MethodName × ByteArray × Nat × Option FieldType := (8, yX8_takeLetters, cX8_takeLetters, 1, none)
def mX8_isDigit : Nat × MethodName × ByteArray × Nat × Option FieldType := (8, yX8_isDigit, cX8_isDigit, 1, (some .boolean))
def mX8_takeDigits : Nat × MethodName × ByteArray × Nat × Option FieldType := (8, yX8_takeDigits, cX8_takeDigits, 3, none)
def mX8_nextToken : Nat × MethodName × ByteArray × Nat × Option FieldType := (8, yX8_nextToken, cX8_nextToken, 1, none)
def mX8_readNumber : Nat × MethodName × ByteArray × Nat × Option FieldType := (8, yX8_readNumber, cX8_readNumber, 3, (some .boolean))
def mX8_readStop : Nat × MethodName × ByteArray × Nat × Option FieldType := (8, yX8_readStop, cX8_readStop, 1, (some .boolean))
def mX8_readPerson : Nat × MethodName × ByteArray × Nat × Option FieldType := (8, yX8_readPerson, cX8_readPerson, 2, (some .boolean))
def mX8_readLate : Nat × MethodName × ByteArray × Nat × Option FieldType := (8, yX8_readLate, cX8_readLate, 1, (some .boolean))
def mX8_readCloud : Nat × MethodName × ByteArray × Nat × Option FieldType := (8, yX8_readCloud, cX8_readCloud, 2, (some .boolean))
def mX8_readRule : Nat × MethodName × ByteArray × Nat × Option FieldType := (8, yX8_readRule, cX8_readRule, 2, (some .boolean))
def mX8_readItem : Nat × MethodName × ByteArray × Nat × Option FieldType := (8, yX8_readItem, cX8_readItem, 1, (some .boolean))
def mX8_readAll : Nat × MethodName × ByteArray × Nat × Option FieldType := (8, yX8_readAll, cX8_readAll, 4, (some .int))
def mX9_init : Nat × MethodName × ByteArray × Nat × Option FieldType := (9, yX9_init, cX9_init, 1, none)
def mX9_become : Nat × MethodName × ByteArray × Nat × Option FieldType := (9, yX9_become, cX9_become, 2, none)
def mX9_hasPerson : Nat × MethodName × ByteArray × Nat × Option FieldType := (9, yX9_hasPerson, cX9_hasPerson, 2, (some .boolean))
def mX9_areBits : Nat × MethodName × ByteArray × Nat × Option FieldType := (9, yX9_areBits, cX9_areBits, 2, (some .boolean))
def mX9_ofHeight : Nat × MethodName × ByteArray × Nat × Option FieldType := (9, yX9_ofHeight, cX9_ofHeight, 4, (some .int))
def mX10_init : Nat × MethodName × ByteArray × Nat × Option FieldType := (10, yX10_init, cX10_init, 1, none)
def mX10_worth : Nat × MethodName × ByteArray × Nat × Option FieldType := (10, yX10_worth, cX10_worth, 2, (some .int))
def mX11_init : Nat × MethodName × ByteArray × Nat × Option FieldType := (11, yX11_init, cX11_init, 1, none)
def mX11_isBeyond : Nat × MethodName × ByteArray × Nat × Option FieldType := (11, yX11_isBeyond, cX11_isBeyond, 2, (some .boolean))
def mX11_type : Nat × MethodName × ByteArray × Nat × Option FieldType := (11, yX11_type, cX11_type, 2, (some .int))
def mX11_clear : Nat × MethodName × ByteArray × Nat × Option FieldType := (11, yX11_clear, cX11_clear, 2, (some .int))
def mX11_square : Nat × MethodName × ByteArray × Nat × Option FieldType := (11, yX11_square, cX11_square, 3, (some .int))
def mX11_person : Nat × MethodName × ByteArray × Nat × Option FieldType := (11, yX11_person, cX11_person, 3, (some .int))
def mX11_cell : Nat × MethodName × ByteArray × Nat × Option FieldType := (11, yX11_cell, cX11_cell, 3, (some .int))
def mX11_now : Nat × MethodName × ByteArray × Nat × Option FieldType := (11, yX11_now, cX11_now, 2, (some .int))
def mX11_walk : Nat × MethodName × ByteArray × Nat × Option FieldType := (11, yX11_walk, cX11_walk, 3, (some .int))
def mX11_die : Nat × MethodName × ByteArray × Nat × Option FieldType := (11, yX11_die, cX11_die, 2, (some .int))
def mJ6_bitCount_0f7a4 : Nat × MethodName × ByteArray × Nat × Option FieldType := (13, yJ6_bitCount_0f7a4, cJ6_bitCount_0f7a4, 1, (some .int))
def mX11_smoke : Nat × MethodName × ByteArray × Nat × Option FieldType := (11, yX11_smoke, cX11_smoke, 3, (some .int))
def mX11_deed : Nat × MethodName × ByteArray × Nat × Option FieldType := (11, yX11_deed, cX11_deed, 3, (some .int))
def mX11_day : Nat × MethodName × ByteArray × Nat × Option FieldType := (11, yX11_day, cX11_day, 1, (some .int))
def mX11_undo : Nat × MethodName × ByteArray × Nat × Option FieldType := (11, yX11_undo, cX11_undo, 1, (some .int))
def mX11_done : Nat × MethodName × ByteArray × Nat × Option FieldType := (11, yX11_done, cX11_done, 3, (some .int))
def mX11_counts : Nat × MethodName × ByteArray × Nat × Option FieldType := (11, yX11_counts, cX11_counts, 2, (some .int))
def mX11_holder : Nat × MethodName × ByteArray × Nat × Option FieldType := (11, yX11_holder, cX11_holder, 3, (some .int))
def mX11_round : Nat × MethodName × ByteArray × Nat × Option FieldType := (11, yX11_round, cX11_round, 2, (some .int))
def mX11_votes : Nat × MethodName × ByteArray × Nat × Option FieldType := (11, yX11_votes, cX11_votes, 2, (some .int))
def mX11_nearer : Nat × MethodName × ByteArray × Nat × Option FieldType := (11, yX11_nearer, cX11_nearer, 5, (some .int))
def mX11_hide : Nat × MethodName × ByteArray × Nat × Option FieldType := (11, yX11_hide, cX11_hide, 5, (some .int))
def mX11_blocks : Nat × MethodName × ByteArray × Nat × Option FieldType := (11, yX11_blocks, cX11_blocks, 5, (some .int))
def mX11_hides : Nat × MethodName × ByteArray × Nat × Option FieldType := (11, yX11_hides, cX11_hides, 2, (some .int))
def mX11_power : Nat × MethodName × ByteArray × Nat × Option FieldType := (11, yX11_power, cX11_power, 5, (some .long))
def mX11_commonDivisor : Nat × MethodName × ByteArray × Nat × Option FieldType := (11, yX11_commonDivisor, cX11_commonDivisor, 11, (some .long))
def mX11_odds : Nat × MethodName × ByteArray × Nat × Option FieldType := (11, yX11_odds, cX11_odds, 10, (some .long))
def mX11_often : Nat × MethodName × ByteArray × Nat × Option FieldType := (11, yX11_often, cX11_often, 6, (some .int))
def mX11_stood : Nat × MethodName × ByteArray × Nat × Option FieldType := (11, yX11_stood, cX11_stood, 3, (some .int))
def mX11_days : Nat × MethodName × ByteArray × Nat × Option FieldType := (11, yX11_days, cX11_days, 3, (some .int))
def mX11_together : Nat × MethodName × ByteArray × Nat × Option FieldType := (11, yX11_together, cX11_together, 2, (some .int))
def mX11_mark : Nat × MethodName × ByteArray × Nat × Option FieldType := (11, yX11_mark, cX11_mark, 3, (some .int))
def mX11_keep : Nat × MethodName × ByteArray × Nat × Option FieldType := (11, yX11_keep, cX11_keep, 2, (some .int))
def mX11_back : Nat × MethodName × ByteArray × Nat × Option FieldType := (11, yX11_back, cX11_back, 2, (some .int))
def mX11_count : Nat × MethodName × ByteArray × Nat × Option FieldType := (11, yX11_count, cX11_count, 2, (some .int))
def mX11_trace : Nat × MethodName × ByteArray × Nat × Option FieldType := (11, yX11_trace, cX11_trace, 1, (some .long))
def mX12_byteAt : Nat × MethodName × ByteArray × Nat × Option FieldType := (12, yX12_byteAt, cX12_byteAt, 2, (some .int))
def mX12_in : Nat × MethodName × ByteArray × Nat × Option FieldType := (12, yX12_in, cX12_in, 3, (some .boolean))
def mX12_isLetter : Nat × MethodName × ByteArray × Nat × Option FieldType := (12, yX12_isLetter, cX12_isLetter, 1, (some .boolean))
def mX12_isDigit : Nat × MethodName × ByteArray × Nat × Option FieldType := (12, yX12_isDigit, cX12_isDigit, 1, (some .boolean))
def mX12_token : Nat × MethodName × ByteArray × Nat × Option FieldType := (12, yX12_token, cX12_token, 2, none)
def mX12_number : Nat × MethodName × ByteArray × Nat × Option FieldType := (12, yX12_number, cX12_number, 4, (some .boolean))
def mX12_readsPerson : Nat × MethodName × ByteArray × Nat × Option FieldType := (12, yX12_readsPerson, cX12_readsPerson, 2, (some .boolean))
def mX12_readsLate : Nat × MethodName × ByteArray × Nat × Option FieldType := (12, yX12_readsLate, cX12_readsLate, 1, (some .boolean))
def mX12_readsCloud : Nat × MethodName × ByteArray × Nat × Option FieldType := (12, yX12_readsCloud, cX12_readsCloud, 4, (some .boolean))
def mX12_readsRule : Nat × MethodName × ByteArray × Nat × Option FieldType := (12, yX12_readsRule, cX12_readsRule, 3, (some .boolean))
def mX12_readsItem : Nat × MethodName × ByteArray × Nat × Option FieldType := (12, yX12_readsItem, cX12_readsItem, 2, (some .boolean))
def mX12_reads : Nat × MethodName × ByteArray × Nat × Option FieldType := (12, yX12_reads, cX12_reads, 2, (some .boolean))
def mX12_tells : Nat × MethodName × ByteArray × Nat × Option FieldType := (12, yX12_tells, cX12_tells, 2, none)
def mX12_init : Nat × MethodName × ByteArray × Nat × Option FieldType := (12, yX12_init, cX12_init, 1, none)
def mX12_isPerson : Nat × MethodName × ByteArray × Nat × Option FieldType := (12, yX12_isPerson, cX12_isPerson, 2, (some .boolean))
def mX12_isPeople : Nat × MethodName × ByteArray × Nat × Option FieldType := (12, yX12_isPeople, cX12_isPeople, 2, (some .boolean))
def mX12_type : Nat × MethodName × ByteArray × Nat × Option FieldType := (12, yX12_type, cX12_type, 2, (some .int))
def mX12_clear : Nat × MethodName × ByteArray × Nat × Option FieldType := (12, yX12_clear, cX12_clear, 2, (some .int))
def mX12_square : Nat × MethodName × ByteArray × Nat × Option FieldType := (12, yX12_square, cX12_square, 1, (some .int))
def mX12_isCloud : Nat × MethodName × ByteArray × Nat × Option FieldType := (12, yX12_isCloud, cX12_isCloud, 4, (some .boolean))
def mX12_isBare : Nat × MethodName × ByteArray × Nat × Option FieldType := (12, yX12_isBare, cX12_isBare, 8, (some .boolean))
def mX12_isSeen : Nat × MethodName × ByteArray × Nat × Option FieldType := (12, yX12_isSeen, cX12_isSeen, 2, (some .boolean))
def mX12_seenNow : Nat × MethodName × ByteArray × Nat × Option FieldType := (12, yX12_seenNow, cX12_seenNow, 3, (some .int))
def mX12_person : Nat × MethodName × ByteArray × Nat × Option FieldType := (12, yX12_person, cX12_person, 3, (some .int))
def mX12_cell : Nat × MethodName × ByteArray × Nat × Option FieldType := (12, yX12_cell, cX12_cell, 5, (some .int))
def mX12_now : Nat × MethodName × ByteArray × Nat × Option FieldType := (12, yX12_now, cX12_now, 2, (some .int))
def mX12_keeps : Nat × MethodName × ByteArray × Nat × Option FieldType := (12, yX12_keeps, cX12_keeps, 3, none)
def mX12_walk : Nat × MethodName × ByteArray × Nat × Option FieldType := (12, yX12_walk, cX12_walk, 4, (some .int))
def mX12_die : Nat × MethodName × ByteArray × Nat × Option FieldType := (12, yX12_die, cX12_die, 3, (some .int))
def mX12_ones : Nat × MethodName × ByteArray × Nat × Option FieldType := (12, yX12_ones, cX12_ones, 3, (some .int))
def mX12_smoke : Nat × MethodName × ByteArray × Nat × Option FieldType := (12, yX12_smoke, cX12_smoke, 3, (some .int))
def mX12_deed : Nat × MethodName × ByteArray × Nat × Option FieldType := (12, yX12_deed, cX12_deed, 5, (some .int))
def mX12_day : Nat × MethodName × ByteArray × Nat × Option FieldType := (12, yX12_day, cX12_day, 1, (some .int))
def mX12_undo : Nat × MethodName × ByteArray × Nat × Option FieldType := (12, yX12_undo, cX12_undo, 3, (some .int))
def mX12_isDeed : Nat × MethodName × ByteArray × Nat × Option FieldType := (12, yX12_isDeed, cX12_isDeed, 2, (some .boolean))
def mX12_done : Nat × MethodName × ByteArray × Nat × Option FieldType := (12, yX12_done, cX12_done, 3, (some .int))
def mX12_counts : Nat × MethodName × ByteArray × Nat × Option FieldType := (12, yX12_counts, cX12_counts, 2, (some .int))
def mX12_ownHolder : Nat × MethodName × ByteArray × Nat × Option FieldType := (12, yX12_ownHolder, cX12_ownHolder, 8, (some .int))
def mX12_laysWays : Nat × MethodName × ByteArray × Nat × Option FieldType := (12, yX12_laysWays, cX12_laysWays, 7, none)
def mX12_holderBy : Nat × MethodName × ByteArray × Nat × Option FieldType := (12, yX12_holderBy, cX12_holderBy, 8, (some .int))
def mX12_holder : Nat × MethodName × ByteArray × Nat × Option FieldType := (12, yX12_holder, cX12_holder, 3, (some .int))
def mX12_round : Nat × MethodName × ByteArray × Nat × Option FieldType := (12, yX12_round, cX12_round, 3, (some .int))
def mX12_votes : Nat × MethodName × ByteArray × Nat × Option FieldType := (12, yX12_votes, cX12_votes, 3, (some .int))
def mX12_nearer : Nat × MethodName × ByteArray × Nat × Option FieldType := (12, yX12_nearer, cX12_nearer, 5, (some .int))
def mX12_hide : Nat × MethodName × ByteArray × Nat × Option FieldType := (12, yX12_hide, cX12_hide, 10, (some .int))
def mX12_blocks : Nat × MethodName × ByteArray × Nat × Option FieldType := (12, yX12_blocks, cX12_blocks, 5, (some .int))
def mX12_hides : Nat × MethodName × ByteArray × Nat × Option FieldType := (12, yX12_hides, cX12_hides, 4, (some .int))
def mX12_power : Nat × MethodName × ByteArray × Nat × Option FieldType := (12, yX12_power, cX12_power, 6, (some .long))
def mX12_odds : Nat × MethodName × ByteArray × Nat × Option FieldType := (12, yX12_odds, cX12_odds, 14, (some .long))
def mX12_often : Nat × MethodName × ByteArray × Nat × Option FieldType := (12, yX12_often, cX12_often, 7, (some .int))
def mX12_stood : Nat × MethodName × ByteArray × Nat × Option FieldType := (12, yX12_stood, cX12_stood, 5, (some .int))
def mX12_days : Nat × MethodName × ByteArray × Nat × Option FieldType := (12, yX12_days, cX12_days, 8, (some .int))
def mX12_together : Nat × MethodName × ByteArray × Nat × Option FieldType := (12, yX12_together, cX12_together, 4, (some .int))
def mX12_mark : Nat × MethodName × ByteArray × Nat × Option FieldType := (12, yX12_mark, cX12_mark, 9, (some .int))
def mX12_keep : Nat × MethodName × ByteArray × Nat × Option FieldType := (12, yX12_keep, cX12_keep, 3, (some .int))
def mX12_back : Nat × MethodName × ByteArray × Nat × Option FieldType := (12, yX12_back, cX12_back, 3, (some .int))
def mX12_count : Nat × MethodName × ByteArray × Nat × Option FieldType := (12, yX12_count, cX12_count, 2, (some .int))
def mX12_trace : Nat × MethodName × ByteArray × Nat × Option FieldType := (12, yX12_trace, cX12_trace, 1, (some .long))
def mJ9_max_7cf53 : Nat × MethodName × ByteArray × Nat × Option FieldType := (14, yJ9_max_7cf53, cJ9_max_7cf53, 2, (some .int))
def mJ9_max_f86c9 : Nat × MethodName × ByteArray × Nat × Option FieldType := (14, yJ9_max_f86c9, cJ9_max_f86c9, 4, (some .long))
def mJ9_min_7cf53 : Nat × MethodName × ByteArray × Nat × Option FieldType := (14, yJ9_min_7cf53, cJ9_min_7cf53, 2, (some .int))
end
section
/-! an abstract machine over a heap of cells with numbers for addresses: what a step of it does, the real one does -/
abbrev zq_C : Type := (Nat × vp_A) ⊕ (Nat × List Value)
abbrev zq_H : Type := List zq_C
abbrev zq_M : Type := Nat × MethodName × ByteArray × Nat × Option FieldType
abbrev zq_S : Type := List (Nat × Value) × List Value × zq_H
def zq_v (ad : Nat → Nat) : Value → Value
  | .ref a => .ref (ad a)
  | v => v
def zq_a (ad : Nat → Nat) : vp_A → vp_A
  | (n, .inr (.inr (.inr (.inr f)))) => (n, .inr (.inr (.inr (.inr (fun j => (f j).map ad)))))
  | x => x
def zq_c (ad : Nat → Nat) (cy : Nat → ClassId) : zq_C → va_E
  | .inl (k, x) => .inl (cy k, zq_a ad x)
  | .inr (ci, fs) => .inr (ci, fs.map (zq_v ad))
def zq_w (ad : Nat → Nat) (cy : Nat → ClassId) (h : zq_H) : va_W := h.mapIdx (fun i c => (ad i, zq_c ad cy c))
theorem zq_w_at {ad : Nat → Nat} {cy : Nat → ClassId} {h : zq_H} {i : Nat} {c : zq_C} (hi : h[i]? = some c) : (zq_w ad cy h)[i]? = some (ad i, zq_c ad cy c) := by
  simp [zq_w, List.getElem?_mapIdx, hi]
theorem zq_w_set (ad : Nat → Nat) (cy : Nat → ClassId) (h : zq_H) (i : Nat) (c : zq_C) : (zq_w ad cy h).set i (ad i, zq_c ad cy c) = zq_w ad cy (h.set i c) := by
  apply List.ext_getElem?
  intro j
  unfold zq_w
  by_cases hij : i = j
  · subst hij
    by_cases hl : i < h.length
    · rw [List.getElem?_set_self (by rw [List.length_mapIdx]; exact hl), List.getElem?_mapIdx, List.getElem?_set_self hl]; rfl
    · rw [List.getElem?_eq_none (by rw [List.length_set, List.length_mapIdx]; omega), List.getElem?_eq_none (by rw [List.length_mapIdx, List.length_set]; omega)]
  · rw [List.getElem?_set_ne hij, List.getElem?_mapIdx, List.getElem?_mapIdx, List.getElem?_set_ne hij]
def zq_t (cy : Nat → ClassId) : List (ClassId × FieldType) := [(cy 0, .int), (cy 1, .boolean), (cy 2, .object "SquareLate$Now"), (cy 3, .object "SquareLate$Plain")]
def zq_g : List Cond := lw_tbl.filter goodWord
theorem zq_g_in {w : Cond} (h : w ∈ zq_g) : w ∈ lw_tbl := (List.mem_filter.mp h).1
theorem zq_g_good {w : Cond} (h : w ∈ zq_g) : goodWord w = true := (List.mem_filter.mp h).2
def zq_isN : Cond → Bool
  | .methodLinkNest .. => true
  | _ => false
def zq_n : List Cond := lw_tbl.filter zq_isN
def zq_N (U : State) : Prop := ∀ w ∈ zq_n, va_Nw w U
theorem zq_N.warm {s U : State} (hW : s.WarmedH U.vm) (h : zq_N s) : zq_N U := by
  intro w hw
  have h1 := h w hw
  have h2 := (List.mem_filter.mp hw).2
  cases w <;> simp [zq_isN] at h2
  exact va_Nw.warmM hW h1
theorem zq_N.same {s U : State} (hv : s.vm = U.vm) (h : zq_N s) : zq_N U := by
  intro w hw
  have h1 := h w hw
  have h2 := (List.mem_filter.mp hw).2
  cases w <;> simp [zq_isN] at h2
  exact va_Nw.same rfl hv h1
def zq_cw (M : zq_M) : Cond := Cond.code M.2.1 M.2.2.1 M.2.2.2.1 M.2.2.2.2
def zq_ws (M : zq_M) : List Cond := zq_cw M :: zq_g
theorem zq_good {M : zq_M} (h : zq_cw M ∈ zq_g) : GoodIn zq_g (zq_ws M) := by
  intro w hw
  have h1 : w ∈ zq_g := (List.mem_cons.mp hw).elim (fun e => by rw [e]; exact h) id
  exact ⟨h1, good_of_word (zq_g_good h1)⟩
def zq_R (d : Nat) : Room := { frames := d, cells := 0, slots := 0, locals := 35 * d }
def zq_cn (o : Nat) : String := ([RX0, RX1, RX2, RX3, RX4, RX5, RX6, RX7, RX8, RX9, RX10, RX11, RX12, RJ6, RJ9] : List String).getD o ""
def zq_X (M : zq_M) (D : va_G) (cy : Nat → ClassId) (p : Program) (s : State) (m : MethodId) (args : Array Value) (meth : Method) (c : Code) : Prop :=
  p.tables.exec = Jvm.exec ∧ c.code = M.2.2.1 ∧ c.maxLocals = M.2.2.2.1 ∧ meth.sig.returnType = M.2.2.2.2 ∧ meth.locks = false ∧ s.vm.findClass (zq_cn M.1) = some m.cls ∧ (∀ w ∈ zq_g, w.before args s = true) ∧ va_K D vwCl (zq_t cy) s ∧ zq_N s
def zq_Q (ad : Nat → Nat) (D : va_G) (cy : Nat → ClassId) (A : Nat → Prop) (r : Option Value) (h' : zq_H) : Array Value → State → Outcome → State → Prop := fun _ st o t =>
  o = .returned (r.map (zq_v ad)) ∧ va_P D vwCl (zq_w ad cy h') t.heap ∧ va_D A (zq_w ad cy h') ∧ va_F A st t
def zq_G (l : Launch) (M : zq_M) (d : Nat) (r : Option Value) (h' : zq_H) (pc : Nat) (σ : zq_S) : Prop :=
  ∀ (p : Program) (e : Env) (s : State) (m : MethodId) (args : Array Value) (below : List Frame) (meth : Method) (c : Code) (ad : Nat → Nat) (D : va_G) (cy : Nat → ClassId) (A : Nat → Prop) (H : Heap) (locs : List Loc) (la : Array Slot),
    zq_X M D cy p s m args meth c → va_P D vwCl (zq_w ad cy σ.2.2) H → va_D A (zq_w ad cy σ.2.2) → va_S A s.heap H locs → lv_has la M.2.2.2.1 (σ.1.map (fun q => (q.1, zq_v ad q.2))) →
    W p l e (zq_R d) s m args below meth c H locs 0 0 (MQ below (zq_Q ad D cy A r h') args s 0 0 A) (F0 m pc la (σ.2.1.map (zq_v ad)))
/-- the contract of a method in this machine's words -/
def zq_P (l : Launch) (M : zq_M) (d : Nat) (av : List Value) (h : zq_H) (r : Option Value) (h' : zq_H) : Prop :=
  ∀ (ad : Nat → Nat) (D : va_G) (cy : Nat → ClassId) (A : Nat → Prop), Met l M.2.1 (zq_ws M) (zq_R d) (va_Pc (av.map (zq_v ad)) (fun U => va_P D vwCl (zq_w ad cy h) U.heap ∧ va_K D vwCl (zq_t cy) U ∧ zq_N U ∧ va_D A (zq_w ad cy h))) (zq_Q ad D cy A r h') 0 0 A
abbrev zq_O0 : Type := (zq_M → Nat → Nat → Instr → Option Nat) × (zq_S → (zq_S → Prop) → Prop)
def zq_ok (o : zq_O0) : Prop := ∀ (l : Launch) (M : zq_M) (d : Nat) (r : Option Value) (h' : zq_H) (pc len pc' : Nat) (i : Instr) (σ : zq_S) (K : zq_S → Prop),
  decode M.2.2.1 pc = .ok (i, len) → o.1 M pc len i = some pc' → (∀ σ', K σ' → zq_G l M d r h' pc' σ') → o.2 σ K → zq_G l M d r h' pc σ
abbrev zq_O : Type := { o : zq_O0 // zq_ok o }
def zq_run : List zq_O → zq_S → (zq_S → Prop) → Prop
  | [], σ, K => K σ
  | o :: os, σ, K => o.1.2 σ (fun σ1 => zq_run os σ1 K)
/-- the pc behind a stretch, if the bytes there are its instructions -/
def zq_chk (M : zq_M) : List zq_O → Nat → Option Nat
  | [], pc => some pc
  | q :: os, pc => match decode M.2.2.1 pc with
    | .ok (i, len) => match q.1.1 M pc len i with
      | some pc' => zq_chk M os pc'
      | none => none
    | .error _ => none
theorem zq_blk {l : Launch} {M : zq_M} {d : Nat} {r : Option Value} {h' : zq_H} {pc : Nat} {σ : zq_S} (os : List zq_O) (pc' : Nat) (hc : zq_chk M os pc = some pc') (hr : zq_run os σ (fun σ' => zq_G l M d r h' pc' σ')) : zq_G l M d r h' pc σ := by
  induction os generalizing pc σ with
  | nil =>
    simp only [zq_chk, Option.some.injEq] at hc
    subst hc
    exact hr
  | cons o os ih =>
    unfold zq_chk at hc
    split at hc
    · rename_i i len hd
      split at hc
      · rename_i pc1 h1
        exact o.2 l M d r h' pc len pc1 i σ _ hd h1 (fun σ' hk => ih hc hk) hr
      · cases hc
    · cases hc
theorem zq_lv {la : Array Slot} {n : Nat} {l l' : List (Nat × Value)} (h : lv_has la n l) (hs : ∀ q ∈ l', q ∈ l) : lv_has la n l' := ⟨h.1, h.2.1, fun q hq => h.2.2 q (hs q hq)⟩
def zq_ins (i : Nat) (v : Value) : List (Nat × Value) → List (Nat × Value)
  | [] => [(i, v)]
  | q :: l => bif Nat.blt q.1 i then q :: zq_ins i v l else (i, v) :: q :: l
theorem zq_ins_mem {i : Nat} {v : Value} {l : List (Nat × Value)} {q : Nat × Value} (h : q ∈ zq_ins i v l) : q = (i, v) ∨ q ∈ l := by
  induction l with
  | nil => exact Or.inl (List.mem_singleton.mp h)
  | cons a l ih =>
    unfold zq_ins at h
    cases hb : Nat.blt a.1 i with
    | true =>
      rw [hb, cond_true] at h
      rcases List.mem_cons.mp h with h | h
      · exact Or.inr (List.mem_cons.mpr (Or.inl h))
      · exact (ih h).imp id (fun z => List.mem_cons_of_mem _ z)
    | false =>
      rw [hb, cond_false] at h
      rcases List.mem_cons.mp h with h | h
      · exact Or.inl h
      · exact Or.inr h
def zq_s1 (i : Nat) (v : Value) (l : List (Nat × Value)) : List (Nat × Value) := zq_ins i v (l.filter (fun q => !(q.1 == i) && !(q.1 + 1 == i && q.2.category == 2)))
def zq_s2 (i : Nat) (v : Value) (l : List (Nat × Value)) : List (Nat × Value) := zq_ins i v (l.filter (fun q => !(q.1 == i) && (!(q.1 == i + 1) && !(q.1 + 1 == i && q.2.category == 2))))
def zq_ld (i : Nat) : List (Nat × Value) → Option Value
  | [] => none
  | q :: l => bif Nat.beq q.1 i then some q.2 else zq_ld i l
theorem zq_ld_mem {i : Nat} {l : List (Nat × Value)} {v : Value} (h : zq_ld i l = some v) : (i, v) ∈ l := by
  induction l with
  | nil => cases h
  | cons a l ih =>
    unfold zq_ld at h
    cases hb : Nat.beq a.1 i with
    | true =>
      rw [hb, cond_true] at h
      cases h
      have := Nat.eq_of_beq_eq_true hb
      subst this
      exact List.mem_cons_self
    | false =>
      rw [hb, cond_false] at h
      exact List.mem_cons_of_mem _ (ih h)
theorem zq_cat (ad : Nat → Nat) (v : Value) : (zq_v ad v).category = v.category := by cases v <;> rfl
theorem zq_at {ad : Nat → Nat} {la : Array Slot} {n i : Nat} {l : List (Nat × Value)} {v : Value} (hl : lv_has la n (l.map (fun q => (q.1, zq_v ad q.2)))) (h : zq_ld i l = some v) : la[i]? = some (.val (zq_v ad v)) :=
  hl.2.2 (i, zq_v ad v) (List.mem_map.mpr ⟨(i, v), zq_ld_mem h, rfl⟩)
theorem zq_s1_has {ad : Nat → Nat} {la : Array Slot} {n i : Nat} {v : Value} {l : List (Nat × Value)} (h : lv_has la n ((i, zq_v ad v) :: (l.map (fun q => (q.1, zq_v ad q.2))).filter (fun q => !(q.1 == i) && !(q.1 + 1 == i && q.2.category == 2)))) : lv_has la n ((zq_s1 i v l).map (fun q => (q.1, zq_v ad q.2))) := by
  refine zq_lv h fun q hq => ?_
  obtain ⟨x, hx, rfl⟩ := List.mem_map.mp hq
  rcases zq_ins_mem hx with rfl | hx
  · exact List.mem_cons_self
  · obtain ⟨h1, h2⟩ := List.mem_filter.mp hx
    refine List.mem_cons_of_mem _ (List.mem_filter.mpr ⟨List.mem_map.mpr ⟨x, h1, rfl⟩, ?_⟩)
    show (!(x.1 == i) && !(x.1 + 1 == i && (zq_v ad x.2).category == 2)) = true
    rw [zq_cat]
    exact h2
theorem zq_s2_has {ad : Nat → Nat} {la : Array Slot} {n i : Nat} {v : Value} {l : List (Nat × Value)} (h : lv_has la n ((i, zq_v ad v) :: (l.map (fun q => (q.1, zq_v ad q.2))).filter (fun q => !(q.1 == i) && (!(q.1 == i + 1) && !(q.1 + 1 == i && q.2.category == 2))))) : lv_has la n ((zq_s2 i v l).map (fun q => (q.1, zq_v ad q.2))) := by
  refine zq_lv h fun q hq => ?_
  obtain ⟨x, hx, rfl⟩ := List.mem_map.mp hq
  rcases zq_ins_mem hx with rfl | hx
  · exact List.mem_cons_self
  · obtain ⟨h1, h2⟩ := List.mem_filter.mp hx
    refine List.mem_cons_of_mem _ (List.mem_filter.mpr ⟨List.mem_map.mpr ⟨x, h1, rfl⟩, ?_⟩)
    show (!(x.1 == i) && (!(x.1 == i + 1) && !(x.1 + 1 == i && (zq_v ad x.2).category == 2))) = true
    rw [zq_cat]
    exact h2
def zq_is (j : Instr) (n : Nat) : zq_M → Nat → Nat → Instr → Option Nat := fun _ pc len i => if i = j ∧ len = n then some (pc + n) else none
theorem zq_is_spec {j : Instr} {o : zq_M} {n pc len : Nat} {i : Instr} {pc' : Nat} (h : zq_is j n o pc len i = some pc') : i = j ∧ len = n ∧ pc' = pc + n := by
  unfold zq_is at h
  split at h
  · rename_i hq
    cases h
    exact ⟨hq.1, hq.2, rfl⟩
  · cases h
end
section
/-! the operations, each with its proof -/
def zq_fl : List (Nat × Nat × Nat × Nat) := [(9, 31, 9, 0), (8, 69, 9, 0), (5, 67, 9, 0), (11, 240, 9, 0), (9, 34, 9, 1), (2, 23, 9, 1), (8, 88, 9, 1), (11, 243, 9, 1), (9, 37, 9, 2), (8, 98, 9, 2), (11, 246, 9, 2), (9, 9, 9, 3), (8, 85, 9, 3), (11, 135, 9, 3), (9, 15, 9, 4), (7, 25, 9, 4), (8, 76, 9, 4), (11, 109, 9, 4), (5, 90, 9, 4), (9, 19, 9, 5), (5, 41, 9, 5), (8, 79, 9, 5), (9, 22, 9, 6), (8, 95, 9, 6), (9, 25, 9, 7), (8, 101, 9, 7), (9, 28, 9, 8), (8, 104, 9, 8), (8, 9, 8, 0), (8, 15, 8, 1), (8, 25, 8, 2), (8, 29, 8, 3), (8, 32, 8, 4), (8, 51, 8, 5), (8, 44, 8, 6), (8, 54, 8, 7), (5, 24, 5, 0), (5, 28, 5, 1), (11, 129, 5, 1), (5, 32, 5, 2), (11, 126, 5, 2), (5, 35, 5, 3), (1, 36, 5, 3), (11, 153, 5, 3), (5, 38, 5, 4), (11, 162, 5, 4), (5, 9, 5, 5), (11, 112, 5, 5), (5, 15, 5, 6), (5, 18, 5, 7), (5, 21, 5, 8), (1, 9, 1, 0), (1, 15, 1, 1), (0, 7, 0, 0), (2, 19, 0, 0), (7, 21, 0, 0), (0, 13, 0, 1), (10, 21, 0, 1), (0, 17, 0, 2), (11, 230, 0, 2), (6, 9, 0, 3), (2, 7, 0, 3), (3, 9, 0, 3), (4, 7, 0, 3), (7, 9, 0, 3), (10, 9, 0, 3), (11, 249, 0, 3), (11, 9, 11, 0), (11, 91, 11, 1), (11, 16, 11, 2), (11, 20, 11, 3), (11, 28, 11, 4), (11, 37, 11, 5), (11, 41, 11, 6), (11, 45, 11, 7), (11, 54, 11, 8), (11, 61, 11, 9), (11, 83, 11, 10), (12, 139, 12, 0), (12, 7, 12, 1), (12, 43, 12, 2), (12, 13, 12, 3), (12, 16, 12, 4), (12, 19, 12, 5), (12, 22, 12, 6), (12, 25, 12, 7), (12, 47, 12, 8), (12, 64, 12, 9), (12, 54, 12, 10), (12, 67, 12, 11), (12, 29, 12, 12)]
def zq_kl : List (Nat × Nat × Int32) := [(13, 265, 1431655765), (13, 266, 858993459), (13, 267, 252645135), (11, 229, -1000000), (12, 138, -1000000)]
def zq_ll : List (Nat × Nat × Int64) := [(11, 200, -1), (11, 215, 10), (2, 13, 10000), (3, 15, 100), (4, 13, 1000), (7, 15, 10), (10, 15, 100000), (12, 130, -1), (12, 132, 10), (12, 143, 11), (12, 145, 101), (12, 147, 1011), (12, 149, 10101), (12, 151, 100001)]

def zq_fw (q : Nat × Nat × Nat × Nat) : Cond := let T := (vwCl.getD q.2.2.1 ("", fun _ => ("", "", "", false), 0)).2.1 q.2.2.2; Cond.fieldLink (zq_cn q.1) q.2.1 T.1 T.2.1 T.2.2.1
def zq_fchk (q : Nat × Nat × Nat × Nat) : Bool := decide (q.2.2.1 < 13) && decide (q.2.2.2 < (vwCl.getD q.2.2.1 ("", fun _ => ("", "", "", false), 0)).2.2) && decide (zq_fw q ∈ tables_1) && goodWord (zq_fw q)
set_option maxRecDepth 100000 in
theorem zq_fl_ok : zq_fl.all zq_fchk = true := by decide +kernel
set_option maxRecDepth 100000 in
theorem zq_kl_ok : zq_kl.all (fun q => decide (Cond.constant (zq_cn q.1) q.2.1 q.2.2 ∈ tables_1) && goodWord (Cond.constant (zq_cn q.1) q.2.1 q.2.2)) = true := by decide +kernel
set_option maxRecDepth 100000 in
theorem zq_ll_ok : zq_ll.all (fun q => decide (Cond.constantLong (zq_cn q.1) q.2.1 q.2.2 ∈ tables_1) && goodWord (Cond.constantLong (zq_cn q.1) q.2.1 q.2.2)) = true := by decide +kernel
set_option maxRecDepth 100000 in
theorem zq_us_ok : vwCl.all (fun c => (u_ws c.1 c.2.1 c.2.2).all (fun w => decide (w ∈ tables_1) && goodWord w)) = true := by decide +kernel
theorem zq_tg {w : Cond} (h : w ∈ tables_1) (hg : goodWord w = true) : w ∈ zq_g := List.mem_filter.mpr ⟨List.mem_append_right _ h, hg⟩
theorem zq_us {ci : Nat} {C : String} {T : u_T} {N : Nat} (h : vwCl[ci]? = some (C, T, N)) : ∀ w ∈ u_ws C T N, w ∈ zq_g := by
  intro w hw
  have h1 := List.all_eq_true.mp zq_us_ok (C, T, N) (List.mem_of_getElem? h)
  have h2 := List.all_eq_true.mp h1 w hw
  simp only [Bool.and_eq_true, decide_eq_true_eq] at h2
  exact zq_tg h2.1 h2.2
def zq_ty (ci : Nat) : Nat → FieldType := ([tyX0, tyX1, tyX2, tyX3, tyX4, tyX5, tyX6, tyX7, tyX8, tyX9, tyX10, tyX11, tyX12] : List (Nat → FieldType)).getD ci (fun _ => .int)
theorem zq_ty_ok {ci : Nat} {C : String} {T : u_T} {N : Nat} (h : vwCl[ci]? = some (C, T, N)) : ∀ k, k < N → parseFieldDescriptor (T k).2.2.1 = some (zq_ty ci k) := by
  match ci, h with
  | 0, h => cases h; exact tyX0_ok
  | 1, h => cases h; exact tyX1_ok
  | 2, h => cases h; exact tyX2_ok
  | 3, h => cases h; exact tyX3_ok
  | 4, h => cases h; exact tyX4_ok
  | 5, h => cases h; exact tyX5_ok
  | 6, h => cases h; exact tyX6_ok
  | 7, h => cases h; exact tyX7_ok
  | 8, h => cases h; exact tyX8_ok
  | 9, h => cases h; exact tyX9_ok
  | 10, h => cases h; exact tyX10_ok
  | 11, h => cases h; exact tyX11_ok
  | 12, h => cases h; exact tyX12_ok
  | n + 13, h => cases h
theorem zq_nm_ok {ci : Nat} {C : String} {T : u_T} {N : Nat} (h : vwCl[ci]? = some (C, T, N)) : ∀ a, a < N → ∀ b, b < N → a ≠ b → (T a).2.1 ≠ (T b).2.1 := by
  match ci, h with
  | 0, h => cases h; exact nmX0
  | 1, h => cases h; exact nmX1
  | 2, h => cases h; exact nmX2
  | 3, h => cases h; exact nmX3
  | 4, h => cases h; exact nmX4
  | 5, h => cases h; exact nmX5
  | 6, h => cases h; exact nmX6
  | 7, h => cases h; exact nmX7
  | 8, h => cases h; exact nmX8
  | 9, h => cases h; exact nmX9
  | 10, h => cases h; exact nmX10
  | 11, h => cases h; exact nmX11
  | 12, h => cases h; exact nmX12
  | n + 13, h => cases h
theorem zq_fl_at {o idx ci k : Nat} (h : (o, idx, ci, k) ∈ zq_fl) : ∃ (C : String) (T : u_T) (N : Nat), vwCl[ci]? = some (C, T, N) ∧ k < N ∧ Cond.fieldLink (zq_cn o) idx (T k).1 (T k).2.1 (T k).2.2.1 ∈ zq_g := by
  have h1 := List.all_eq_true.mp zq_fl_ok _ h
  unfold zq_fchk at h1
  simp only [Bool.and_eq_true, decide_eq_true_eq] at h1
  obtain ⟨⟨⟨h2, h3⟩, h4⟩, h5⟩ := h1
  have hl : ci < vwCl.length := h2
  have he : vwCl[ci]? = some vwCl[ci] := List.getElem?_eq_getElem hl
  have hg : vwCl.getD ci ("", fun _ => ("", "", "", false), 0) = vwCl[ci] := by rw [List.getD_eq_getElem?_getD, he]; rfl
  unfold zq_fw at h4 h5
  simp only [hg] at h3 h4 h5
  exact ⟨_, _, _, he, h3, zq_tg h4 h5⟩
theorem zq_iadd_ok (v : Int32) : zq_ok (zq_is .iadd 1, fun σ K => match σ with | (ls, .int y :: .int x :: st, h) => x + y = v ∧ K (ls, .int v :: st, h) | _ => False) := by
  intro l M d r h' pc len pc' i σ K hd hc hK hs
  obtain ⟨rfl, rfl, rfl⟩ := zq_is_spec (o := M) hc
  match σ, hs with
  | (ls, .int y :: .int x :: st, h), ⟨hv, hk⟩ =>
  subst hv
  intro p e s m args below meth c ad D cy A H locs la hX hP hD hS hl
  exact lv_iadd hX.1 hX.2.1 hd (hK _ hk p e s m args below meth c ad D cy A H locs la hX hP hD hS hl)
def zq_iadd (v : Int32) : zq_O := ⟨_, zq_iadd_ok v⟩
theorem zq_isub_ok (v : Int32) : zq_ok (zq_is .isub 1, fun σ K => match σ with | (ls, .int y :: .int x :: st, h) => x - y = v ∧ K (ls, .int v :: st, h) | _ => False) := by
  intro l M d r h' pc len pc' i σ K hd hc hK hs
  obtain ⟨rfl, rfl, rfl⟩ := zq_is_spec (o := M) hc
  match σ, hs with
  | (ls, .int y :: .int x :: st, h), ⟨hv, hk⟩ =>
  subst hv
  intro p e s m args below meth c ad D cy A H locs la hX hP hD hS hl
  exact lv_isub hX.1 hX.2.1 hd (hK _ hk p e s m args below meth c ad D cy A H locs la hX hP hD hS hl)
def zq_isub (v : Int32) : zq_O := ⟨_, zq_isub_ok v⟩
theorem zq_imul_ok (v : Int32) : zq_ok (zq_is .imul 1, fun σ K => match σ with | (ls, .int y :: .int x :: st, h) => x * y = v ∧ K (ls, .int v :: st, h) | _ => False) := by
  intro l M d r h' pc len pc' i σ K hd hc hK hs
  obtain ⟨rfl, rfl, rfl⟩ := zq_is_spec (o := M) hc
  match σ, hs with
  | (ls, .int y :: .int x :: st, h), ⟨hv, hk⟩ =>
  subst hv
  intro p e s m args below meth c ad D cy A H locs la hX hP hD hS hl
  exact lv_imul hX.1 hX.2.1 hd (hK _ hk p e s m args below meth c ad D cy A H locs la hX hP hD hS hl)
def zq_imul (v : Int32) : zq_O := ⟨_, zq_imul_ok v⟩
theorem zq_iand_ok (v : Int32) : zq_ok (zq_is .iand 1, fun σ K => match σ with | (ls, .int y :: .int x :: st, h) => x &&& y = v ∧ K (ls, .int v :: st, h) | _ => False) := by
  intro l M d r h' pc len pc' i σ K hd hc hK hs
  obtain ⟨rfl, rfl, rfl⟩ := zq_is_spec (o := M) hc
  match σ, hs with
  | (ls, .int y :: .int x :: st, h), ⟨hv, hk⟩ =>
  subst hv
  intro p e s m args below meth c ad D cy A H locs la hX hP hD hS hl
  exact lv_iand hX.1 hX.2.1 hd (hK _ hk p e s m args below meth c ad D cy A H locs la hX hP hD hS hl)
def zq_iand (v : Int32) : zq_O := ⟨_, zq_iand_ok v⟩
theorem zq_ior_ok (v : Int32) : zq_ok (zq_is .ior 1, fun σ K => match σ with | (ls, .int y :: .int x :: st, h) => x ||| y = v ∧ K (ls, .int v :: st, h) | _ => False) := by
  intro l M d r h' pc len pc' i σ K hd hc hK hs
  obtain ⟨rfl, rfl, rfl⟩ := zq_is_spec (o := M) hc
  match σ, hs with
  | (ls, .int y :: .int x :: st, h), ⟨hv, hk⟩ =>
  subst hv
  intro p e s m args below meth c ad D cy A H locs la hX hP hD hS hl
  exact lv_ior hX.1 hX.2.1 hd (hK _ hk p e s m args below meth c ad D cy A H locs la hX hP hD hS hl)
def zq_ior (v : Int32) : zq_O := ⟨_, zq_ior_ok v⟩
theorem zq_ixor_ok (v : Int32) : zq_ok (zq_is .ixor 1, fun σ K => match σ with | (ls, .int y :: .int x :: st, h) => x ^^^ y = v ∧ K (ls, .int v :: st, h) | _ => False) := by
  intro l M d r h' pc len pc' i σ K hd hc hK hs
  obtain ⟨rfl, rfl, rfl⟩ := zq_is_spec (o := M) hc
  match σ, hs with
  | (ls, .int y :: .int x :: st, h), ⟨hv, hk⟩ =>
  subst hv
  intro p e s m args below meth c ad D cy A H locs la hX hP hD hS hl
  exact lv_ixor hX.1 hX.2.1 hd (hK _ hk p e s m args below meth c ad D cy A H locs la hX hP hD hS hl)
def zq_ixor (v : Int32) : zq_O := ⟨_, zq_ixor_ok v⟩
theorem zq_ishl_ok (v : Int32) : zq_ok (zq_is .ishl 1, fun σ K => match σ with | (ls, .int y :: .int x :: st, h) => x <<< (y &&& 31) = v ∧ K (ls, .int v :: st, h) | _ => False) := by
  intro l M d r h' pc len pc' i σ K hd hc hK hs
  obtain ⟨rfl, rfl, rfl⟩ := zq_is_spec (o := M) hc
  match σ, hs with
  | (ls, .int y :: .int x :: st, h), ⟨hv, hk⟩ =>
  subst hv
  intro p e s m args below meth c ad D cy A H locs la hX hP hD hS hl
  exact lv_ishl hX.1 hX.2.1 hd (hK _ hk p e s m args below meth c ad D cy A H locs la hX hP hD hS hl)
def zq_ishl (v : Int32) : zq_O := ⟨_, zq_ishl_ok v⟩
theorem zq_ishr_ok (v : Int32) : zq_ok (zq_is .ishr 1, fun σ K => match σ with | (ls, .int y :: .int x :: st, h) => x >>> (y &&& 31) = v ∧ K (ls, .int v :: st, h) | _ => False) := by
  intro l M d r h' pc len pc' i σ K hd hc hK hs
  obtain ⟨rfl, rfl, rfl⟩ := zq_is_spec (o := M) hc
  match σ, hs with
  | (ls, .int y :: .int x :: st, h), ⟨hv, hk⟩ =>
  subst hv
  intro p e s m args below meth c ad D cy A H locs la hX hP hD hS hl
  exact lv_ishr hX.1 hX.2.1 hd (hK _ hk p e s m args below meth c ad D cy A H locs la hX hP hD hS hl)
def zq_ishr (v : Int32) : zq_O := ⟨_, zq_ishr_ok v⟩
theorem zq_iushr_ok (v : Int32) : zq_ok (zq_is .iushr 1, fun σ K => match σ with | (ls, .int y :: .int x :: st, h) => (x.toUInt32 >>> (y.toUInt32 &&& Int32.toUInt32 31)).toInt32 = v ∧ K (ls, .int v :: st, h) | _ => False) := by
  intro l M d r h' pc len pc' i σ K hd hc hK hs
  obtain ⟨rfl, rfl, rfl⟩ := zq_is_spec (o := M) hc
  match σ, hs with
  | (ls, .int y :: .int x :: st, h), ⟨hv, hk⟩ =>
  subst hv
  intro p e s m args below meth c ad D cy A H locs la hX hP hD hS hl
  exact lv_iushr hX.1 hX.2.1 hd rfl (hK _ hk p e s m args below meth c ad D cy A H locs la hX hP hD hS hl)
def zq_iushr (v : Int32) : zq_O := ⟨_, zq_iushr_ok v⟩
theorem zq_idiv_ok (v : Int32) : zq_ok (zq_is .idiv 1, fun σ K => match σ with | (ls, .int y :: .int x :: st, h) => (¬ y = 0) ∧ x / y = v ∧ K (ls, .int v :: st, h) | _ => False) := by
  intro l M d r h' pc len pc' i σ K hd hc hK hs
  obtain ⟨rfl, rfl, rfl⟩ := zq_is_spec (o := M) hc
  match σ, hs with
  | (ls, .int y :: .int x :: st, h), ⟨hne, hv, hk⟩ =>
  subst hv
  intro p e s m args below meth c ad D cy A H locs la hX hP hD hS hl
  exact lv_idiv hX.1 hX.2.1 hd hne (hK _ hk p e s m args below meth c ad D cy A H locs la hX hP hD hS hl)
def zq_idiv (v : Int32) : zq_O := ⟨_, zq_idiv_ok v⟩
theorem zq_irem_ok (v : Int32) : zq_ok (zq_is .irem 1, fun σ K => match σ with | (ls, .int y :: .int x :: st, h) => (¬ y = 0) ∧ x - x / y * y = v ∧ K (ls, .int v :: st, h) | _ => False) := by
  intro l M d r h' pc len pc' i σ K hd hc hK hs
  obtain ⟨rfl, rfl, rfl⟩ := zq_is_spec (o := M) hc
  match σ, hs with
  | (ls, .int y :: .int x :: st, h), ⟨hne, hv, hk⟩ =>
  subst hv
  intro p e s m args below meth c ad D cy A H locs la hX hP hD hS hl
  exact lv_irem hX.1 hX.2.1 hd hne (hK _ hk p e s m args below meth c ad D cy A H locs la hX hP hD hS hl)
def zq_irem (v : Int32) : zq_O := ⟨_, zq_irem_ok v⟩
theorem zq_ladd_ok (v : Int64) : zq_ok (zq_is .ladd 1, fun σ K => match σ with | (ls, .long y :: .long x :: st, h) => x + y = v ∧ K (ls, .long v :: st, h) | _ => False) := by
  intro l M d r h' pc len pc' i σ K hd hc hK hs
  obtain ⟨rfl, rfl, rfl⟩ := zq_is_spec (o := M) hc
  match σ, hs with
  | (ls, .long y :: .long x :: st, h), ⟨hv, hk⟩ =>
  subst hv
  intro p e s m args below meth c ad D cy A H locs la hX hP hD hS hl
  exact lv_ladd hX.1 hX.2.1 hd (hK _ hk p e s m args below meth c ad D cy A H locs la hX hP hD hS hl)
def zq_ladd (v : Int64) : zq_O := ⟨_, zq_ladd_ok v⟩
theorem zq_lsub_ok (v : Int64) : zq_ok (zq_is .lsub 1, fun σ K => match σ with | (ls, .long y :: .long x :: st, h) => x - y = v ∧ K (ls, .long v :: st, h) | _ => False) := by
  intro l M d r h' pc len pc' i σ K hd hc hK hs
  obtain ⟨rfl, rfl, rfl⟩ := zq_is_spec (o := M) hc
  match σ, hs with
  | (ls, .long y :: .long x :: st, h), ⟨hv, hk⟩ =>
  subst hv
  intro p e s m args below meth c ad D cy A H locs la hX hP hD hS hl
  exact lv_lsub hX.1 hX.2.1 hd (hK _ hk p e s m args below meth c ad D cy A H locs la hX hP hD hS hl)
def zq_lsub (v : Int64) : zq_O := ⟨_, zq_lsub_ok v⟩
theorem zq_lmul_ok (v : Int64) : zq_ok (zq_is .lmul 1, fun σ K => match σ with | (ls, .long y :: .long x :: st, h) => x * y = v ∧ K (ls, .long v :: st, h) | _ => False) := by
  intro l M d r h' pc len pc' i σ K hd hc hK hs
  obtain ⟨rfl, rfl, rfl⟩ := zq_is_spec (o := M) hc
  match σ, hs with
  | (ls, .long y :: .long x :: st, h), ⟨hv, hk⟩ =>
  subst hv
  intro p e s m args below meth c ad D cy A H locs la hX hP hD hS hl
  exact lv_lmul hX.1 hX.2.1 hd (hK _ hk p e s m args below meth c ad D cy A H locs la hX hP hD hS hl)
def zq_lmul (v : Int64) : zq_O := ⟨_, zq_lmul_ok v⟩
theorem zq_ldiv_ok (v : Int64) : zq_ok (zq_is .ldiv 1, fun σ K => match σ with | (ls, .long y :: .long x :: st, h) => (¬ y = 0) ∧ x / y = v ∧ K (ls, .long v :: st, h) | _ => False) := by
  intro l M d r h' pc len pc' i σ K hd hc hK hs
  obtain ⟨rfl, rfl, rfl⟩ := zq_is_spec (o := M) hc
  match σ, hs with
  | (ls, .long y :: .long x :: st, h), ⟨hne, hv, hk⟩ =>
  subst hv
  intro p e s m args below meth c ad D cy A H locs la hX hP hD hS hl
  exact lv_ldiv hX.1 hX.2.1 hd hne (hK _ hk p e s m args below meth c ad D cy A H locs la hX hP hD hS hl)
def zq_ldiv (v : Int64) : zq_O := ⟨_, zq_ldiv_ok v⟩
theorem zq_lrem_ok (v : Int64) : zq_ok (zq_is .lrem 1, fun σ K => match σ with | (ls, .long y :: .long x :: st, h) => (¬ y = 0) ∧ x - x / y * y = v ∧ K (ls, .long v :: st, h) | _ => False) := by
  intro l M d r h' pc len pc' i σ K hd hc hK hs
  obtain ⟨rfl, rfl, rfl⟩ := zq_is_spec (o := M) hc
  match σ, hs with
  | (ls, .long y :: .long x :: st, h), ⟨hne, hv, hk⟩ =>
  subst hv
  intro p e s m args below meth c ad D cy A H locs la hX hP hD hS hl
  exact lv_lrem hX.1 hX.2.1 hd hne (hK _ hk p e s m args below meth c ad D cy A H locs la hX hP hD hS hl)
def zq_lrem (v : Int64) : zq_O := ⟨_, zq_lrem_ok v⟩
theorem zq_i2l_ok (v : Int64) : zq_ok (zq_is .i2l 1, fun σ K => match σ with | (ls, .int x :: st, h) => x.toInt64 = v ∧ K (ls, .long v :: st, h) | _ => False) := by
  intro l M d r h' pc len pc' i σ K hd hc hK hs
  obtain ⟨rfl, rfl, rfl⟩ := zq_is_spec (o := M) hc
  match σ, hs with
  | (ls, .int x :: st, h), ⟨hv, hk⟩ =>
  intro p e s m args below meth c ad D cy A H locs la hX hP hD hS hl
  exact lv_i2l hX.1 hX.2.1 hd hv (hK _ hk p e s m args below meth c ad D cy A H locs la hX hP hD hS hl)
def zq_i2l (v : Int64) : zq_O := ⟨_, zq_i2l_ok v⟩
theorem zq_lcmp_ok (v : Int32) : zq_ok (zq_is .lcmp 1, fun σ K => match σ with | (ls, .long y :: .long x :: st, h) => lg_cmp x y = v ∧ K (ls, .int v :: st, h) | _ => False) := by
  intro l M d r h' pc len pc' i σ K hd hc hK hs
  obtain ⟨rfl, rfl, rfl⟩ := zq_is_spec (o := M) hc
  match σ, hs with
  | (ls, .long y :: .long x :: st, h), ⟨hv, hk⟩ =>
  subst hv
  intro p e s m args below meth c ad D cy A H locs la hX hP hD hS hl
  exact W.lcmp hX.1 hX.2.1 hd (hK _ hk p e s m args below meth c ad D cy A H locs la hX hP hD hS hl)
def zq_lcmp (v : Int32) : zq_O := ⟨_, zq_lcmp_ok v⟩
theorem zq_pop_ok  : zq_ok (zq_is .pop 1, fun σ K => match σ with | (ls, v :: st, h) => v.category = 1 ∧ K (ls, st, h) | _ => False) := by
  intro l M d r h' pc len pc' i σ K hd hc hK hs
  obtain ⟨rfl, rfl, rfl⟩ := zq_is_spec (o := M) hc
  match σ, hs with
  | (ls, v :: st, h), ⟨hv, hk⟩ =>
  intro p e s m args below meth c ad D cy A H locs la hX hP hD hS hl
  exact lv_pop hX.1 hX.2.1 hd ((zq_cat ad v).trans hv) (hK _ hk p e s m args below meth c ad D cy A H locs la hX hP hD hS hl)
def zq_pop  : zq_O := ⟨_, zq_pop_ok ⟩
theorem zq_dup_ok  : zq_ok (zq_is .dup 1, fun σ K => match σ with | (ls, .int v :: st, h) => K (ls, .int v :: .int v :: st, h) | (ls, .ref v :: st, h) => K (ls, .ref v :: .ref v :: st, h) | _ => False) := by
  intro l M d r h' pc len pc' i σ K hd hc hK hs
  obtain ⟨rfl, rfl, rfl⟩ := zq_is_spec (o := M) hc
  match σ, hs with
  | (ls, .int v :: st, h), hk =>
    intro p e s m args below meth c ad D cy A H locs la hX hP hD hS hl
    exact lv_dup hX.1 hX.2.1 hd rfl (hK _ hk p e s m args below meth c ad D cy A H locs la hX hP hD hS hl)
  | (ls, .ref v :: st, h), hk =>
    intro p e s m args below meth c ad D cy A H locs la hX hP hD hS hl
    exact lv_dup hX.1 hX.2.1 hd rfl (hK _ hk p e s m args below meth c ad D cy A H locs la hX hP hD hS hl)
def zq_dup  : zq_O := ⟨_, zq_dup_ok ⟩
theorem zq_dup2_ok  : zq_ok (zq_is .dup2 1, fun σ K => match σ with | (ls, .int v :: .ref w :: st, h) => K (ls, .int v :: .ref w :: .int v :: .ref w :: st, h) | (ls, .long v :: st, h) => K (ls, .long v :: .long v :: st, h) | _ => False) := by
  intro l M d r h' pc len pc' i σ K hd hc hK hs
  obtain ⟨rfl, rfl, rfl⟩ := zq_is_spec (o := M) hc
  match σ, hs with
  | (ls, .int v :: .ref w :: st, h), hk =>
    intro p e s m args below meth c ad D cy A H locs la hX hP hD hS hl
    exact lv_dup2_11 hX.1 hX.2.1 hd rfl rfl (hK _ hk p e s m args below meth c ad D cy A H locs la hX hP hD hS hl)
  | (ls, .long v :: st, h), hk =>
    intro p e s m args below meth c ad D cy A H locs la hX hP hD hS hl
    exact lv_dup2_2 hX.1 hX.2.1 hd rfl (hK _ hk p e s m args below meth c ad D cy A H locs la hX hP hD hS hl)
def zq_dup2  : zq_O := ⟨_, zq_dup2_ok ⟩
def zq_kchk (v : Int32) : zq_M → Nat → Nat → Instr → Option Nat := fun M pc len i => match i with
  | .iconst n => if Int32.ofInt n = v ∧ len = 1 then some (pc + 1) else none
  | .bipush n => if (Int8.ofInt n).toInt32 = v ∧ len = 2 then some (pc + 2) else none
  | .sipush n => if (Int16.ofInt n).toInt32 = v ∧ len = 3 then some (pc + 3) else none
  | .ldc k => if (M.1, k, v) ∈ zq_kl ∧ len = 2 then some (pc + 2) else none
  | .ldc_w k => if (M.1, k, v) ∈ zq_kl ∧ len = 3 then some (pc + 3) else none
  | _ => none
theorem zq_kl_at {o idx : Nat} {v : Int32} (h : (o, idx, v) ∈ zq_kl) : Cond.constant (zq_cn o) idx v ∈ zq_g := by
  have h1 := List.all_eq_true.mp zq_kl_ok _ h
  simp only [Bool.and_eq_true, decide_eq_true_eq] at h1
  exact zq_tg h1.1 h1.2
theorem zq_ll_at {o idx : Nat} {v : Int64} (h : (o, idx, v) ∈ zq_ll) : Cond.constantLong (zq_cn o) idx v ∈ zq_g := by
  have h1 := List.all_eq_true.mp zq_ll_ok _ h
  simp only [Bool.and_eq_true, decide_eq_true_eq] at h1
  exact zq_tg h1.1 h1.2
theorem zq_k_ok (v : Int32) : zq_ok (zq_kchk v, fun σ K => K (σ.1, .int v :: σ.2.1, σ.2.2)) := by
  intro l M d r h' pc len pc' i σ K hd hc hK hs
  intro p e s m args below meth c ad D cy A H locs la hX hP hD hS hl
  have hk := hK _ hs p e s m args below meth c ad D cy A H locs la hX hP hD hS hl
  replace hc : zq_kchk v M pc len i = some pc' := hc
  unfold zq_kchk at hc
  split at hc
  · split at hc
    · rename_i hq; obtain ⟨h1, rfl⟩ := hq; cases hc; exact lv_iconst hX.1 hX.2.1 hd h1 hk
    · cases hc
  · split at hc
    · rename_i hq; obtain ⟨h1, rfl⟩ := hq; cases hc; exact lv_bipush hX.1 hX.2.1 hd h1 hk
    · cases hc
  · split at hc
    · rename_i hq; obtain ⟨h1, rfl⟩ := hq; cases hc; exact lv_sipush hX.1 hX.2.1 hd h1 hk
    · cases hc
  · split at hc
    · rename_i hq; obtain ⟨h1, rfl⟩ := hq; cases hc; exact lv_ldc hX.1 hX.2.1 hX.2.2.2.2.2.1 (hX.2.2.2.2.2.2.1 _ (zq_kl_at h1)) hd hk
    · cases hc
  · split at hc
    · rename_i hq; obtain ⟨h1, rfl⟩ := hq; cases hc; exact lv_ldcw hX.1 hX.2.1 hX.2.2.2.2.2.1 (hX.2.2.2.2.2.2.1 _ (zq_kl_at h1)) hd hk
    · cases hc
  · cases hc
def zq_k (v : Int32) : zq_O := ⟨_, zq_k_ok v⟩
def zq_klchk (v : Int64) : zq_M → Nat → Nat → Instr → Option Nat := fun M pc len i => match i with
  | .lconst n => if Int64.ofNat (n : Nat) = v ∧ len = 1 then some (pc + 1) else none
  | .ldc2_w k => if (M.1, k, v) ∈ zq_ll ∧ len = 3 then some (pc + 3) else none
  | _ => none
theorem zq_kj_ok (v : Int64) : zq_ok (zq_klchk v, fun σ K => K (σ.1, .long v :: σ.2.1, σ.2.2)) := by
  intro l M d r h' pc len pc' i σ K hd hc hK hs
  intro p e s m args below meth c ad D cy A H locs la hX hP hD hS hl
  have hk := hK _ hs p e s m args below meth c ad D cy A H locs la hX hP hD hS hl
  replace hc : zq_klchk v M pc len i = some pc' := hc
  unfold zq_klchk at hc
  split at hc
  · split at hc
    · rename_i hq; obtain ⟨h1, rfl⟩ := hq; cases hc; exact lv_lconst hX.1 hX.2.1 hd h1 hk
    · cases hc
  · split at hc
    · rename_i hq; obtain ⟨h1, rfl⟩ := hq; cases hc; exact lv_ldc2 hX.1 hX.2.1 hX.2.2.2.2.2.1 (hX.2.2.2.2.2.2.1 _ (zq_ll_at h1)) hd hk
    · cases hc
  · cases hc
def zq_kj (v : Int64) : zq_O := ⟨_, zq_kj_ok v⟩
def zq_ilchk (j : Nat) : zq_M → Nat → Nat → Instr → Option Nat := fun _ pc len i => match i with
  | .iload k => if k = j ∧ len = 2 then some (pc + 2) else none
  | .iload_n k => if (k : Nat) = j ∧ len = 1 then some (pc + 1) else none
  | _ => none
theorem zq_il_ok (j : Nat) : zq_ok (zq_ilchk j, fun σ K => match zq_ld j σ.1 with | some (.int x) => K (σ.1, .int x :: σ.2.1, σ.2.2) | _ => False) := by
  intro l M d r h' pc len pc' i σ K hd hc hK hs
  intro p e s m args below meth c ad D cy A H locs la hX hP hD hS hl
  dsimp only at hs
  split at hs
  · rename_i x hx
    have hk := hK _ hs p e s m args below meth c ad D cy A H locs la hX hP hD hS hl
    have ha := zq_at hl hx
    replace hc : zq_ilchk j M pc len i = some pc' := hc
    unfold zq_ilchk at hc
    split at hc
    · split at hc
      · rename_i hq; obtain ⟨rfl, rfl⟩ := hq; cases hc; exact lv_iload hX.1 hX.2.1 hd ha hk
      · cases hc
    · split at hc
      · rename_i hq; obtain ⟨h1, rfl⟩ := hq; cases hc; exact lv_iload_n hX.1 hX.2.1 hd h1 ha hk
      · cases hc
    · cases hc
  · exact hs.elim
def zq_il (j : Nat) : zq_O := ⟨_, zq_il_ok j⟩
def zq_jlchk (j : Nat) : zq_M → Nat → Nat → Instr → Option Nat := fun _ pc len i => match i with
  | .lload k => if k = j ∧ len = 2 then some (pc + 2) else none
  | .lload_n k => if (k : Nat) = j ∧ len = 1 then some (pc + 1) else none
  | _ => none
theorem zq_jl_ok (j : Nat) : zq_ok (zq_jlchk j, fun σ K => match zq_ld j σ.1 with | some (.long x) => K (σ.1, .long x :: σ.2.1, σ.2.2) | _ => False) := by
  intro l M d r h' pc len pc' i σ K hd hc hK hs
  intro p e s m args below meth c ad D cy A H locs la hX hP hD hS hl
  dsimp only at hs
  split at hs
  · rename_i x hx
    have hk := hK _ hs p e s m args below meth c ad D cy A H locs la hX hP hD hS hl
    have ha := zq_at hl hx
    replace hc : zq_jlchk j M pc len i = some pc' := hc
    unfold zq_jlchk at hc
    split at hc
    · split at hc
      · rename_i hq; obtain ⟨rfl, rfl⟩ := hq; cases hc; exact lv_lload hX.1 hX.2.1 hd ha hk
      · cases hc
    · split at hc
      · rename_i hq; obtain ⟨h1, rfl⟩ := hq; cases hc; exact lv_lload_n hX.1 hX.2.1 hd h1 ha hk
      · cases hc
    · cases hc
  · exact hs.elim
def zq_jl (j : Nat) : zq_O := ⟨_, zq_jl_ok j⟩
def zq_alchk (j : Nat) : zq_M → Nat → Nat → Instr → Option Nat := fun _ pc len i => match i with
  | .aload k => if k = j ∧ len = 2 then some (pc + 2) else none
  | .aload_n k => if (k : Nat) = j ∧ len = 1 then some (pc + 1) else none
  | _ => none
theorem zq_al_ok (j : Nat) : zq_ok (zq_alchk j, fun σ K => match zq_ld j σ.1 with | some (.ref x) => K (σ.1, .ref x :: σ.2.1, σ.2.2) | _ => False) := by
  intro l M d r h' pc len pc' i σ K hd hc hK hs
  intro p e s m args below meth c ad D cy A H locs la hX hP hD hS hl
  dsimp only at hs
  split at hs
  · rename_i x hx
    have hk := hK _ hs p e s m args below meth c ad D cy A H locs la hX hP hD hS hl
    have ha := zq_at hl hx
    replace hc : zq_alchk j M pc len i = some pc' := hc
    unfold zq_alchk at hc
    split at hc
    · split at hc
      · rename_i hq; obtain ⟨rfl, rfl⟩ := hq; cases hc; exact lv_aload hX.1 hX.2.1 hd ha hk
      · cases hc
    · split at hc
      · rename_i hq; obtain ⟨h1, rfl⟩ := hq; cases hc; exact lv_aload_n hX.1 hX.2.1 hd h1 ha hk
      · cases hc
    · cases hc
  · exact hs.elim
def zq_al (j : Nat) : zq_O := ⟨_, zq_al_ok j⟩
def zq_is1chk (j : Nat) : zq_M → Nat → Nat → Instr → Option Nat := fun M pc len i => match i with
  | .istore k => if k = j ∧ len = 2 ∧ j < M.2.2.2.1 then some (pc + 2) else none
  | .istore_n k => if (k : Nat) = j ∧ len = 1 ∧ j < M.2.2.2.1 then some (pc + 1) else none
  | _ => none
theorem zq_is1_ok (j : Nat) : zq_ok (zq_is1chk j, fun σ K => match σ with | (ls, .int x :: st, h) => K (zq_s1 j (.int x) ls, st, h) | _ => False) := by
  intro l M d r h' pc len pc' i σ K hd hc hK hs
  match σ, hs with
  | (ls, .int x :: st, h), hk =>
  intro p e s m args below meth c ad D cy A H locs la hX hP hD hS hl
  have hk := fun la2 hl2 => hK _ hk p e s m args below meth c ad D cy A H locs la2 hX hP hD hS hl2
  replace hc : zq_is1chk j M pc len i = some pc' := hc
  unfold zq_is1chk at hc
  split at hc
  · split at hc
    · rename_i hq; obtain ⟨rfl, rfl, hj⟩ := hq; cases hc; exact lv_istore hX.1 hX.2.1 hd hl hj rfl (fun la2 hl2 => hk la2 (zq_s1_has (v := .int x) hl2))
    · cases hc
  · split at hc
    · rename_i hq; obtain ⟨h1, rfl, hj⟩ := hq; cases hc; exact lv_istore_n hX.1 hX.2.1 hd h1 hl hj rfl (fun la2 hl2 => hk la2 (zq_s1_has (v := .int x) hl2))
    · cases hc
  · cases hc
def zq_is1 (j : Nat) : zq_O := ⟨_, zq_is1_ok j⟩
def zq_ls1chk (j : Nat) : zq_M → Nat → Nat → Instr → Option Nat := fun M pc len i => match i with
  | .lstore k => if k = j ∧ len = 2 ∧ j + 1 < M.2.2.2.1 then some (pc + 2) else none
  | .lstore_n k => if (k : Nat) = j ∧ len = 1 ∧ j + 1 < M.2.2.2.1 then some (pc + 1) else none
  | _ => none
theorem zq_ls1_ok (j : Nat) : zq_ok (zq_ls1chk j, fun σ K => match σ with | (ls, .long x :: st, h) => K (zq_s2 j (.long x) ls, st, h) | _ => False) := by
  intro l M d r h' pc len pc' i σ K hd hc hK hs
  match σ, hs with
  | (ls, .long x :: st, h), hk =>
  intro p e s m args below meth c ad D cy A H locs la hX hP hD hS hl
  have hk := fun la2 hl2 => hK _ hk p e s m args below meth c ad D cy A H locs la2 hX hP hD hS hl2
  replace hc : zq_ls1chk j M pc len i = some pc' := hc
  unfold zq_ls1chk at hc
  split at hc
  · split at hc
    · rename_i hq; obtain ⟨rfl, rfl, hj⟩ := hq; cases hc; exact lv_lstore hX.1 hX.2.1 hd hl hj rfl (fun la2 hl2 => hk la2 (zq_s2_has (v := .long x) hl2))
    · cases hc
  · split at hc
    · rename_i hq; obtain ⟨h1, rfl, hj⟩ := hq; cases hc; exact lv_lstore_n hX.1 hX.2.1 hd h1 hl hj rfl (fun la2 hl2 => hk la2 (zq_s2_has (v := .long x) hl2))
    · cases hc
  · cases hc
def zq_ls1 (j : Nat) : zq_O := ⟨_, zq_ls1_ok j⟩
def zq_as1chk (j : Nat) : zq_M → Nat → Nat → Instr → Option Nat := fun M pc len i => match i with
  | .astore k => if k = j ∧ len = 2 ∧ j < M.2.2.2.1 then some (pc + 2) else none
  | .astore_n k => if (k : Nat) = j ∧ len = 1 ∧ j < M.2.2.2.1 then some (pc + 1) else none
  | _ => none
theorem zq_as1_ok (j : Nat) : zq_ok (zq_as1chk j, fun σ K => match σ with | (ls, .ref x :: st, h) => K (zq_s1 j (.ref x) ls, st, h) | _ => False) := by
  intro l M d r h' pc len pc' i σ K hd hc hK hs
  match σ, hs with
  | (ls, .ref x :: st, h), hk =>
  intro p e s m args below meth c ad D cy A H locs la hX hP hD hS hl
  have hk := fun la2 hl2 => hK _ hk p e s m args below meth c ad D cy A H locs la2 hX hP hD hS hl2
  replace hc : zq_as1chk j M pc len i = some pc' := hc
  unfold zq_as1chk at hc
  split at hc
  · split at hc
    · rename_i hq; obtain ⟨rfl, rfl, hj⟩ := hq; cases hc; exact lv_astore hX.1 hX.2.1 hd hl hj rfl (fun la2 hl2 => hk la2 (zq_s1_has (v := .ref x) hl2))
    · cases hc
  · split at hc
    · rename_i hq; obtain ⟨h1, rfl, hj⟩ := hq; cases hc; exact lv_astore_n hX.1 hX.2.1 hd h1 hl hj rfl (fun la2 hl2 => hk la2 (zq_s1_has (v := .ref x) hl2))
    · cases hc
  · cases hc
def zq_as1 (j : Nat) : zq_O := ⟨_, zq_as1_ok j⟩
def zq_incchk (j : Nat) (n : Int) : zq_M → Nat → Nat → Instr → Option Nat := fun M pc len i => if i = .iinc j n ∧ len = 3 ∧ j < M.2.2.2.1 then some (pc + 3) else none
theorem zq_inc_ok (j : Nat) (n : Int) (v : Int32) : zq_ok (zq_incchk j n, fun σ K => match zq_ld j σ.1 with | some (.int x) => x + Int32.ofInt n = v ∧ K (zq_s1 j (.int v) σ.1, σ.2.1, σ.2.2) | _ => False) := by
  intro l M d r h' pc len pc' i σ K hd hc hK hs
  intro p e s m args below meth c ad D cy A H locs la hX hP hD hS hl
  dsimp only at hs
  split at hs
  · rename_i x hx
    obtain ⟨hv, hs⟩ := hs
    have hk := fun la2 hl2 => hK _ hs p e s m args below meth c ad D cy A H locs la2 hX hP hD hS hl2
    replace hc : zq_incchk j n M pc len i = some pc' := hc
    unfold zq_incchk at hc
    split at hc
    · rename_i hq
      obtain ⟨rfl, rfl, hj⟩ := hq
      cases hc
      obtain ⟨k, hk2⟩ := List.getElem?_of_mem (List.mem_map.mpr ⟨(j, Value.int x), zq_ld_mem hx, rfl⟩ : (j, zq_v ad (.int x)) ∈ σ.1.map (fun q => (q.1, zq_v ad q.2)))
      exact lv_iinc hX.1 hX.2.1 hd hl hk2 hv hj rfl (fun la2 hl2 => hk la2 (zq_s1_has (v := .int v) hl2))
    · cases hc
  · exact hs.elim
def zq_inc (j : Nat) (n : Int) (v : Int32) : zq_O := ⟨_, zq_inc_ok j n v⟩
def zq_gochk : zq_M → Nat → Nat → Instr → Option Nat := fun _ pc len i => match i with
  | .goto off => if len = 3 ∧ 0 ≤ (pc : Int) + off then some ((pc : Int) + off).toNat else none
  | _ => none
theorem zq_go_ok : zq_ok (zq_gochk, fun σ K => K σ) := by
  intro l M d r h' pc len pc' i σ K hd hc hK hs
  intro p e s m args below meth c ad D cy A H locs la hX hP hD hS hl
  have hk := hK _ hs p e s m args below meth c ad D cy A H locs la hX hP hD hS hl
  replace hc : zq_gochk M pc len i = some pc' := hc
  unfold zq_gochk at hc
  split at hc
  · split at hc
    · rename_i hq; obtain ⟨rfl, h1⟩ := hq; cases hc; exact lv_goto hX.1 hX.2.1 hd (by omega) hk
    · cases hc
  · cases hc
def zq_go : zq_O := ⟨_, zq_go_ok⟩
def zq_hp : zq_H → Nat → Option zq_C
  | [], _ => none
  | c :: _, 0 => some c
  | _ :: h, n + 1 => zq_hp h n
theorem zq_hp_eq (h : zq_H) (i : Nat) : zq_hp h i = h[i]? := by
  induction h generalizing i with
  | nil => rfl
  | cons c h ih => cases i with
    | zero => rfl
    | succ n => exact ih n
def zq_fd : List Value → Nat → Option Value
  | [], _ => none
  | c :: _, 0 => some c
  | _ :: h, n + 1 => zq_fd h n
theorem zq_fd_eq (h : List Value) (i : Nat) : zq_fd h i = h[i]? := by
  induction h generalizing i with
  | nil => rfl
  | cons c h ih => cases i with
    | zero => rfl
    | succ n => exact ih n
def zq_getchk (ci k : Nat) : zq_M → Nat → Nat → Instr → Option Nat := fun M pc len i => match i with
  | .getfield idx => if (M.1, idx, ci, k) ∈ zq_fl ∧ len = 3 then some (pc + 3) else none
  | _ => none
theorem zq_get_ok (ci k : Nat) : zq_ok (zq_getchk ci k, fun σ K => match σ with | (ls, .ref a :: st, h) => (match zq_hp h a with | some (.inr (c2, fs)) => (match Nat.beq c2 ci, zq_fd fs k with | true, some v => K (ls, v :: st, h) | _, _ => False) | _ => False) | _ => False) := by
  intro l M d r h' pc len pc' i σ K hd hc hK hs
  match σ, hs with
  | (ls, .ref a :: st, h), hs =>
  intro p e s m args below meth c ad D cy A H locs la hX hP hD hS hl
  dsimp only at hs
  split at hs
  · rename_i c2 fs hh
    rw [zq_hp_eq] at hh
    split at hs
    · rename_i v hb hv
      have hk := hK _ hs p e s m args below meth c ad D cy A H locs la hX hP hD hS hl
      have := Nat.eq_of_beq_eq_true hb
      subst this
      rw [zq_fd_eq] at hv
      replace hc : zq_getchk c2 k M pc len i = some pc' := hc
      unfold zq_getchk at hc
      split at hc
      · split at hc
        · rename_i hq
          obtain ⟨h1, rfl⟩ := hq
          cases hc
          obtain ⟨C, T, N, g1, g2, g3⟩ := zq_fl_at h1
          exact va_get hX.1 hX.2.1 hX.2.2.2.2.2.2.1 (zq_us g1) hX.2.2.2.2.2.1 hX.2.2.2.2.2.2.2.1 hP a (zq_w_at hh) g1 k g2 (hX.2.2.2.2.2.2.1 _ g3) (fun _ h9 => h9) (v := zq_v ad v) (by simp [hv]) hd hk
        · cases hc
      · cases hc
    · exact hs.elim
  · exact hs.elim
def zq_get (ci k : Nat) : zq_O := ⟨_, zq_get_ok ci k⟩
theorem zq_len (fs : List Value) {k : Nat} {v : Value} (h : zq_fd fs k = some v) : k < fs.length := by
  rw [zq_fd_eq] at h
  exact (List.getElem?_eq_some_iff.mp h).1
def zq_putchk (ci k : Nat) (ty : FieldType) : zq_M → Nat → Nat → Instr → Option Nat := fun M pc len i => match i with
  | .putfield idx => if (M.1, idx, ci, k) ∈ zq_fl ∧ len = 3 ∧ zq_ty ci k = ty ∧ ((vwCl.getD ci ("", fun _ => ("", "", "", false), 0)).2.1 k).2.2.2 = false then some (pc + 3) else none
  | _ => none
theorem zq_puti_ok (ci k : Nat) : zq_ok (zq_putchk ci k .int, fun σ K => match σ with | (ls, .int x :: .ref a :: st, h) => (match zq_hp h a with | some (.inr (c2, fs)) => (match Nat.beq c2 ci, zq_fd fs k with | true, some _ => K (ls, st, h.set a (.inr (c2, fs.set k (.int x)))) | _, _ => False) | _ => False) | _ => False) := by
  intro l M d r h' pc len pc' i σ K hd hc hK hs
  match σ, hs with
  | (ls, .int x :: .ref a :: st, h), hs =>
  intro p e s m args below meth c ad D cy A H locs la hX hP hD hS hl
  dsimp only at hs
  split at hs
  · rename_i c2 fs hh
    rw [zq_hp_eq] at hh
    split at hs
    · rename_i v0 hb hv
      have hk := fun H2 locs2 hP2 hD2 hS2 => hK _ hs p e s m args below meth c ad D cy A H2 locs2 la hX hP2 hD2 hS2 hl
      have := Nat.eq_of_beq_eq_true hb
      subst this
      replace hc : zq_putchk c2 k .int M pc len i = some pc' := hc
      unfold zq_putchk at hc
      split at hc
      · split at hc
        · rename_i hq
          obtain ⟨h1, rfl, hty, hfin⟩ := hq
          cases hc
          obtain ⟨C, T, N, g1, g2, g3⟩ := zq_fl_at h1
          have hg : vwCl.getD c2 ("", fun _ => ("", "", "", false), 0) = (C, T, N) := by rw [List.getD_eq_getElem?_getD, g1]; rfl
          rw [hg] at hfin
          have he : zq_c ad cy (.inr (c2, fs.set k (.int x))) = .inr (c2, (fs.map (zq_v ad)).set k (.int x)) := by
            show Sum.inr (c2, (fs.set k (.int x)).map (zq_v ad)) = _
            rw [List.map_set]; rfl
          refine va_put (ty := .int) hX.1 hX.2.1 hX.2.2.2.2.2.2.1 (zq_us g1) (zq_ty c2) (zq_ty_ok g1) (zq_nm_ok g1) hX.2.2.2.2.2.1 hX.2.2.2.2.2.2.2.1 hP hD hS a (zq_w_at hh) g1 k g2 (hX.2.2.2.2.2.2.1 _ g3) (fun _ h9 => h9) hfin (by rw [zq_ty_ok g1 k g2, hty]) rfl rfl (by rw [List.length_map]; exact zq_len fs hv) hd (fun H2 locs2 hP2 hD2 hS2 => hk H2 locs2 ?_ ?_ hS2)
          · have e := zq_w_set ad cy h a (.inr (c2, fs.set k (.int x)))
            rw [he] at e
            rw [← e]; exact hP2
          · have e := zq_w_set ad cy h a (.inr (c2, fs.set k (.int x)))
            rw [he] at e
            rw [← e]; exact hD2
        · cases hc
      · cases hc
    · exact hs.elim
  · exact hs.elim
def zq_puti (ci k : Nat) : zq_O := ⟨_, zq_puti_ok ci k⟩
theorem zq_putj_ok (ci k : Nat) : zq_ok (zq_putchk ci k .long, fun σ K => match σ with | (ls, .long x :: .ref a :: st, h) => (match zq_hp h a with | some (.inr (c2, fs)) => (match Nat.beq c2 ci, zq_fd fs k with | true, some _ => K (ls, st, h.set a (.inr (c2, fs.set k (.long x)))) | _, _ => False) | _ => False) | _ => False) := by
  intro l M d r h' pc len pc' i σ K hd hc hK hs
  match σ, hs with
  | (ls, .long x :: .ref a :: st, h), hs =>
  intro p e s m args below meth c ad D cy A H locs la hX hP hD hS hl
  dsimp only at hs
  split at hs
  · rename_i c2 fs hh
    rw [zq_hp_eq] at hh
    split at hs
    · rename_i v0 hb hv
      have hk := fun H2 locs2 hP2 hD2 hS2 => hK _ hs p e s m args below meth c ad D cy A H2 locs2 la hX hP2 hD2 hS2 hl
      have := Nat.eq_of_beq_eq_true hb
      subst this
      replace hc : zq_putchk c2 k .long M pc len i = some pc' := hc
      unfold zq_putchk at hc
      split at hc
      · split at hc
        · rename_i hq
          obtain ⟨h1, rfl, hty, hfin⟩ := hq
          cases hc
          obtain ⟨C, T, N, g1, g2, g3⟩ := zq_fl_at h1
          have hg : vwCl.getD c2 ("", fun _ => ("", "", "", false), 0) = (C, T, N) := by rw [List.getD_eq_getElem?_getD, g1]; rfl
          rw [hg] at hfin
          have he : zq_c ad cy (.inr (c2, fs.set k (.long x))) = .inr (c2, (fs.map (zq_v ad)).set k (.long x)) := by
            show Sum.inr (c2, (fs.set k (.long x)).map (zq_v ad)) = _
            rw [List.map_set]; rfl
          refine va_put (ty := .long) hX.1 hX.2.1 hX.2.2.2.2.2.2.1 (zq_us g1) (zq_ty c2) (zq_ty_ok g1) (zq_nm_ok g1) hX.2.2.2.2.2.1 hX.2.2.2.2.2.2.2.1 hP hD hS a (zq_w_at hh) g1 k g2 (hX.2.2.2.2.2.2.1 _ g3) (fun _ h9 => h9) hfin (by rw [zq_ty_ok g1 k g2, hty]) rfl rfl (by rw [List.length_map]; exact zq_len fs hv) hd (fun H2 locs2 hP2 hD2 hS2 => hk H2 locs2 ?_ ?_ hS2)
          · have e := zq_w_set ad cy h a (.inr (c2, fs.set k (.long x)))
            rw [he] at e
            rw [← e]; exact hP2
          · have e := zq_w_set ad cy h a (.inr (c2, fs.set k (.long x)))
            rw [he] at e
            rw [← e]; exact hD2
        · cases hc
      · cases hc
    · exact hs.elim
  · exact hs.elim
def zq_putj (ci k : Nat) : zq_O := ⟨_, zq_putj_ok ci k⟩
theorem zq_putz_ok (ci k : Nat) : zq_ok (zq_putchk ci k .boolean, fun σ K => match σ with | (ls, .int x :: .ref a :: st, h) => (match zq_hp h a with | some (.inr (c2, fs)) => (match Nat.beq c2 ci, zq_fd fs k with | true, some _ => (x = 0 ∨ x = 1) ∧ K (ls, st, h.set a (.inr (c2, fs.set k (.int x)))) | _, _ => False) | _ => False) | _ => False) := by
  intro l M d r h' pc len pc' i σ K hd hc hK hs
  match σ, hs with
  | (ls, .int x :: .ref a :: st, h), hs =>
  intro p e s m args below meth c ad D cy A H locs la hX hP hD hS hl
  dsimp only at hs
  split at hs
  · rename_i c2 fs hh
    rw [zq_hp_eq] at hh
    split at hs
    · rename_i v0 hb hv
      obtain ⟨hx01, hs⟩ := hs
      have hk := fun H2 locs2 hP2 hD2 hS2 => hK _ hs p e s m args below meth c ad D cy A H2 locs2 la hX hP2 hD2 hS2 hl
      have := Nat.eq_of_beq_eq_true hb
      subst this
      replace hc : zq_putchk c2 k .boolean M pc len i = some pc' := hc
      unfold zq_putchk at hc
      split at hc
      · split at hc
        · rename_i hq
          obtain ⟨h1, rfl, hty, hfin⟩ := hq
          cases hc
          obtain ⟨C, T, N, g1, g2, g3⟩ := zq_fl_at h1
          have hg : vwCl.getD c2 ("", fun _ => ("", "", "", false), 0) = (C, T, N) := by rw [List.getD_eq_getElem?_getD, g1]; rfl
          rw [hg] at hfin
          have he : zq_c ad cy (.inr (c2, fs.set k (.int x))) = .inr (c2, (fs.map (zq_v ad)).set k (.int x)) := by
            show Sum.inr (c2, (fs.set k (.int x)).map (zq_v ad)) = _
            rw [List.map_set]; rfl
          refine va_put (ty := .boolean) hX.1 hX.2.1 hX.2.2.2.2.2.2.1 (zq_us g1) (zq_ty c2) (zq_ty_ok g1) (zq_nm_ok g1) hX.2.2.2.2.2.1 hX.2.2.2.2.2.2.2.1 hP hD hS a (zq_w_at hh) g1 k g2 (hX.2.2.2.2.2.2.1 _ g3) (fun _ h9 => h9) hfin (by rw [zq_ty_ok g1 k g2, hty]) (by rcases hx01 with rfl | rfl <;> rfl) (by rcases hx01 with rfl | rfl <;> rfl) (by rw [List.length_map]; exact zq_len fs hv) hd (fun H2 locs2 hP2 hD2 hS2 => hk H2 locs2 ?_ ?_ hS2)
          · have e := zq_w_set ad cy h a (.inr (c2, fs.set k (.int x)))
            rw [he] at e
            rw [← e]; exact hP2
          · have e := zq_w_set ad cy h a (.inr (c2, fs.set k (.int x)))
            rw [he] at e
            rw [← e]; exact hD2
        · cases hc
      · cases hc
    · exact hs.elim
  · exact hs.elim
def zq_putz (ci k : Nat) : zq_O := ⟨_, zq_putz_ok ci k⟩
theorem zq_iald_ok (j : Nat) (v : Int32) : zq_ok (zq_is .iaload 1, fun σ K => match σ with | (ls, .int x :: .ref a :: st, h) => (match zq_hp h a with | some (.inl (t, n, .inl f)) => (match Nat.beq t 0 with | true => x = nI j ∧ j < n ∧ j < 2147483648 ∧ f j = v ∧ K (ls, .int v :: st, h) | false => False) | _ => False) | _ => False) := by
  intro l M d r h' pc len pc' i σ K hd hc hK hs
  obtain ⟨rfl, rfl, rfl⟩ := zq_is_spec (o := M) hc
  match σ, hs with
  | (ls, .int x :: .ref a :: st, h), hs =>
  intro p e s m args below meth c ad D cy A H locs la hX hP hD hS hl
  dsimp only at hs
  split at hs
  · rename_i t n f hh
    rw [zq_hp_eq] at hh
    split at hs
    · rename_i hb
      have := Nat.eq_of_beq_eq_true hb
      subst this
      obtain ⟨rfl, h1, h2, hv, hs⟩ := hs
      subst hv
      have hk := hK _ hs p e s m args below meth c ad D cy A H locs la hX hP hD hS hl
      have hin : vp_in (nI j) n := vp_in_iff.mpr (by rw [nI_toInt h2]; omega)
      refine va_iald hX.1 hX.2.1 hX.2.2.2.2.2.2.2.1 hP a 0 (zq_w_at hh) rfl hin hd ?_
      rw [nI_clamp h2]
      exact hk
    · exact hs.elim
  · exact hs.elim
def zq_iald (j : Nat) (v : Int32) : zq_O := ⟨_, zq_iald_ok j v⟩
theorem zq_zald_ok (j : Nat) (v : Int32) : zq_ok (zq_is .baload 1, fun σ K => match σ with | (ls, .int x :: .ref a :: st, h) => (match zq_hp h a with | some (.inl (t, n, .inl f)) => (match Nat.beq t 1 with | true => x = nI j ∧ j < n ∧ j < 2147483648 ∧ f j = v ∧ K (ls, .int v :: st, h) | false => False) | _ => False) | _ => False) := by
  intro l M d r h' pc len pc' i σ K hd hc hK hs
  obtain ⟨rfl, rfl, rfl⟩ := zq_is_spec (o := M) hc
  match σ, hs with
  | (ls, .int x :: .ref a :: st, h), hs =>
  intro p e s m args below meth c ad D cy A H locs la hX hP hD hS hl
  dsimp only at hs
  split at hs
  · rename_i t n f hh
    rw [zq_hp_eq] at hh
    split at hs
    · rename_i hb
      have := Nat.eq_of_beq_eq_true hb
      subst this
      obtain ⟨rfl, h1, h2, hv, hs⟩ := hs
      subst hv
      have hk := hK _ hs p e s m args below meth c ad D cy A H locs la hX hP hD hS hl
      have hin : vp_in (nI j) n := vp_in_iff.mpr (by rw [nI_toInt h2]; omega)
      refine va_zald hX.1 hX.2.1 hX.2.2.2.2.2.2.2.1 hP a 1 (zq_w_at hh) rfl hin hd ?_
      rw [nI_clamp h2]
      exact hk
    · exact hs.elim
  · exact hs.elim
def zq_zald (j : Nat) (v : Int32) : zq_O := ⟨_, zq_zald_ok j v⟩
theorem zq_aald_ok (j : Nat) : zq_ok (zq_is .aaload 1, fun σ K => match σ with | (ls, .int x :: .ref a :: st, h) => (match zq_hp h a with | some (.inl (t, n, .inr (.inr (.inr (.inr f))))) => (match Nat.blt 1 t, Nat.blt t 4, f j with | true, true, some q => x = nI j ∧ j < n ∧ j < 2147483648 ∧ K (ls, .ref q :: st, h) | _, _, _ => False) | _ => False) | _ => False) := by
  intro l M d r h' pc len pc' i σ K hd hc hK hs
  obtain ⟨rfl, rfl, rfl⟩ := zq_is_spec (o := M) hc
  match σ, hs with
  | (ls, .int x :: .ref a :: st, h), hs =>
  intro p e s m args below meth c ad D cy A H locs la hX hP hD hS hl
  dsimp only at hs
  split at hs
  · rename_i t n f hh
    rw [zq_hp_eq] at hh
    split at hs
    · rename_i q hb1 hb2 hq
      obtain ⟨rfl, h1, h2, hs⟩ := hs
      have hk := hK _ hs p e s m args below meth c ad D cy A H locs la hX hP hD hS hl
      have hin : vp_in (nI j) n := vp_in_iff.mpr (by rw [nI_toInt h2]; omega)
      have ht : t = 2 ∨ t = 3 := by
        have := Nat.le_of_ble_eq_true hb1
        have := Nat.le_of_ble_eq_true hb2
        omega
      have hv : va_rf ((f (nI j).toNatClampNeg).map ad) = .ref (ad q) := by rw [nI_clamp h2, hq]; rfl
      rcases ht with rfl | rfl
      · refine va_aldq (C := "SquareLate$Now") (f := fun j => (f j).map ad) hX.1 hX.2.1 hX.2.2.2.2.2.2.2.1 hP a 2 (zq_w_at hh) rfl hin hd ?_
        rw [hv]; exact hk
      · refine va_aldq (C := "SquareLate$Plain") (f := fun j => (f j).map ad) hX.1 hX.2.1 hX.2.2.2.2.2.2.2.1 hP a 3 (zq_w_at hh) rfl hin hd ?_
        rw [hv]; exact hk
    · exact hs.elim
  · exact hs.elim
def zq_aald (j : Nat) : zq_O := ⟨_, zq_aald_ok j⟩
theorem zq_alen_ok : zq_ok (zq_is .arraylength 1, fun σ K => match σ with | (ls, .ref a :: st, h) => (match zq_hp h a with | some (.inl (t, n, .inl f)) => (match Nat.blt t 2 with | true => K (ls, .int (nI n) :: st, h) | false => False) | _ => False) | _ => False) := by
  intro l M d r h' pc len pc' i σ K hd hc hK hs
  obtain ⟨rfl, rfl, rfl⟩ := zq_is_spec (o := M) hc
  match σ, hs with
  | (ls, .ref a :: st, h), hs =>
  intro p e s m args below meth c ad D cy A H locs la hX hP hD hS hl
  dsimp only at hs
  split at hs
  · rename_i t n f hh
    rw [zq_hp_eq] at hh
    split at hs
    · rename_i hb
      have hk := hK _ hs p e s m args below meth c ad D cy A H locs la hX hP hD hS hl
      have ht : t = 0 ∨ t = 1 := by
        have := Nat.le_of_ble_eq_true hb
        omega
      rcases ht with rfl | rfl
      · exact va_alen (ty := .int) hX.1 hX.2.1 hX.2.2.2.2.2.2.2.1 hP a 0 (zq_w_at hh) rfl rfl hd hk
      · exact va_alen (ty := .boolean) hX.1 hX.2.1 hX.2.2.2.2.2.2.2.1 hP a 1 (zq_w_at hh) rfl rfl hd hk
    · exact hs.elim
  · exact hs.elim
def zq_alen : zq_O := ⟨_, zq_alen_ok⟩
theorem zq_iast_ok (j : Nat) : zq_ok (zq_is .iastore 1, fun σ K => match σ with | (ls, .int v :: .int x :: .ref a :: st, h) => (match zq_hp h a with | some (.inl (t, n, .inl f)) => (match Nat.beq t 0 with | true => x = nI j ∧ j < n ∧ j < 2147483648 ∧ K (ls, st, h.set a (.inl (t, n, .inl (upd f j v)))) | false => False) | _ => False) | _ => False) := by
  intro l M d r h' pc len pc' i σ K hd hc hK hs
  obtain ⟨rfl, rfl, rfl⟩ := zq_is_spec (o := M) hc
  match σ, hs with
  | (ls, .int v :: .int x :: .ref a :: st, h), hs =>
  intro p e s m args below meth c ad D cy A H locs la hX hP hD hS hl
  dsimp only at hs
  split at hs
  · rename_i t n f hh
    rw [zq_hp_eq] at hh
    split at hs
    · rename_i hb
      have := Nat.eq_of_beq_eq_true hb
      subst this
      obtain ⟨rfl, h1, h2, hs⟩ := hs
      have hk := fun H2 locs2 hP2 hD2 hS2 => hK _ hs p e s m args below meth c ad D cy A H2 locs2 la hX hP2 hD2 hS2 hl
      have hin : vp_in (nI j) n := vp_in_iff.mpr (by rw [nI_toInt h2]; omega)
      have e := zq_w_set ad cy h a (.inl (0, n, .inl (upd f j v)))
      refine va_iast hX.1 hX.2.1 hX.2.2.2.2.2.2.2.1 hP hD hS a 0 (zq_w_at hh) rfl hin hd (fun H2 locs2 hP2 hD2 hS2 => hk H2 locs2 ?_ ?_ hS2)
      · rw [nI_clamp h2] at hP2
        rw [← e]; exact hP2
      · rw [nI_clamp h2] at hD2
        rw [← e]; exact hD2
    · exact hs.elim
  · exact hs.elim
def zq_iast (j : Nat) : zq_O := ⟨_, zq_iast_ok j⟩
theorem zq_zast_ok (j : Nat) : zq_ok (zq_is .bastore 1, fun σ K => match σ with | (ls, .int v :: .int x :: .ref a :: st, h) => (match zq_hp h a with | some (.inl (t, n, .inl f)) => (match Nat.beq t 1 with | true => x = nI j ∧ j < n ∧ j < 2147483648 ∧ (v = 0 ∨ v = 1) ∧ K (ls, st, h.set a (.inl (t, n, .inl (upd f j v)))) | false => False) | _ => False) | _ => False) := by
  intro l M d r h' pc len pc' i σ K hd hc hK hs
  obtain ⟨rfl, rfl, rfl⟩ := zq_is_spec (o := M) hc
  match σ, hs with
  | (ls, .int v :: .int x :: .ref a :: st, h), hs =>
  intro p e s m args below meth c ad D cy A H locs la hX hP hD hS hl
  dsimp only at hs
  split at hs
  · rename_i t n f hh
    rw [zq_hp_eq] at hh
    split at hs
    · rename_i hb
      have := Nat.eq_of_beq_eq_true hb
      subst this
      obtain ⟨rfl, h1, h2, hs⟩ := hs
      obtain ⟨hv01, hs⟩ := hs
      have hnar : vp_nar .boolean v = v := by rcases hv01 with rfl | rfl <;> decide
      have hk := fun H2 locs2 hP2 hD2 hS2 => hK _ hs p e s m args below meth c ad D cy A H2 locs2 la hX hP2 hD2 hS2 hl
      have hin : vp_in (nI j) n := vp_in_iff.mpr (by rw [nI_toInt h2]; omega)
      have e := zq_w_set ad cy h a (.inl (1, n, .inl (upd f j v)))
      refine va_zast hX.1 hX.2.1 hX.2.2.2.2.2.2.2.1 hP hD hS a 1 (zq_w_at hh) rfl hin hd (fun H2 locs2 hP2 hD2 hS2 => hk H2 locs2 ?_ ?_ hS2)
      · rw [nI_clamp h2, hnar] at hP2
        rw [← e]; exact hP2
      · rw [nI_clamp h2, hnar] at hD2
        rw [← e]; exact hD2
    · exact hs.elim
  · exact hs.elim
def zq_zast (j : Nat) : zq_O := ⟨_, zq_zast_ok j⟩
end
section
/-! entry, ends, branches, calls -/
def zq_cc (cc : ClassFile.Cond) (x y : Int32) : Prop := match cc with
  | .eq => x = y
  | .ne => ¬ x = y
  | .lt => x < y
  | .ge => y ≤ x
  | .gt => y < x
  | .le => x ≤ y
def zq_tgt (M : zq_M) (pc : Nat) : Option (Bool × ClassFile.Cond × Nat) := match decode M.2.2.1 pc with
  | .ok (.if_icmp cc off, 3) => if 0 ≤ (pc : Int) + off then some (true, cc, ((pc : Int) + off).toNat) else none
  | .ok (.ifCond cc off, 3) => if 0 ≤ (pc : Int) + off then some (false, cc, ((pc : Int) + off).toNat) else none
  | _ => none
theorem zq_tgt_i {M : zq_M} {pc tgt : Nat} {cc : ClassFile.Cond} (h : zq_tgt M pc = some (true, cc, tgt)) : ∃ off : Int, decode M.2.2.1 pc = .ok (.if_icmp cc off, 3) ∧ (pc : Int) + off = (tgt : Int) := by
  unfold zq_tgt at h
  split at h
  · rename_i c2 off hd
    split at h
    · cases h; exact ⟨off, hd, by omega⟩
    · cases h
  · rename_i c2 off hd
    split at h
    · cases h
    · cases h
  · cases h
theorem zq_tgt_z {M : zq_M} {pc tgt : Nat} {cc : ClassFile.Cond} (h : zq_tgt M pc = some (false, cc, tgt)) : ∃ off : Int, decode M.2.2.1 pc = .ok (.ifCond cc off, 3) ∧ (pc : Int) + off = (tgt : Int) := by
  unfold zq_tgt at h
  split at h
  · rename_i c2 off hd
    split at h
    · cases h
    · cases h
  · rename_i c2 off hd
    split at h
    · cases h; exact ⟨off, hd, by omega⟩
    · cases h
  · cases h
section ZB
variable {l : Launch} {M : zq_M} {d : Nat} {r : Option Value} {h' : zq_H} {pc : Nat} {ls : List (Nat × Value)} {st : List Value} {h : zq_H}
/-- a compare of two ints: P is what it asks, in your words -/
theorem zq_if {x y : Int32} (cc : ClassFile.Cond) (tgt : Nat) (P : Prop) (hd : zq_tgt M pc = some (true, cc, tgt)) (hq : zq_cc cc x y ↔ P) (kt : P → zq_G l M d r h' tgt (ls, st, h)) (kf : ¬ P → zq_G l M d r h' (pc + 3) (ls, st, h)) : zq_G l M d r h' pc (ls, .int y :: .int x :: st, h) := by
  obtain ⟨off, hd, ht⟩ := zq_tgt_i hd
  intro p e s m args below meth c ad D cy A H locs la hX hP hD hS hl
  have a := fun hz => kt (hq.mp hz) p e s m args below meth c ad D cy A H locs la hX hP hD hS hl
  have b := fun (hz : ¬ zq_cc cc x y) => kf (fun q => hz (hq.mpr q)) p e s m args below meth c ad D cy A H locs la hX hP hD hS hl
  cases cc with
  | eq => exact lv_icmp_eq hX.1 hX.2.1 hd ht a b
  | ne => exact lv_icmp_ne hX.1 hX.2.1 hd ht a (fun z => b (fun q => q z))
  | lt => exact lv_icmp_lt hX.1 hX.2.1 hd ht a b
  | ge => exact lv_icmp_ge hX.1 hX.2.1 hd ht a b
  | gt => exact lv_icmp_gt hX.1 hX.2.1 hd ht a b
  | le => exact lv_icmp_le hX.1 hX.2.1 hd ht a b
theorem zq_ifz {x : Int32} (cc : ClassFile.Cond) (tgt : Nat) (P : Prop) (hd : zq_tgt M pc = some (false, cc, tgt)) (hq : zq_cc cc x 0 ↔ P) (kt : P → zq_G l M d r h' tgt (ls, st, h)) (kf : ¬ P → zq_G l M d r h' (pc + 3) (ls, st, h)) : zq_G l M d r h' pc (ls, .int x :: st, h) := by
  obtain ⟨off, hd, ht⟩ := zq_tgt_z hd
  intro p e s m args below meth c ad D cy A H locs la hX hP hD hS hl
  have a := fun hz => kt (hq.mp hz) p e s m args below meth c ad D cy A H locs la hX hP hD hS hl
  have b := fun (hz : ¬ zq_cc cc x 0) => kf (fun q => hz (hq.mpr q)) p e s m args below meth c ad D cy A H locs la hX hP hD hS hl
  cases cc with
  | eq => exact lv_if_eq hX.1 hX.2.1 hd ht a b
  | ne => exact lv_if_ne hX.1 hX.2.1 hd ht a (fun z => b (fun q => q z))
  | lt => exact lv_if_lt hX.1 hX.2.1 hd ht a b
  | ge => exact lv_if_ge hX.1 hX.2.1 hd ht a b
  | gt => exact lv_if_gt hX.1 hX.2.1 hd ht a b
  | le => exact lv_if_le hX.1 hX.2.1 hd ht a b
theorem zq_eq {σ σ2 : zq_S} (e : σ = σ2) (k : zq_G l M d r h' pc σ2) : zq_G l M d r h' pc σ := e ▸ k
/-- the same stretch of code, fewer locals known -/
theorem zq_less {ls2 : List (Nat × Value)} (hs : ∀ q ∈ ls2, q ∈ ls) (k : zq_G l M d r h' pc (ls2, st, h)) : zq_G l M d r h' pc (ls, st, h) := by
  intro p e s m args below meth c ad D cy A H locs la hX hP hD hS hl
  refine k p e s m args below meth c ad D cy A H locs la hX hP hD hS (zq_lv hl fun q hq => ?_)
  obtain ⟨x, hx, rfl⟩ := List.mem_map.mp hq
  exact List.mem_map.mpr ⟨x, hs x hx, rfl⟩
def zq_isRet (M : zq_M) (pc : Nat) : Bool := match decode M.2.2.1 pc, M.2.2.2.2 with
  | .ok (.ireturn, 1), some .int => true
  | .ok (.ireturn, 1), some .boolean => true
  | .ok (.lreturn, 1), some .long => true
  | .ok (.return_, 1), none => true
  | _, _ => false
theorem zq_iret {v : Int32} (hd : decode M.2.2.1 pc = .ok (.ireturn, 1)) (hr : M.2.2.2.2 = some .int) (e1 : r = some (.int v)) (e2 : h' = h) : zq_G l M d r h' pc (ls, [.int v], h) := by
  subst e1; subst e2
  intro p e s m args below meth c ad D cy A H locs la hX hP hD hS hl
  exact W.iret hX.1 hX.2.1 (hX.2.2.2.1.trans hr) (fun t ht hW => ⟨rfl, by rw [ht]; exact hP, hD, hS.F ht⟩) hS.2.2 hd hX.2.2.2.2.1
theorem zq_zret {v : Int32} (hd : decode M.2.2.1 pc = .ok (.ireturn, 1)) (hr : M.2.2.2.2 = some .boolean) (hv : v = 0 ∨ v = 1) (e1 : r = some (.int v)) (e2 : h' = h) : zq_G l M d r h' pc (ls, [.int v], h) := by
  subst e1; subst e2
  intro p e s m args below meth c ad D cy A H locs la hX hP hD hS hl
  exact W.zret hX.1 hX.2.1 (hX.2.2.2.1.trans hr) (by rcases hv with rfl | rfl <;> rfl) (fun t ht hW => ⟨rfl, by rw [ht]; exact hP, hD, hS.F ht⟩) hS.2.2 hd hX.2.2.2.2.1
theorem zq_jret {v : Int64} (hd : decode M.2.2.1 pc = .ok (.lreturn, 1)) (hr : M.2.2.2.2 = some .long) (e1 : r = some (.long v)) (e2 : h' = h) : zq_G l M d r h' pc (ls, [.long v], h) := by
  subst e1; subst e2
  intro p e s m args below meth c ad D cy A H locs la hX hP hD hS hl
  exact W.lret hX.1 hX.2.1 (hX.2.2.2.1.trans hr) (fun t ht hW => ⟨rfl, by rw [ht]; exact hP, hD, hS.F ht⟩) hS.2.2 hd hX.2.2.2.2.1
theorem zq_vret (hd : decode M.2.2.1 pc = .ok (.return_, 1)) (hr : M.2.2.2.2 = none) (e1 : r = none) (e2 : h' = h) : zq_G l M d r h' pc (ls, [], h) := by
  subst e1; subst e2
  intro p e s m args below meth c ad D cy A H locs la hX hP hD hS hl
  exact W.vret hX.1 hX.2.1 (hX.2.2.2.1.trans hr) (fun t ht hW => ⟨rfl, by rw [ht]; exact hP, hD, hS.F ht⟩) hS.2.2 hd hX.2.2.2.2.1
end ZB
theorem zq_lg (ad : Nat → Nat) (vs : List Value) : (lg_sl (vs.map (zq_v ad))).length = (lg_sl vs).length := by
  induction vs with
  | nil => rfl
  | cons v vs ih =>
    have e : ∀ (w : Value) (ws : List Value), (lg_sl (w :: ws)).length = w.category + (lg_sl ws).length := by
      intro w ws
      show (List.flatMap _ (w :: ws)).length = _
      rw [List.flatMap_cons, List.length_append]
      rcases lv_cat w with h | h <;> simp [h, lg_sl]
    rw [List.map_cons, e, e, zq_cat, ih]
theorem zq_args (ad : Nat → Nat) (vs : List Value) (i : Nat) : lv_args i (vs.map (zq_v ad)) = (lv_args i vs).map (fun q => (q.1, zq_v ad q.2)) := by
  induction vs generalizing i with
  | nil => rfl
  | cons v vs ih =>
    show (i, zq_v ad v) :: lv_args (if (zq_v ad v).category = 2 then i + 2 else i + 1) (vs.map (zq_v ad)) = _
    rw [zq_cat, ih]; rfl
/-- a method's contract out of the walk from its entry -/
theorem zq_start {l : Launch} {M : zq_M} {d : Nat} {av : List Value} {h h' : zq_H} {r : Option Value} (hn : plainName M.2.1.cls = true) (hcl : M.2.1.cls = zq_cn M.1) (hlen : (lg_sl av).length ≤ M.2.2.2.1) (k : zq_G l M d r h' 0 (lv_args 0 av, [], h)) : zq_P l M d av h r h' := by
  intro ad D cy A
  refine Met.ofW (cc := M.2.2.1) (maxL := M.2.2.2.1) (ret := M.2.2.2.2) hn rfl ?_
  intro p e s m args below meth c s₁ B hml hv
  obtain ⟨rfl, hP, hK, hN, hD⟩ := hv
  have hts := atoms_spec (ws := zq_ws M) B.pre
  have hown : s.vm.findClass M.2.1.cls = some m.cls := findClass_of_methodNamed B.named
  have hl := lv_entry (av.map (zq_v ad)) (n := M.2.2.2.1) (by rw [zq_lg]; exact hlen)
  rw [lg_entry_eq]
  rw [zq_args] at hl
  exact k p e s m _ below meth c ad D cy A s.heap [] _ ⟨B.exec, B.bytes, hml, B.returns, B.notSynchronized, by rw [← hcl]; exact hown, fun w hw => hts w (List.mem_cons_of_mem _ hw), hK, hN⟩ hP hD va_S.rf hl
/-- what a call of a method needs of the tables -/
def zq_cv (o idx : Nat) (M2 : zq_M) (n : Nat) : Prop := Cond.methodLink (zq_cn o) idx M2.2.1 ∈ zq_g ∧ Cond.initialized M2.2.1.cls ∈ zq_g ∧ zq_cw M2 ∈ zq_g ∧ (M2.2.1.cls ≠ "java/lang/invoke/MethodHandle" ∧ M2.2.1.cls ≠ "java/lang/invoke/VarHandle" ∧ (parseMethodDescriptor M2.2.1.desc).map (fun d => d.parameters.length) = some n)
def zq_cvN (o idx : Nat) (M2 : zq_M) (n : Nat) : Prop := Cond.methodLinkNest (zq_cn o) idx M2.2.1 "SquareLate" ∈ zq_n ∧ Cond.initialized M2.2.1.cls ∈ zq_g ∧ zq_cw M2 ∈ zq_g ∧ (M2.2.1.cls ≠ "java/lang/invoke/MethodHandle" ∧ M2.2.1.cls ≠ "java/lang/invoke/VarHandle" ∧ (parseMethodDescriptor M2.2.1.desc).map (fun d => d.parameters.length) = some n)
theorem zq_cat_sum (ad : Nat → Nat) (vs : List Value) : ((vs.map (zq_v ad)).map fun v => v.category).sum = (vs.map fun v => v.category).sum := by
  rw [List.map_map]
  congr 1
  exact List.map_congr_left (fun v _ => zq_cat ad v)
theorem zq_after {p : Program} {l : Launch} {e : Env} {R : Room} {s : State} {m : MethodId} {args : Array Value} {below : List Frame} {meth : Method} {c : Code} {H : Heap} {locs : List Loc} {Q : State → Prop} {pc : Nat} {la : Array Slot} {st0 rest : List Value} {a : Array Value} {A : Nat → Prop} {ad : Nat → Nat} {D : va_G} {cy : Nat → ClassId} {r2 : Option Value} {h2 : zq_H}
    (hr : va_Run p l e R s m args below meth c H locs 0 0 0 0 (F0 m pc la st0) rest (zq_Q ad D cy A r2 h2 a) A) (hS : va_S A s.heap H locs)
    (kk : ∀ (H1 : Heap) (locs1 : List Loc), va_P D vwCl (zq_w ad cy h2) H1 → va_D A (zq_w ad cy h2) → va_S A s.heap H1 locs1 → W p l e R s m args below meth c H1 locs1 0 0 Q (F0 m (pc + 3) la ((r2.map (zq_v ad)).toList ++ rest))) : W p l e R s m args below meth c H locs 0 0 Q (F0 m pc la st0) := by
  intro T hT X
  obtain ⟨v, st₀, t, T', L, h0, X', hL, e1, e2, ⟨hv, hP, hD, hz, hk⟩, st⟩ := hr T hT X
  cases hv
  rw [h0] at hz hk
  obtain ⟨t2, a1, b1⟩ := kk T'.heap (locs ++ L) (by rw [e1]; exact hP) hD ⟨Nat.le_trans hS.1 (by rw [e1]; exact hz), fun q h1 h2 => by rw [e1, hk q (Nat.lt_of_lt_of_le h1 hS.1) h2]; exact hS.2.1 q h1 h2, fun q hq => by
      rcases List.mem_append.mp hq with h | h
      · exact hS.2.2 q h
      · exact hL q h⟩ T' rfl X'
  exact ⟨t2, st t2 a1, b1⟩
theorem zq_blind (av : List Value) (ad : Nat → Nat) (D : va_G) (cy : Nat → ClassId) (A : Nat → Prop) (h : zq_H) : FrameBlind (va_Pc av (fun U => va_P D vwCl (zq_w ad cy h) U.heap ∧ va_K D vwCl (zq_t cy) U ∧ zq_N U ∧ va_D A (zq_w ad cy h))) := by
  intro a U g mk q
  obtain ⟨q0, q1, q2, q3, q4⟩ := q
  exact ⟨q0, q1, va_K.moved (u := U) (U := U.calling g mk a) (Vm.Alike.refl U.vm) q2, zq_N.same (s := U) (U := U.calling g mk a) rfl q3, q4⟩
theorem zq_ret_map (ad : Nat → Nat) (r2 : Option Value) (rest : List Value) : (r2.map (zq_v ad)).toList ++ rest.map (zq_v ad) = (r2.toList ++ rest).map (zq_v ad) := by
  cases r2 <;> rfl
section ZC
variable {l : Launch} {M : zq_M} {d : Nat} {r : Option Value} {h' : zq_H} {pc : Nat} {ls : List (Nat × Value)} {h : zq_H} {M2 : zq_M} {d2 idx n a ci : Nat} {av rest fs : List Value} {r2 : Option Value} {h2 : zq_H}
/-- the room of a call -/
def zq_rm (M2 : zq_M) (d2 d : Nat) (rest : List Value) : Bool := Nat.ble (d2 + 1) d && Nat.ble (8 + (M2.2.2.2.1 + 11) + 35 * d2) (35 * d) && Nat.ble (rest.map fun v => v.category).sum 8
theorem zq_rm_spec (hr : zq_rm M2 d2 d rest = true) : ((zq_R d2).frames + 1 ≤ (zq_R d).frames ∧ 8 + (M2.2.2.2.1 + 11) + (zq_R d2).locals ≤ (zq_R d).locals) ∧ (rest.map fun v => v.category).sum ≤ 8 := by
  unfold zq_rm at hr
  simp only [Bool.and_eq_true] at hr
  exact ⟨⟨Nat.le_of_ble_eq_true hr.1.1, Nat.le_of_ble_eq_true hr.1.2⟩, Nat.le_of_ble_eq_true hr.2⟩
theorem zq_callV (hd : decode M.2.2.1 pc = .ok (.invokevirtual idx, 3)) (hw : zq_cv M.1 idx M2 n ∧ Cond.instanceMethod M2.2.1 ∈ zq_g ∧ Cond.selects M2.2.1.cls M2.2.1 M2.2.1 ∈ zq_g) (hM : zq_P l M2 d2 (.ref a :: av) h r2 h2) (hrm : zq_rm M2 d2 d rest = true) (hn : av.length = n) (hh : zq_hp h a = some (.inr (ci, fs))) (hci : (vwCl[ci]?).map (fun q => q.1) = some M2.2.1.cls)
    (kk : zq_G l M d r h' (pc + 3) (ls, r2.toList ++ rest, h2)) : zq_G l M d r h' pc (ls, av.reverse ++ .ref a :: rest, h) := by
  intro p e s m args below meth c ad D cy A H locs la hX hP hD hS hl
  obtain ⟨⟨w1, w2, w3, w4⟩, w5, w6⟩ := hw
  obtain ⟨hR, hsum⟩ := zq_rm_spec hrm
  have hts := hX.2.2.2.2.2.2.1
  obtain ⟨q, hq, hq2⟩ := Option.map_eq_some_iff.mp hci
  rw [zq_hp_eq] at hh
  have hrec := va_recv hX.2.2.2.2.2.2.2.1 hP hq (zq_w_at hh)
  rw [hq2] at hrec
  refine zq_after (va_runV (Ts := zq_g) (As := av.map (zq_v ad)) (rest := rest.map (zq_v ad)) (b := ad a) ⟨hX.1, hX.2.1, hX.2.2.1, hX.2.2.2.2.2.1, hts⟩ (hM ad D cy A) ⟨callB_of n hts (zq_good w3) rfl rfl rfl (hts _ w2) (hts _ w1) w4 hR, hts _ w5, hts _ w6⟩ ⟨zq_blind _ ad D cy A h, hrec, fun U hU hW => ⟨rfl, by rw [hU]; exact hP, va_K.moved hW.alike hX.2.2.2.2.2.2.2.1, zq_N.warm hW hX.2.2.2.2.2.2.2.2, hD⟩⟩ rfl (by rw [List.length_map]; exact hn) hl.1 (by show List.map (zq_v ad) (av.reverse ++ .ref a :: rest) = _; rw [List.map_append, List.map_reverse]; rfl) (lv_room (by rw [zq_cat_sum]; exact hsum)) hd ⟨Nat.le_refl 0, Nat.le_refl 0⟩) hS (fun H1 locs1 hP1 hD1 hS1 => ?_)
  rw [zq_ret_map]
  exact kk p e s m args below meth c ad D cy A H1 locs1 la hX hP1 hD1 hS1 hl
theorem zq_callS (hd : decode M.2.2.1 pc = .ok (.invokestatic idx, 3)) (hw : zq_cv M.1 idx M2 n ∧ Cond.static M2.2.1 ∈ zq_g) (hM : zq_P l M2 d2 av h r2 h2) (hrm : zq_rm M2 d2 d rest = true) (hn : av.length = n)
    (kk : zq_G l M d r h' (pc + 3) (ls, r2.toList ++ rest, h2)) : zq_G l M d r h' pc (ls, av.reverse ++ rest, h) := by
  intro p e s m args below meth c ad D cy A H locs la hX hP hD hS hl
  obtain ⟨⟨w1, w2, w3, w4⟩, w5⟩ := hw
  obtain ⟨hR, hsum⟩ := zq_rm_spec hrm
  have hts := hX.2.2.2.2.2.2.1
  refine zq_after (va_runS (Ts := zq_g) (As := av.map (zq_v ad)) (rest := rest.map (zq_v ad)) ⟨hX.1, hX.2.1, hX.2.2.1, hX.2.2.2.2.2.1, hts⟩ (hM ad D cy A) ⟨callB_of n hts (zq_good w3) rfl rfl rfl (hts _ w2) (hts _ w1) w4 hR, hts _ w5⟩ ⟨zq_blind _ ad D cy A h, fun U hU hW => ⟨rfl, by rw [hU]; exact hP, va_K.moved hW.alike hX.2.2.2.2.2.2.2.1, zq_N.warm hW hX.2.2.2.2.2.2.2.2, hD⟩⟩ rfl (by rw [List.length_map]; exact hn) hl.1 (by show List.map (zq_v ad) (av.reverse ++ rest) = _; rw [List.map_append, List.map_reverse]) (lv_room (by rw [zq_cat_sum]; exact hsum)) hd ⟨Nat.le_refl 0, Nat.le_refl 0⟩) hS (fun H1 locs1 hP1 hD1 hS1 => ?_)
  rw [zq_ret_map]
  exact kk p e s m args below meth c ad D cy A H1 locs1 la hX hP1 hD1 hS1 hl
theorem zq_callN (hd : decode M.2.2.1 pc = .ok (.invokestatic idx, 3)) (hw : zq_cvN M.1 idx M2 n ∧ Cond.static M2.2.1 ∈ zq_g) (hM : zq_P l M2 d2 av h r2 h2) (hrm : zq_rm M2 d2 d rest = true) (hn : av.length = n)
    (kk : zq_G l M d r h' (pc + 3) (ls, r2.toList ++ rest, h2)) : zq_G l M d r h' pc (ls, av.reverse ++ rest, h) := by
  intro p e s m args below meth c ad D cy A H locs la hX hP hD hS hl
  obtain ⟨⟨w1, w2, w3, w4⟩, w5⟩ := hw
  obtain ⟨hR, hsum⟩ := zq_rm_spec hrm
  have hts := hX.2.2.2.2.2.2.1
  refine zq_after (va_runSN (Ts := zq_g) (As := av.map (zq_v ad)) (rest := rest.map (zq_v ad)) ⟨hX.1, hX.2.1, hX.2.2.1, hX.2.2.2.2.2.1, hts⟩ (hM ad D cy A) ⟨va_cnB n hts (zq_good w3) rfl rfl rfl (hX.2.2.2.2.2.2.2.2 _ w1) (hts _ w2) w4 hR, hts _ w5, trivial⟩ ⟨zq_blind _ ad D cy A h, fun U hU hW => ⟨rfl, by rw [hU]; exact hP, va_K.moved hW.alike hX.2.2.2.2.2.2.2.1, zq_N.warm hW hX.2.2.2.2.2.2.2.2, hD⟩⟩ rfl (by rw [List.length_map]; exact hn) hl.1 (by show List.map (zq_v ad) (av.reverse ++ rest) = _; rw [List.map_append, List.map_reverse]) (lv_room (by rw [zq_cat_sum]; exact hsum)) hd ⟨Nat.le_refl 0, Nat.le_refl 0⟩) hS (fun H1 locs1 hP1 hD1 hS1 => ?_)
  rw [zq_ret_map]
  exact kk p e s m args below meth c ad D cy A H1 locs1 la hX hP1 hD1 hS1 hl
/-- super.worth: the receiver's own name is any of the tables' -/
theorem zq_callU (hd : decode M.2.2.1 pc = .ok (.invokespecial idx, 3)) (hw : zq_cv M.1 idx M2 n ∧ Cond.sameMethod M2.2.1.cls M2.2.1.cls M2.2.1.name M2.2.1.desc ∈ zq_g ∧ Cond.superclass (zq_cn M.1) M2.2.1.cls ∈ zq_g ∧ Cond.instanceMethod M2.2.1 ∈ zq_g ∧ M2.2.1.name ≠ "<init>") (hM : zq_P l M2 d2 (.ref a :: av) h r2 h2) (hrm : zq_rm M2 d2 d rest = true) (hn : av.length = n) (hh : zq_hp h a = some (.inr (ci, fs))) (hci : ci < 13)
    (kk : zq_G l M d r h' (pc + 3) (ls, r2.toList ++ rest, h2)) : zq_G l M d r h' pc (ls, av.reverse ++ .ref a :: rest, h) := by
  intro p e s m args below meth c ad D cy A H locs la hX hP hD hS hl
  obtain ⟨⟨w1, w2, w3, w4⟩, w5, w6, w7, w8⟩ := hw
  obtain ⟨hR, hsum⟩ := zq_rm_spec hrm
  have hts := hX.2.2.2.2.2.2.1
  have hq : vwCl[ci]? = some vwCl[ci] := List.getElem?_eq_getElem (show ci < vwCl.length from hci)
  rw [zq_hp_eq] at hh
  have hrec := va_recv hX.2.2.2.2.2.2.2.1 hP hq (zq_w_at hh)
  have hG := zq_good w3
  have hc : zq_cw M2 ∈ zq_ws M2 := List.mem_cons_self
  have hlen : ∀ sig, parseMethodDescriptor M2.2.1.desc = some sig → n = sig.parameters.length := by
    intro sig hsig
    have h3 := w4.2.2
    rw [hsig] at h3
    exact (Option.some.inj h3).symm
  refine zq_after (va_runSU (Ts := zq_g) (As := av.map (zq_v ad)) (rest := rest.map (zq_v ad)) (b := ad a) ((hX.2.2.2.2.2.2.2.1.1 ci _ hq).2) ⟨hX.1, hX.2.1, hX.2.2.1, hX.2.2.2.2.2.1, hts⟩ (hM ad D cy A) ⟨⟨rfl, rfl, hR.1, hR.2, pay_in hts hG, hc⟩, hts _ w1, hts _ w5, hts _ w6, hts _ w7, hts _ w2, hts _ w3, w8, hlen⟩ ⟨zq_blind _ ad D cy A h, hrec, fun U hU hW => ⟨rfl, by rw [hU]; exact hP, va_K.moved hW.alike hX.2.2.2.2.2.2.2.1, zq_N.warm hW hX.2.2.2.2.2.2.2.2, hD⟩⟩ rfl (by rw [List.length_map]; exact hn) hl.1 (by show List.map (zq_v ad) (av.reverse ++ .ref a :: rest) = _; rw [List.map_append, List.map_reverse]; rfl) (lv_room (by rw [zq_cat_sum]; exact hsum)) hd ⟨Nat.le_refl 0, Nat.le_refl 0⟩) hS (fun H1 locs1 hP1 hD1 hS1 => ?_)
  rw [zq_ret_map]
  exact kk p e s m args below meth c ad D cy A H1 locs1 la hX hP1 hD1 hS1 hl
end ZC
end
section
/-! the words of each method and of each call, by their places in the tables -/
set_option maxRecDepth 100000 in
theorem wX0_init : zq_cw mX0_init ∈ zq_g := zq_tg (List.mem_of_getElem? (i := 169) rfl) rfl
set_option maxRecDepth 100000 in
theorem wX0_get : zq_cw mX0_get ∈ zq_g := zq_tg (List.mem_of_getElem? (i := 637) rfl) rfl
set_option maxRecDepth 100000 in
theorem wX1_init : zq_cw mX1_init ∈ zq_g := zq_tg (List.mem_of_getElem? (i := 155) rfl) rfl
set_option maxRecDepth 100000 in
theorem wX1_whoHolds : zq_cw mX1_whoHolds ∈ zq_g := zq_tg (List.mem_of_getElem? (i := 490) rfl) rfl
set_option maxRecDepth 100000 in
theorem wX1_leastActsDoer : zq_cw mX1_leastActsDoer ∈ zq_g := zq_tg (List.mem_of_getElem? (i := 494) rfl) rfl
set_option maxRecDepth 100000 in
theorem wX1_lastDoer : zq_cw mX1_lastDoer ∈ zq_g := zq_tg (List.mem_of_getElem? (i := 499) rfl) rfl
set_option maxRecDepth 100000 in
theorem wX1_comesBack : zq_cw mX1_comesBack ∈ zq_g := zq_tg (List.mem_of_getElem? (i := 517) rfl) rfl
set_option maxRecDepth 100000 in
theorem wX2_init : zq_cw mX2_init ∈ zq_g := zq_tg (List.mem_of_getElem? (i := 227) rfl) rfl
set_option maxRecDepth 100000 in
theorem wX2_worth : zq_cw mX2_worth ∈ zq_g := zq_tg (List.mem_of_getElem? (i := 627) rfl) rfl
set_option maxRecDepth 100000 in
theorem wX3_init : zq_cw mX3_init ∈ zq_g := zq_tg (List.mem_of_getElem? (i := 213) rfl) rfl
set_option maxRecDepth 100000 in
theorem wX3_worth : zq_cw mX3_worth ∈ zq_g := zq_tg (List.mem_of_getElem? (i := 631) rfl) rfl
set_option maxRecDepth 100000 in
theorem wX4_init : zq_cw mX4_init ∈ zq_g := zq_tg (List.mem_of_getElem? (i := 220) rfl) rfl
set_option maxRecDepth 100000 in
theorem wX4_worth : zq_cw mX4_worth ∈ zq_g := zq_tg (List.mem_of_getElem? (i := 642) rfl) rfl
set_option maxRecDepth 100000 in
theorem wX5_init : zq_cw mX5_init ∈ zq_g := zq_tg (List.mem_of_getElem? (i := 114) rfl) rfl
set_option maxRecDepth 100000 in
theorem wX5_begin : zq_cw mX5_begin ∈ zq_g := zq_tg (List.mem_of_getElem? (i := 357) rfl) rfl
set_option maxRecDepth 100000 in
theorem wX5_become : zq_cw mX5_become ∈ zq_g := zq_tg (List.mem_of_getElem? (i := 671) rfl) rfl
set_option maxRecDepth 100000 in
theorem wX5_move : zq_cw mX5_move ∈ zq_g := zq_tg (List.mem_of_getElem? (i := 418) rfl) rfl
set_option maxRecDepth 100000 in
theorem wX5_turnSmoke : zq_cw mX5_turnSmoke ∈ zq_g := zq_tg (List.mem_of_getElem? (i := 434) rfl) rfl
set_option maxRecDepth 100000 in
theorem wX5_act : zq_cw mX5_act ∈ zq_g := zq_tg (List.mem_of_getElem? (i := 449) rfl) rfl
set_option maxRecDepth 100000 in
theorem wX5_passDay : zq_cw mX5_passDay ∈ zq_g := zq_tg (List.mem_of_getElem? (i := 458) rfl) rfl
set_option maxRecDepth 100000 in
theorem wX5_remember : zq_cw mX5_remember ∈ zq_g := zq_tg (List.mem_of_getElem? (i := 422) rfl) rfl
set_option maxRecDepth 100000 in
theorem wX5_takeBack : zq_cw mX5_takeBack ∈ zq_g := zq_tg (List.mem_of_getElem? (i := 466) rfl) rfl
set_option maxRecDepth 100000 in
theorem wX5_hasDeed : zq_cw mX5_hasDeed ∈ zq_g := zq_tg (List.mem_of_getElem? (i := 474) rfl) rfl
set_option maxRecDepth 100000 in
theorem wX5_ofDeed : zq_cw mX5_ofDeed ∈ zq_g := zq_tg (List.mem_of_getElem? (i := 478) rfl) rfl
set_option maxRecDepth 100000 in
theorem wX5_deedsOfAct : zq_cw mX5_deedsOfAct ∈ zq_g := zq_tg (List.mem_of_getElem? (i := 660) rfl) rfl
set_option maxRecDepth 100000 in
theorem wX5_keptOn : zq_cw mX5_keptOn ∈ zq_g := zq_tg (List.mem_of_getElem? (i := 529) rfl) rfl
set_option maxRecDepth 100000 in
theorem wX5_daysKept : zq_cw mX5_daysKept ∈ zq_g := zq_tg (List.mem_of_getElem? (i := 603) rfl) rfl
set_option maxRecDepth 100000 in
theorem wX5_firstDayKept : zq_cw mX5_firstDayKept ∈ zq_g := zq_tg (List.mem_of_getElem? (i := 607) rfl) rfl
set_option maxRecDepth 100000 in
theorem wX5_lastDayKept : zq_cw mX5_lastDayKept ∈ zq_g := zq_tg (List.mem_of_getElem? (i := 611) rfl) rfl
set_option maxRecDepth 100000 in
theorem wX5_peopleIn : zq_cw mX5_peopleIn ∈ zq_g := zq_tg (List.mem_of_getElem? (i := 405) rfl) rfl
set_option maxRecDepth 100000 in
theorem wX5_seen : zq_cw mX5_seen ∈ zq_g := zq_tg (List.mem_of_getElem? (i := 370) rfl) rfl
set_option maxRecDepth 100000 in
theorem wX5_shown : zq_cw mX5_shown ∈ zq_g := zq_tg (List.mem_of_getElem? (i := 375) rfl) rfl
set_option maxRecDepth 100000 in
theorem wX5_shownIf : zq_cw mX5_shownIf ∈ zq_g := zq_tg (List.mem_of_getElem? (i := 379) rfl) rfl
set_option maxRecDepth 100000 in
theorem wX5_shows : zq_cw mX5_shows ∈ zq_g := zq_tg (List.mem_of_getElem? (i := 383) rfl) rfl
set_option maxRecDepth 100000 in
theorem wX5_isInSmoke : zq_cw mX5_isInSmoke ∈ zq_g := zq_tg (List.mem_of_getElem? (i := 390) rfl) rfl
set_option maxRecDepth 100000 in
theorem wX5_isAhead : zq_cw mX5_isAhead ∈ zq_g := zq_tg (List.mem_of_getElem? (i := 396) rfl) rfl
set_option maxRecDepth 100000 in
theorem wX5_leastSmoke : zq_cw mX5_leastSmoke ∈ zq_g := zq_tg (List.mem_of_getElem? (i := 545) rfl) rfl
set_option maxRecDepth 100000 in
theorem wX5_nearestRow : zq_cw mX5_nearestRow ∈ zq_g := zq_tg (List.mem_of_getElem? (i := 549) rfl) rfl
set_option maxRecDepth 100000 in
theorem wX5_farthestRow : zq_cw mX5_farthestRow ∈ zq_g := zq_tg (List.mem_of_getElem? (i := 554) rfl) rfl
set_option maxRecDepth 100000 in
theorem wX6_init : zq_cw mX6_init ∈ zq_g := zq_tg (List.mem_of_getElem? (i := 199) rfl) rfl
set_option maxRecDepth 100000 in
theorem wX6_worth : zq_cw mX6_worth ∈ zq_g := zq_tg (List.mem_of_getElem? (i := 662) rfl) rfl
set_option maxRecDepth 100000 in
theorem wX7_init : zq_cw mX7_init ∈ zq_g := zq_tg (List.mem_of_getElem? (i := 206) rfl) rfl
set_option maxRecDepth 100000 in
theorem wX7_worth : zq_cw mX7_worth ∈ zq_g := zq_tg (List.mem_of_getElem? (i := 646) rfl) rfl
set_option maxRecDepth 100000 in
theorem wX8_init : zq_cw mX8_init ∈ zq_g := zq_tg (List.mem_of_getElem? (i := 83) rfl) rfl
set_option maxRecDepth 100000 in
theorem wX8_readAll : zq_cw mX8_readAll ∈ zq_g := zq_tg (List.mem_of_getElem? (i := 289) rfl) rfl
set_option maxRecDepth 100000 in
theorem wX8_readItem : zq_cw mX8_readItem ∈ zq_g := zq_tg (List.mem_of_getElem? (i := 318) rfl) rfl
set_option maxRecDepth 100000 in
theorem wX8_readPerson : zq_cw mX8_readPerson ∈ zq_g := zq_tg (List.mem_of_getElem? (i := 322) rfl) rfl
set_option maxRecDepth 100000 in
theorem wX8_readLate : zq_cw mX8_readLate ∈ zq_g := zq_tg (List.mem_of_getElem? (i := 334) rfl) rfl
set_option maxRecDepth 100000 in
theorem wX8_readCloud : zq_cw mX8_readCloud ∈ zq_g := zq_tg (List.mem_of_getElem? (i := 338) rfl) rfl
set_option maxRecDepth 100000 in
theorem wX8_readRule : zq_cw mX8_readRule ∈ zq_g := zq_tg (List.mem_of_getElem? (i := 346) rfl) rfl
set_option maxRecDepth 100000 in
theorem wX8_readNumber : zq_cw mX8_readNumber ∈ zq_g := zq_tg (List.mem_of_getElem? (i := 326) rfl) rfl
set_option maxRecDepth 100000 in
theorem wX8_readStop : zq_cw mX8_readStop ∈ zq_g := zq_tg (List.mem_of_getElem? (i := 330) rfl) rfl
set_option maxRecDepth 100000 in
theorem wX8_nextToken : zq_cw mX8_nextToken ∈ zq_g := zq_tg (List.mem_of_getElem? (i := 300) rfl) rfl
set_option maxRecDepth 100000 in
theorem wX8_takeLetters : zq_cw mX8_takeLetters ∈ zq_g := zq_tg (List.mem_of_getElem? (i := 307) rfl) rfl
set_option maxRecDepth 100000 in
theorem wX8_takeDigits : zq_cw mX8_takeDigits ∈ zq_g := zq_tg (List.mem_of_getElem? (i := 314) rfl) rfl
set_option maxRecDepth 100000 in
theorem wX8_isLetter : zq_cw mX8_isLetter ∈ zq_g := zq_tg (List.mem_of_getElem? (i := 303) rfl) rfl
set_option maxRecDepth 100000 in
theorem wX8_isDigit : zq_cw mX8_isDigit ∈ zq_g := zq_tg (List.mem_of_getElem? (i := 310) rfl) rfl
set_option maxRecDepth 100000 in
theorem wX9_init : zq_cw mX9_init ∈ zq_g := zq_tg (List.mem_of_getElem? (i := 29) rfl) rfl
set_option maxRecDepth 100000 in
theorem wX9_forget : zq_cw mX9_forget ∈ zq_g := zq_tg (List.mem_of_getElem? (i := 296) rfl) rfl
set_option maxRecDepth 100000 in
theorem wX9_become : zq_cw mX9_become ∈ zq_g := zq_tg (List.mem_of_getElem? (i := 350) rfl) rfl
set_option maxRecDepth 100000 in
theorem wX9_hasPerson : zq_cw mX9_hasPerson ∈ zq_g := zq_tg (List.mem_of_getElem? (i := 366) rfl) rfl
set_option maxRecDepth 100000 in
theorem wX9_areBits : zq_cw mX9_areBits ∈ zq_g := zq_tg (List.mem_of_getElem? (i := 541) rfl) rfl
set_option maxRecDepth 100000 in
theorem wX9_hasCloud : zq_cw mX9_hasCloud ∈ zq_g := zq_tg (List.mem_of_getElem? (i := 342) rfl) rfl
set_option maxRecDepth 100000 in
theorem wX9_ofHeight : zq_cw mX9_ofHeight ∈ zq_g := zq_tg (List.mem_of_getElem? (i := 595) rfl) rfl
set_option maxRecDepth 100000 in
theorem wX9_actsGiving : zq_cw mX9_actsGiving ∈ zq_g := zq_tg (List.mem_of_getElem? (i := 504) rfl) rfl
set_option maxRecDepth 100000 in
theorem wX9_actsGivenBy : zq_cw mX9_actsGivenBy ∈ zq_g := zq_tg (List.mem_of_getElem? (i := 521) rfl) rfl
set_option maxRecDepth 100000 in
theorem wX9_actsAcross : zq_cw mX9_actsAcross ∈ zq_g := zq_tg (List.mem_of_getElem? (i := 508) rfl) rfl
set_option maxRecDepth 100000 in
theorem wX10_init : zq_cw mX10_init ∈ zq_g := zq_tg (List.mem_of_getElem? (i := 234) rfl) rfl
set_option maxRecDepth 100000 in
theorem wX10_worth : zq_cw mX10_worth ∈ zq_g := zq_tg (List.mem_of_getElem? (i := 653) rfl) rfl
set_option maxRecDepth 100000 in
theorem wX11_init : zq_cw mX11_init ∈ zq_g := zq_tg (List.mem_of_getElem? (i := 21) rfl) rfl
set_option maxRecDepth 100000 in
theorem wX11_type : zq_cw mX11_type ∈ zq_g := zq_tg (List.mem_of_getElem? (i := 274) rfl) rfl
set_option maxRecDepth 100000 in
theorem wX11_clear : zq_cw mX11_clear ∈ zq_g := zq_tg (List.mem_of_getElem? (i := 281) rfl) rfl
set_option maxRecDepth 100000 in
theorem wX11_square : zq_cw mX11_square ∈ zq_g := zq_tg (List.mem_of_getElem? (i := 285) rfl) rfl
set_option maxRecDepth 100000 in
theorem wX11_person : zq_cw mX11_person ∈ zq_g := zq_tg (List.mem_of_getElem? (i := 362) rfl) rfl
set_option maxRecDepth 100000 in
theorem wX11_cell : zq_cw mX11_cell ∈ zq_g := zq_tg (List.mem_of_getElem? (i := 401) rfl) rfl
set_option maxRecDepth 100000 in
theorem wX11_now : zq_cw mX11_now ∈ zq_g := zq_tg (List.mem_of_getElem? (i := 409) rfl) rfl
set_option maxRecDepth 100000 in
theorem wX11_walk : zq_cw mX11_walk ∈ zq_g := zq_tg (List.mem_of_getElem? (i := 414) rfl) rfl
set_option maxRecDepth 100000 in
theorem wX11_die : zq_cw mX11_die ∈ zq_g := zq_tg (List.mem_of_getElem? (i := 426) rfl) rfl
set_option maxRecDepth 100000 in
theorem wX11_smoke : zq_cw mX11_smoke ∈ zq_g := zq_tg (List.mem_of_getElem? (i := 430) rfl) rfl
set_option maxRecDepth 100000 in
theorem wX11_deed : zq_cw mX11_deed ∈ zq_g := zq_tg (List.mem_of_getElem? (i := 444) rfl) rfl
set_option maxRecDepth 100000 in
theorem wX11_day : zq_cw mX11_day ∈ zq_g := zq_tg (List.mem_of_getElem? (i := 454) rfl) rfl
set_option maxRecDepth 100000 in
theorem wX11_undo : zq_cw mX11_undo ∈ zq_g := zq_tg (List.mem_of_getElem? (i := 462) rfl) rfl
set_option maxRecDepth 100000 in
theorem wX11_done : zq_cw mX11_done ∈ zq_g := zq_tg (List.mem_of_getElem? (i := 470) rfl) rfl
set_option maxRecDepth 100000 in
theorem wX11_counts : zq_cw mX11_counts ∈ zq_g := zq_tg (List.mem_of_getElem? (i := 482) rfl) rfl
set_option maxRecDepth 100000 in
theorem wX11_holder : zq_cw mX11_holder ∈ zq_g := zq_tg (List.mem_of_getElem? (i := 486) rfl) rfl
set_option maxRecDepth 100000 in
theorem wX11_round : zq_cw mX11_round ∈ zq_g := zq_tg (List.mem_of_getElem? (i := 513) rfl) rfl
set_option maxRecDepth 100000 in
theorem wX11_votes : zq_cw mX11_votes ∈ zq_g := zq_tg (List.mem_of_getElem? (i := 525) rfl) rfl
set_option maxRecDepth 100000 in
theorem wX11_nearer : zq_cw mX11_nearer ∈ zq_g := zq_tg (List.mem_of_getElem? (i := 533) rfl) rfl
set_option maxRecDepth 100000 in
theorem wX11_hide : zq_cw mX11_hide ∈ zq_g := zq_tg (List.mem_of_getElem? (i := 537) rfl) rfl
set_option maxRecDepth 100000 in
theorem wX11_blocks : zq_cw mX11_blocks ∈ zq_g := zq_tg (List.mem_of_getElem? (i := 561) rfl) rfl
set_option maxRecDepth 100000 in
theorem wX11_hides : zq_cw mX11_hides ∈ zq_g := zq_tg (List.mem_of_getElem? (i := 566) rfl) rfl
set_option maxRecDepth 100000 in
theorem wX11_odds : zq_cw mX11_odds ∈ zq_g := zq_tg (List.mem_of_getElem? (i := 572) rfl) rfl
set_option maxRecDepth 100000 in
theorem wX11_often : zq_cw mX11_often ∈ zq_g := zq_tg (List.mem_of_getElem? (i := 586) rfl) rfl
set_option maxRecDepth 100000 in
theorem wX11_stood : zq_cw mX11_stood ∈ zq_g := zq_tg (List.mem_of_getElem? (i := 591) rfl) rfl
set_option maxRecDepth 100000 in
theorem wX11_days : zq_cw mX11_days ∈ zq_g := zq_tg (List.mem_of_getElem? (i := 599) rfl) rfl
set_option maxRecDepth 100000 in
theorem wX11_together : zq_cw mX11_together ∈ zq_g := zq_tg (List.mem_of_getElem? (i := 615) rfl) rfl
set_option maxRecDepth 100000 in
theorem wX11_mark : zq_cw mX11_mark ∈ zq_g := zq_tg (List.mem_of_getElem? (i := 619) rfl) rfl
set_option maxRecDepth 100000 in
theorem wX11_keep : zq_cw mX11_keep ∈ zq_g := zq_tg (List.mem_of_getElem? (i := 667) rfl) rfl
set_option maxRecDepth 100000 in
theorem wX11_back : zq_cw mX11_back ∈ zq_g := zq_tg (List.mem_of_getElem? (i := 675) rfl) rfl
set_option maxRecDepth 100000 in
theorem wX11_count : zq_cw mX11_count ∈ zq_g := zq_tg (List.mem_of_getElem? (i := 679) rfl) rfl
set_option maxRecDepth 100000 in
theorem wX11_trace : zq_cw mX11_trace ∈ zq_g := zq_tg (List.mem_of_getElem? (i := 683) rfl) rfl
set_option maxRecDepth 100000 in
theorem wX11_isBeyond : zq_cw mX11_isBeyond ∈ zq_g := zq_tg (List.mem_of_getElem? (i := 277) rfl) rfl
set_option maxRecDepth 100000 in
theorem wX11_isInSquare : zq_cw mX11_isInSquare ∈ zq_g := zq_tg (List.mem_of_getElem? (i := 386) rfl) rfl
set_option maxRecDepth 100000 in
theorem wX11_bit : zq_cw mX11_bit ∈ zq_g := zq_tg (List.mem_of_getElem? (i := 393) rfl) rfl
set_option maxRecDepth 100000 in
theorem wX11_power : zq_cw mX11_power ∈ zq_g := zq_tg (List.mem_of_getElem? (i := 576) rfl) rfl
set_option maxRecDepth 100000 in
theorem wX11_commonDivisor : zq_cw mX11_commonDivisor ∈ zq_g := zq_tg (List.mem_of_getElem? (i := 579) rfl) rfl
set_option maxRecDepth 100000 in
theorem wX12_init : zq_cw mX12_init ∈ zq_g := zq_tg (List.mem_of_getElem? (i := 688) rfl) rfl
set_option maxRecDepth 100000 in
theorem wX12_in : zq_cw mX12_in ∈ zq_g := zq_tg (List.mem_of_getElem? (i := 707) rfl) rfl
set_option maxRecDepth 100000 in
theorem wX12_isPerson : zq_cw mX12_isPerson ∈ zq_g := zq_tg (List.mem_of_getElem? (i := 798) rfl) rfl
set_option maxRecDepth 100000 in
theorem wX12_isPeople : zq_cw mX12_isPeople ∈ zq_g := zq_tg (List.mem_of_getElem? (i := 901) rfl) rfl
set_option maxRecDepth 100000 in
theorem wX12_type : zq_cw mX12_type ∈ zq_g := zq_tg (List.mem_of_getElem? (i := 782) rfl) rfl
set_option maxRecDepth 100000 in
theorem wX12_clear : zq_cw mX12_clear ∈ zq_g := zq_tg (List.mem_of_getElem? (i := 786) rfl) rfl
set_option maxRecDepth 100000 in
theorem wX12_byteAt : zq_cw mX12_byteAt ∈ zq_g := zq_tg (List.mem_of_getElem? (i := 701) rfl) rfl
set_option maxRecDepth 100000 in
theorem wX12_isLetter : zq_cw mX12_isLetter ∈ zq_g := zq_tg (List.mem_of_getElem? (i := 704) rfl) rfl
set_option maxRecDepth 100000 in
theorem wX12_isDigit : zq_cw mX12_isDigit ∈ zq_g := zq_tg (List.mem_of_getElem? (i := 710) rfl) rfl
set_option maxRecDepth 100000 in
theorem wX12_token : zq_cw mX12_token ∈ zq_g := zq_tg (List.mem_of_getElem? (i := 697) rfl) rfl
set_option maxRecDepth 100000 in
theorem wX12_number : zq_cw mX12_number ∈ zq_g := zq_tg (List.mem_of_getElem? (i := 722) rfl) rfl
set_option maxRecDepth 100000 in
theorem wX12_readsPerson : zq_cw mX12_readsPerson ∈ zq_g := zq_tg (List.mem_of_getElem? (i := 718) rfl) rfl
set_option maxRecDepth 100000 in
theorem wX12_readsLate : zq_cw mX12_readsLate ∈ zq_g := zq_tg (List.mem_of_getElem? (i := 726) rfl) rfl
set_option maxRecDepth 100000 in
theorem wX12_readsCloud : zq_cw mX12_readsCloud ∈ zq_g := zq_tg (List.mem_of_getElem? (i := 730) rfl) rfl
set_option maxRecDepth 100000 in
theorem wX12_readsRule : zq_cw mX12_readsRule ∈ zq_g := zq_tg (List.mem_of_getElem? (i := 734) rfl) rfl
set_option maxRecDepth 100000 in
theorem wX12_readsItem : zq_cw mX12_readsItem ∈ zq_g := zq_tg (List.mem_of_getElem? (i := 714) rfl) rfl
set_option maxRecDepth 100000 in
theorem wX12_reads : zq_cw mX12_reads ∈ zq_g := zq_tg (List.mem_of_getElem? (i := 693) rfl) rfl
set_option maxRecDepth 100000 in
theorem wX12_tells : zq_cw mX12_tells ∈ zq_g := zq_tg (List.mem_of_getElem? (i := 738) rfl) rfl
set_option maxRecDepth 100000 in
theorem wX12_square : zq_cw mX12_square ∈ zq_g := zq_tg (List.mem_of_getElem? (i := 790) rfl) rfl
set_option maxRecDepth 100000 in
theorem wX12_isCloud : zq_cw mX12_isCloud ∈ zq_g := zq_tg (List.mem_of_getElem? (i := 810) rfl) rfl
set_option maxRecDepth 100000 in
theorem wX12_isBare : zq_cw mX12_isBare ∈ zq_g := zq_tg (List.mem_of_getElem? (i := 806) rfl) rfl
set_option maxRecDepth 100000 in
theorem wX12_isSeen : zq_cw mX12_isSeen ∈ zq_g := zq_tg (List.mem_of_getElem? (i := 802) rfl) rfl
set_option maxRecDepth 100000 in
theorem wX12_seenNow : zq_cw mX12_seenNow ∈ zq_g := zq_tg (List.mem_of_getElem? (i := 822) rfl) rfl
set_option maxRecDepth 100000 in
theorem wX12_person : zq_cw mX12_person ∈ zq_g := zq_tg (List.mem_of_getElem? (i := 794) rfl) rfl
set_option maxRecDepth 100000 in
theorem wX12_cell : zq_cw mX12_cell ∈ zq_g := zq_tg (List.mem_of_getElem? (i := 814) rfl) rfl
set_option maxRecDepth 100000 in
theorem wX12_now : zq_cw mX12_now ∈ zq_g := zq_tg (List.mem_of_getElem? (i := 818) rfl) rfl
set_option maxRecDepth 100000 in
theorem wX12_keeps : zq_cw mX12_keeps ∈ zq_g := zq_tg (List.mem_of_getElem? (i := 830) rfl) rfl
set_option maxRecDepth 100000 in
theorem wX12_walk : zq_cw mX12_walk ∈ zq_g := zq_tg (List.mem_of_getElem? (i := 826) rfl) rfl
set_option maxRecDepth 100000 in
theorem wX12_die : zq_cw mX12_die ∈ zq_g := zq_tg (List.mem_of_getElem? (i := 834) rfl) rfl
set_option maxRecDepth 100000 in
theorem wX12_smoke : zq_cw mX12_smoke ∈ zq_g := zq_tg (List.mem_of_getElem? (i := 838) rfl) rfl
set_option maxRecDepth 100000 in
theorem wX12_ones : zq_cw mX12_ones ∈ zq_g := zq_tg (List.mem_of_getElem? (i := 841) rfl) rfl
set_option maxRecDepth 100000 in
theorem wX12_deed : zq_cw mX12_deed ∈ zq_g := zq_tg (List.mem_of_getElem? (i := 845) rfl) rfl
set_option maxRecDepth 100000 in
theorem wX12_day : zq_cw mX12_day ∈ zq_g := zq_tg (List.mem_of_getElem? (i := 849) rfl) rfl
set_option maxRecDepth 100000 in
theorem wX12_undo : zq_cw mX12_undo ∈ zq_g := zq_tg (List.mem_of_getElem? (i := 853) rfl) rfl
set_option maxRecDepth 100000 in
theorem wX12_isDeed : zq_cw mX12_isDeed ∈ zq_g := zq_tg (List.mem_of_getElem? (i := 861) rfl) rfl
set_option maxRecDepth 100000 in
theorem wX12_done : zq_cw mX12_done ∈ zq_g := zq_tg (List.mem_of_getElem? (i := 857) rfl) rfl
set_option maxRecDepth 100000 in
theorem wX12_counts : zq_cw mX12_counts ∈ zq_g := zq_tg (List.mem_of_getElem? (i := 865) rfl) rfl
set_option maxRecDepth 100000 in
theorem wX12_ownHolder : zq_cw mX12_ownHolder ∈ zq_g := zq_tg (List.mem_of_getElem? (i := 877) rfl) rfl
set_option maxRecDepth 100000 in
theorem wX12_laysWays : zq_cw mX12_laysWays ∈ zq_g := zq_tg (List.mem_of_getElem? (i := 881) rfl) rfl
set_option maxRecDepth 100000 in
theorem wX12_holderBy : zq_cw mX12_holderBy ∈ zq_g := zq_tg (List.mem_of_getElem? (i := 873) rfl) rfl
set_option maxRecDepth 100000 in
theorem wX12_holder : zq_cw mX12_holder ∈ zq_g := zq_tg (List.mem_of_getElem? (i := 869) rfl) rfl
set_option maxRecDepth 100000 in
theorem wX12_round : zq_cw mX12_round ∈ zq_g := zq_tg (List.mem_of_getElem? (i := 885) rfl) rfl
set_option maxRecDepth 100000 in
theorem wX12_votes : zq_cw mX12_votes ∈ zq_g := zq_tg (List.mem_of_getElem? (i := 889) rfl) rfl
set_option maxRecDepth 100000 in
theorem wX12_nearer : zq_cw mX12_nearer ∈ zq_g := zq_tg (List.mem_of_getElem? (i := 893) rfl) rfl
set_option maxRecDepth 100000 in
theorem wX12_hide : zq_cw mX12_hide ∈ zq_g := zq_tg (List.mem_of_getElem? (i := 897) rfl) rfl
set_option maxRecDepth 100000 in
theorem wX12_blocks : zq_cw mX12_blocks ∈ zq_g := zq_tg (List.mem_of_getElem? (i := 905) rfl) rfl
set_option maxRecDepth 100000 in
theorem wX12_hides : zq_cw mX12_hides ∈ zq_g := zq_tg (List.mem_of_getElem? (i := 909) rfl) rfl
set_option maxRecDepth 100000 in
theorem wX12_power : zq_cw mX12_power ∈ zq_g := zq_tg (List.mem_of_getElem? (i := 918) rfl) rfl
set_option maxRecDepth 100000 in
theorem wX12_odds : zq_cw mX12_odds ∈ zq_g := zq_tg (List.mem_of_getElem? (i := 913) rfl) rfl
set_option maxRecDepth 100000 in
theorem wX12_often : zq_cw mX12_often ∈ zq_g := zq_tg (List.mem_of_getElem? (i := 922) rfl) rfl
set_option maxRecDepth 100000 in
theorem wX12_stood : zq_cw mX12_stood ∈ zq_g := zq_tg (List.mem_of_getElem? (i := 926) rfl) rfl
set_option maxRecDepth 100000 in
theorem wX12_days : zq_cw mX12_days ∈ zq_g := zq_tg (List.mem_of_getElem? (i := 930) rfl) rfl
set_option maxRecDepth 100000 in
theorem wX12_together : zq_cw mX12_together ∈ zq_g := zq_tg (List.mem_of_getElem? (i := 934) rfl) rfl
set_option maxRecDepth 100000 in
theorem wX12_mark : zq_cw mX12_mark ∈ zq_g := zq_tg (List.mem_of_getElem? (i := 938) rfl) rfl
set_option maxRecDepth 100000 in
theorem wX12_keep : zq_cw mX12_keep ∈ zq_g := zq_tg (List.mem_of_getElem? (i := 948) rfl) rfl
set_option maxRecDepth 100000 in
theorem wX12_back : zq_cw mX12_back ∈ zq_g := zq_tg (List.mem_of_getElem? (i := 952) rfl) rfl
set_option maxRecDepth 100000 in
theorem wX12_count : zq_cw mX12_count ∈ zq_g := zq_tg (List.mem_of_getElem? (i := 956) rfl) rfl
set_option maxRecDepth 100000 in
theorem wX12_trace : zq_cw mX12_trace ∈ zq_g := zq_tg (List.mem_of_getElem? (i := 960) rfl) rfl
set_option maxRecDepth 100000 in
theorem wJ6_bitCount_0f7a4 : zq_cw mJ6_bitCount_0f7a4 ∈ zq_g := zq_tg (List.mem_of_getElem? (i := 437) rfl) rfl
set_option maxRecDepth 100000 in
theorem wJ9_max_7cf53 : zq_cw mJ9_max_7cf53 ∈ zq_g := zq_tg (List.mem_of_getElem? (i := 557) rfl) rfl
set_option maxRecDepth 100000 in
theorem wJ9_max_f86c9 : zq_cw mJ9_max_f86c9 ∈ zq_g := zq_tg (List.mem_of_getElem? (i := 582) rfl) rfl
set_option maxRecDepth 100000 in
theorem wJ9_min_7cf53 : zq_cw mJ9_min_7cf53 ∈ zq_g := zq_tg (List.mem_of_getElem? (i := 292) rfl) rfl
set_option maxRecDepth 100000 in
theorem k11_87 : zq_cv 11 87 mX11_isBeyond 2 ∧ Cond.static mX11_isBeyond.2.1 ∈ zq_g := ⟨⟨zq_tg (List.mem_of_getElem? (i := 275) rfl) rfl, zq_tg (List.mem_of_getElem? (i := 1) rfl) rfl, wX11_isBeyond, by decide +kernel⟩, zq_tg (List.mem_of_getElem? (i := 276) rfl) rfl⟩
set_option maxRecDepth 100000 in
theorem k11_95 : zq_cv 11 95 mX8_readAll 1 ∧ Cond.instanceMethod mX8_readAll.2.1 ∈ zq_g ∧ Cond.selects mX8_readAll.2.1.cls mX8_readAll.2.1 mX8_readAll.2.1 ∈ zq_g := ⟨⟨zq_tg (List.mem_of_getElem? (i := 286) rfl) rfl, zq_tg (List.mem_of_getElem? (i := 3) rfl) rfl, wX8_readAll, by decide +kernel⟩, zq_tg (List.mem_of_getElem? (i := 287) rfl) rfl, zq_tg (List.mem_of_getElem? (i := 288) rfl) rfl⟩
set_option maxRecDepth 100000 in
theorem k8_19 : zq_cv 8 19 mJ9_min_7cf53 2 ∧ Cond.static mJ9_min_7cf53.2.1 ∈ zq_g := ⟨⟨zq_tg (List.mem_of_getElem? (i := 290) rfl) rfl, zq_tg (List.mem_of_getElem? (i := 14) rfl) rfl, wJ9_min_7cf53, by decide +kernel⟩, zq_tg (List.mem_of_getElem? (i := 291) rfl) rfl⟩
set_option maxRecDepth 100000 in
theorem k8_36 : zq_cv 8 36 mX9_forget 0 ∧ Cond.instanceMethod mX9_forget.2.1 ∈ zq_g ∧ Cond.selects mX9_forget.2.1.cls mX9_forget.2.1 mX9_forget.2.1 ∈ zq_g := ⟨⟨zq_tg (List.mem_of_getElem? (i := 293) rfl) rfl, zq_tg (List.mem_of_getElem? (i := 2) rfl) rfl, wX9_forget, by decide +kernel⟩, zq_tg (List.mem_of_getElem? (i := 294) rfl) rfl, zq_tg (List.mem_of_getElem? (i := 295) rfl) rfl⟩
set_option maxRecDepth 100000 in
theorem k8_41 : zq_cv 8 41 mX8_nextToken 0 ∧ Cond.instanceMethod mX8_nextToken.2.1 ∈ zq_g ∧ Cond.selects mX8_nextToken.2.1.cls mX8_nextToken.2.1 mX8_nextToken.2.1 ∈ zq_g := ⟨⟨zq_tg (List.mem_of_getElem? (i := 297) rfl) rfl, zq_tg (List.mem_of_getElem? (i := 3) rfl) rfl, wX8_nextToken, by decide +kernel⟩, zq_tg (List.mem_of_getElem? (i := 299) rfl) rfl, List.mem_filter.mpr ⟨List.mem_append_left _ (List.mem_of_getElem? (i := 0) rfl), rfl⟩⟩
set_option maxRecDepth 100000 in
theorem k8_107 : zq_cv 8 107 mX8_isLetter 1 ∧ Cond.static mX8_isLetter.2.1 ∈ zq_g := ⟨⟨zq_tg (List.mem_of_getElem? (i := 301) rfl) rfl, zq_tg (List.mem_of_getElem? (i := 3) rfl) rfl, wX8_isLetter, by decide +kernel⟩, zq_tg (List.mem_of_getElem? (i := 302) rfl) rfl⟩
set_option maxRecDepth 100000 in
theorem k8_110 : zq_cv 8 110 mX8_takeLetters 0 ∧ Cond.instanceMethod mX8_takeLetters.2.1 ∈ zq_g ∧ Cond.selects mX8_takeLetters.2.1.cls mX8_takeLetters.2.1 mX8_takeLetters.2.1 ∈ zq_g := ⟨⟨zq_tg (List.mem_of_getElem? (i := 304) rfl) rfl, zq_tg (List.mem_of_getElem? (i := 3) rfl) rfl, wX8_takeLetters, by decide +kernel⟩, zq_tg (List.mem_of_getElem? (i := 306) rfl) rfl, List.mem_filter.mpr ⟨List.mem_append_left _ (List.mem_of_getElem? (i := 1) rfl), rfl⟩⟩
set_option maxRecDepth 100000 in
theorem k8_113 : zq_cv 8 113 mX8_isDigit 1 ∧ Cond.static mX8_isDigit.2.1 ∈ zq_g := ⟨⟨zq_tg (List.mem_of_getElem? (i := 308) rfl) rfl, zq_tg (List.mem_of_getElem? (i := 3) rfl) rfl, wX8_isDigit, by decide +kernel⟩, zq_tg (List.mem_of_getElem? (i := 309) rfl) rfl⟩
set_option maxRecDepth 100000 in
theorem k8_116 : zq_cv 8 116 mX8_takeDigits 0 ∧ Cond.instanceMethod mX8_takeDigits.2.1 ∈ zq_g ∧ Cond.selects mX8_takeDigits.2.1.cls mX8_takeDigits.2.1 mX8_takeDigits.2.1 ∈ zq_g := ⟨⟨zq_tg (List.mem_of_getElem? (i := 311) rfl) rfl, zq_tg (List.mem_of_getElem? (i := 3) rfl) rfl, wX8_takeDigits, by decide +kernel⟩, zq_tg (List.mem_of_getElem? (i := 313) rfl) rfl, List.mem_filter.mpr ⟨List.mem_append_left _ (List.mem_of_getElem? (i := 2) rfl), rfl⟩⟩
set_option maxRecDepth 100000 in
theorem k8_47 : zq_cv 8 47 mX8_readItem 0 ∧ Cond.instanceMethod mX8_readItem.2.1 ∈ zq_g ∧ Cond.selects mX8_readItem.2.1.cls mX8_readItem.2.1 mX8_readItem.2.1 ∈ zq_g := ⟨⟨zq_tg (List.mem_of_getElem? (i := 315) rfl) rfl, zq_tg (List.mem_of_getElem? (i := 3) rfl) rfl, wX8_readItem, by decide +kernel⟩, zq_tg (List.mem_of_getElem? (i := 317) rfl) rfl, List.mem_filter.mpr ⟨List.mem_append_left _ (List.mem_of_getElem? (i := 3) rfl), rfl⟩⟩
set_option maxRecDepth 100000 in
theorem k8_57 : zq_cv 8 57 mX8_readPerson 0 ∧ Cond.instanceMethod mX8_readPerson.2.1 ∈ zq_g ∧ Cond.selects mX8_readPerson.2.1.cls mX8_readPerson.2.1 mX8_readPerson.2.1 ∈ zq_g := ⟨⟨zq_tg (List.mem_of_getElem? (i := 319) rfl) rfl, zq_tg (List.mem_of_getElem? (i := 3) rfl) rfl, wX8_readPerson, by decide +kernel⟩, zq_tg (List.mem_of_getElem? (i := 321) rfl) rfl, List.mem_filter.mpr ⟨List.mem_append_left _ (List.mem_of_getElem? (i := 4) rfl), rfl⟩⟩
set_option maxRecDepth 100000 in
theorem k8_72 : zq_cv 8 72 mX8_readNumber 2 ∧ Cond.instanceMethod mX8_readNumber.2.1 ∈ zq_g ∧ Cond.selects mX8_readNumber.2.1.cls mX8_readNumber.2.1 mX8_readNumber.2.1 ∈ zq_g := ⟨⟨zq_tg (List.mem_of_getElem? (i := 323) rfl) rfl, zq_tg (List.mem_of_getElem? (i := 3) rfl) rfl, wX8_readNumber, by decide +kernel⟩, zq_tg (List.mem_of_getElem? (i := 325) rfl) rfl, List.mem_filter.mpr ⟨List.mem_append_left _ (List.mem_of_getElem? (i := 5) rfl), rfl⟩⟩
set_option maxRecDepth 100000 in
theorem k8_82 : zq_cv 8 82 mX8_readStop 0 ∧ Cond.instanceMethod mX8_readStop.2.1 ∈ zq_g ∧ Cond.selects mX8_readStop.2.1.cls mX8_readStop.2.1 mX8_readStop.2.1 ∈ zq_g := ⟨⟨zq_tg (List.mem_of_getElem? (i := 327) rfl) rfl, zq_tg (List.mem_of_getElem? (i := 3) rfl) rfl, wX8_readStop, by decide +kernel⟩, zq_tg (List.mem_of_getElem? (i := 329) rfl) rfl, List.mem_filter.mpr ⟨List.mem_append_left _ (List.mem_of_getElem? (i := 6) rfl), rfl⟩⟩
set_option maxRecDepth 100000 in
theorem k8_60 : zq_cv 8 60 mX8_readLate 0 ∧ Cond.instanceMethod mX8_readLate.2.1 ∈ zq_g ∧ Cond.selects mX8_readLate.2.1.cls mX8_readLate.2.1 mX8_readLate.2.1 ∈ zq_g := ⟨⟨zq_tg (List.mem_of_getElem? (i := 331) rfl) rfl, zq_tg (List.mem_of_getElem? (i := 3) rfl) rfl, wX8_readLate, by decide +kernel⟩, zq_tg (List.mem_of_getElem? (i := 333) rfl) rfl, List.mem_filter.mpr ⟨List.mem_append_left _ (List.mem_of_getElem? (i := 7) rfl), rfl⟩⟩
set_option maxRecDepth 100000 in
theorem k8_63 : zq_cv 8 63 mX8_readCloud 0 ∧ Cond.instanceMethod mX8_readCloud.2.1 ∈ zq_g ∧ Cond.selects mX8_readCloud.2.1.cls mX8_readCloud.2.1 mX8_readCloud.2.1 ∈ zq_g := ⟨⟨zq_tg (List.mem_of_getElem? (i := 335) rfl) rfl, zq_tg (List.mem_of_getElem? (i := 3) rfl) rfl, wX8_readCloud, by decide +kernel⟩, zq_tg (List.mem_of_getElem? (i := 337) rfl) rfl, List.mem_filter.mpr ⟨List.mem_append_left _ (List.mem_of_getElem? (i := 8) rfl), rfl⟩⟩
set_option maxRecDepth 100000 in
theorem k8_91 : zq_cv 8 91 mX9_hasCloud 1 ∧ Cond.instanceMethod mX9_hasCloud.2.1 ∈ zq_g ∧ Cond.selects mX9_hasCloud.2.1.cls mX9_hasCloud.2.1 mX9_hasCloud.2.1 ∈ zq_g := ⟨⟨zq_tg (List.mem_of_getElem? (i := 339) rfl) rfl, zq_tg (List.mem_of_getElem? (i := 2) rfl) rfl, wX9_hasCloud, by decide +kernel⟩, zq_tg (List.mem_of_getElem? (i := 340) rfl) rfl, zq_tg (List.mem_of_getElem? (i := 341) rfl) rfl⟩
set_option maxRecDepth 100000 in
theorem k8_66 : zq_cv 8 66 mX8_readRule 0 ∧ Cond.instanceMethod mX8_readRule.2.1 ∈ zq_g ∧ Cond.selects mX8_readRule.2.1.cls mX8_readRule.2.1 mX8_readRule.2.1 ∈ zq_g := ⟨⟨zq_tg (List.mem_of_getElem? (i := 343) rfl) rfl, zq_tg (List.mem_of_getElem? (i := 3) rfl) rfl, wX8_readRule, by decide +kernel⟩, zq_tg (List.mem_of_getElem? (i := 345) rfl) rfl, List.mem_filter.mpr ⟨List.mem_append_left _ (List.mem_of_getElem? (i := 9) rfl), rfl⟩⟩
set_option maxRecDepth 100000 in
theorem k11_99 : zq_cv 11 99 mX9_become 1 ∧ Cond.instanceMethod mX9_become.2.1 ∈ zq_g ∧ Cond.selects mX9_become.2.1.cls mX9_become.2.1 mX9_become.2.1 ∈ zq_g := ⟨⟨zq_tg (List.mem_of_getElem? (i := 347) rfl) rfl, zq_tg (List.mem_of_getElem? (i := 2) rfl) rfl, wX9_become, by decide +kernel⟩, zq_tg (List.mem_of_getElem? (i := 348) rfl) rfl, zq_tg (List.mem_of_getElem? (i := 349) rfl) rfl⟩
set_option maxRecDepth 100000 in
theorem k11_102 : zq_cv 11 102 mX5_begin 0 ∧ Cond.instanceMethod mX5_begin.2.1 ∈ zq_g ∧ Cond.selects mX5_begin.2.1.cls mX5_begin.2.1 mX5_begin.2.1 ∈ zq_g := ⟨⟨zq_tg (List.mem_of_getElem? (i := 354) rfl) rfl, zq_tg (List.mem_of_getElem? (i := 4) rfl) rfl, wX5_begin, by decide +kernel⟩, zq_tg (List.mem_of_getElem? (i := 355) rfl) rfl, zq_tg (List.mem_of_getElem? (i := 356) rfl) rfl⟩
set_option maxRecDepth 100000 in
theorem k11_105 : zq_cv 11 105 mX9_hasPerson 1 ∧ Cond.instanceMethod mX9_hasPerson.2.1 ∈ zq_g ∧ Cond.selects mX9_hasPerson.2.1.cls mX9_hasPerson.2.1 mX9_hasPerson.2.1 ∈ zq_g := ⟨⟨zq_tg (List.mem_of_getElem? (i := 363) rfl) rfl, zq_tg (List.mem_of_getElem? (i := 2) rfl) rfl, wX9_hasPerson, by decide +kernel⟩, zq_tg (List.mem_of_getElem? (i := 364) rfl) rfl, zq_tg (List.mem_of_getElem? (i := 365) rfl) rfl⟩
set_option maxRecDepth 100000 in
theorem k11_115 : zq_cv 11 115 mX5_seen 0 ∧ Cond.instanceMethod mX5_seen.2.1 ∈ zq_g ∧ Cond.selects mX5_seen.2.1.cls mX5_seen.2.1 mX5_seen.2.1 ∈ zq_g := ⟨⟨zq_tg (List.mem_of_getElem? (i := 367) rfl) rfl, zq_tg (List.mem_of_getElem? (i := 4) rfl) rfl, wX5_seen, by decide +kernel⟩, zq_tg (List.mem_of_getElem? (i := 368) rfl) rfl, zq_tg (List.mem_of_getElem? (i := 369) rfl) rfl⟩
set_option maxRecDepth 100000 in
theorem k5_70 : zq_cv 5 70 mX9_hasCloud 1 ∧ Cond.instanceMethod mX9_hasCloud.2.1 ∈ zq_g ∧ Cond.selects mX9_hasCloud.2.1.cls mX9_hasCloud.2.1 mX9_hasCloud.2.1 ∈ zq_g := ⟨⟨zq_tg (List.mem_of_getElem? (i := 371) rfl) rfl, zq_tg (List.mem_of_getElem? (i := 2) rfl) rfl, wX9_hasCloud, by decide +kernel⟩, zq_tg (List.mem_of_getElem? (i := 340) rfl) rfl, zq_tg (List.mem_of_getElem? (i := 341) rfl) rfl⟩
set_option maxRecDepth 100000 in
theorem k5_74 : zq_cv 5 74 mX5_shown 0 ∧ Cond.instanceMethod mX5_shown.2.1 ∈ zq_g ∧ Cond.selects mX5_shown.2.1.cls mX5_shown.2.1 mX5_shown.2.1 ∈ zq_g := ⟨⟨zq_tg (List.mem_of_getElem? (i := 372) rfl) rfl, zq_tg (List.mem_of_getElem? (i := 4) rfl) rfl, wX5_shown, by decide +kernel⟩, zq_tg (List.mem_of_getElem? (i := 373) rfl) rfl, zq_tg (List.mem_of_getElem? (i := 374) rfl) rfl⟩
set_option maxRecDepth 100000 in
theorem k5_77 : zq_cv 5 77 mX5_shownIf 2 ∧ Cond.instanceMethod mX5_shownIf.2.1 ∈ zq_g ∧ Cond.selects mX5_shownIf.2.1.cls mX5_shownIf.2.1 mX5_shownIf.2.1 ∈ zq_g := ⟨⟨zq_tg (List.mem_of_getElem? (i := 376) rfl) rfl, zq_tg (List.mem_of_getElem? (i := 4) rfl) rfl, wX5_shownIf, by decide +kernel⟩, zq_tg (List.mem_of_getElem? (i := 377) rfl) rfl, zq_tg (List.mem_of_getElem? (i := 378) rfl) rfl⟩
set_option maxRecDepth 100000 in
theorem k5_80 : zq_cv 5 80 mX5_shows 3 ∧ Cond.instanceMethod mX5_shows.2.1 ∈ zq_g ∧ Cond.selects mX5_shows.2.1.cls mX5_shows.2.1 mX5_shows.2.1 ∈ zq_g := ⟨⟨zq_tg (List.mem_of_getElem? (i := 380) rfl) rfl, zq_tg (List.mem_of_getElem? (i := 4) rfl) rfl, wX5_shows, by decide +kernel⟩, zq_tg (List.mem_of_getElem? (i := 381) rfl) rfl, zq_tg (List.mem_of_getElem? (i := 382) rfl) rfl⟩
set_option maxRecDepth 100000 in
theorem k5_84 : zq_cvN 5 84 mX11_isInSquare 1 ∧ Cond.static mX11_isInSquare.2.1 ∈ zq_g := ⟨⟨List.mem_filter.mpr ⟨List.mem_append_right _ (List.mem_of_getElem? (i := 384) rfl), rfl⟩, zq_tg (List.mem_of_getElem? (i := 1) rfl) rfl, wX11_isInSquare, by decide +kernel⟩, zq_tg (List.mem_of_getElem? (i := 385) rfl) rfl⟩
set_option maxRecDepth 100000 in
theorem k5_87 : zq_cv 5 87 mX5_isInSmoke 1 ∧ Cond.instanceMethod mX5_isInSmoke.2.1 ∈ zq_g ∧ Cond.selects mX5_isInSmoke.2.1.cls mX5_isInSmoke.2.1 mX5_isInSmoke.2.1 ∈ zq_g := ⟨⟨zq_tg (List.mem_of_getElem? (i := 387) rfl) rfl, zq_tg (List.mem_of_getElem? (i := 4) rfl) rfl, wX5_isInSmoke, by decide +kernel⟩, zq_tg (List.mem_of_getElem? (i := 389) rfl) rfl, List.mem_filter.mpr ⟨List.mem_append_left _ (List.mem_of_getElem? (i := 10) rfl), rfl⟩⟩
set_option maxRecDepth 100000 in
theorem k5_60 : zq_cvN 5 60 mX11_bit 2 ∧ Cond.static mX11_bit.2.1 ∈ zq_g := ⟨⟨List.mem_filter.mpr ⟨List.mem_append_right _ (List.mem_of_getElem? (i := 391) rfl), rfl⟩, zq_tg (List.mem_of_getElem? (i := 1) rfl) rfl, wX11_bit, by decide +kernel⟩, zq_tg (List.mem_of_getElem? (i := 392) rfl) rfl⟩
set_option maxRecDepth 100000 in
theorem k5_93 : zq_cv 5 93 mX5_isAhead 2 ∧ Cond.static mX5_isAhead.2.1 ∈ zq_g := ⟨⟨zq_tg (List.mem_of_getElem? (i := 394) rfl) rfl, zq_tg (List.mem_of_getElem? (i := 4) rfl) rfl, wX5_isAhead, by decide +kernel⟩, zq_tg (List.mem_of_getElem? (i := 395) rfl) rfl⟩
set_option maxRecDepth 100000 in
theorem k11_119 : zq_cv 11 119 mX11_bit 2 ∧ Cond.static mX11_bit.2.1 ∈ zq_g := ⟨⟨zq_tg (List.mem_of_getElem? (i := 397) rfl) rfl, zq_tg (List.mem_of_getElem? (i := 1) rfl) rfl, wX11_bit, by decide +kernel⟩, zq_tg (List.mem_of_getElem? (i := 392) rfl) rfl⟩
set_option maxRecDepth 100000 in
theorem k11_123 : zq_cv 11 123 mX5_peopleIn 1 ∧ Cond.instanceMethod mX5_peopleIn.2.1 ∈ zq_g ∧ Cond.selects mX5_peopleIn.2.1.cls mX5_peopleIn.2.1 mX5_peopleIn.2.1 ∈ zq_g := ⟨⟨zq_tg (List.mem_of_getElem? (i := 402) rfl) rfl, zq_tg (List.mem_of_getElem? (i := 4) rfl) rfl, wX5_peopleIn, by decide +kernel⟩, zq_tg (List.mem_of_getElem? (i := 403) rfl) rfl, zq_tg (List.mem_of_getElem? (i := 404) rfl) rfl⟩
set_option maxRecDepth 100000 in
theorem k11_132 : zq_cv 11 132 mX9_hasCloud 1 ∧ Cond.instanceMethod mX9_hasCloud.2.1 ∈ zq_g ∧ Cond.selects mX9_hasCloud.2.1.cls mX9_hasCloud.2.1 mX9_hasCloud.2.1 ∈ zq_g := ⟨⟨zq_tg (List.mem_of_getElem? (i := 410) rfl) rfl, zq_tg (List.mem_of_getElem? (i := 2) rfl) rfl, wX9_hasCloud, by decide +kernel⟩, zq_tg (List.mem_of_getElem? (i := 340) rfl) rfl, zq_tg (List.mem_of_getElem? (i := 341) rfl) rfl⟩
set_option maxRecDepth 100000 in
theorem k11_138 : zq_cv 11 138 mX5_move 2 ∧ Cond.instanceMethod mX5_move.2.1 ∈ zq_g ∧ Cond.selects mX5_move.2.1.cls mX5_move.2.1 mX5_move.2.1 ∈ zq_g := ⟨⟨zq_tg (List.mem_of_getElem? (i := 415) rfl) rfl, zq_tg (List.mem_of_getElem? (i := 4) rfl) rfl, wX5_move, by decide +kernel⟩, zq_tg (List.mem_of_getElem? (i := 416) rfl) rfl, zq_tg (List.mem_of_getElem? (i := 417) rfl) rfl⟩
set_option maxRecDepth 100000 in
theorem k5_52 : zq_cv 5 52 mX5_remember 3 ∧ Cond.instanceMethod mX5_remember.2.1 ∈ zq_g ∧ Cond.selects mX5_remember.2.1.cls mX5_remember.2.1 mX5_remember.2.1 ∈ zq_g := ⟨⟨zq_tg (List.mem_of_getElem? (i := 419) rfl) rfl, zq_tg (List.mem_of_getElem? (i := 4) rfl) rfl, wX5_remember, by decide +kernel⟩, zq_tg (List.mem_of_getElem? (i := 421) rfl) rfl, List.mem_filter.mpr ⟨List.mem_append_left _ (List.mem_of_getElem? (i := 11) rfl), rfl⟩⟩
set_option maxRecDepth 100000 in
theorem k11_141 : zq_cv 11 141 mX5_turnSmoke 1 ∧ Cond.instanceMethod mX5_turnSmoke.2.1 ∈ zq_g ∧ Cond.selects mX5_turnSmoke.2.1.cls mX5_turnSmoke.2.1 mX5_turnSmoke.2.1 ∈ zq_g := ⟨⟨zq_tg (List.mem_of_getElem? (i := 431) rfl) rfl, zq_tg (List.mem_of_getElem? (i := 4) rfl) rfl, wX5_turnSmoke, by decide +kernel⟩, zq_tg (List.mem_of_getElem? (i := 432) rfl) rfl, zq_tg (List.mem_of_getElem? (i := 433) rfl) rfl⟩
set_option maxRecDepth 100000 in
theorem k11_145 : zq_cv 11 145 mJ6_bitCount_0f7a4 1 ∧ Cond.static mJ6_bitCount_0f7a4.2.1 ∈ zq_g := ⟨⟨zq_tg (List.mem_of_getElem? (i := 435) rfl) rfl, zq_tg (List.mem_of_getElem? (i := 16) rfl) rfl, wJ6_bitCount_0f7a4, by decide +kernel⟩, zq_tg (List.mem_of_getElem? (i := 436) rfl) rfl⟩
set_option maxRecDepth 100000 in
theorem k11_150 : zq_cv 11 150 mX11_isInSquare 1 ∧ Cond.static mX11_isInSquare.2.1 ∈ zq_g := ⟨⟨zq_tg (List.mem_of_getElem? (i := 445) rfl) rfl, zq_tg (List.mem_of_getElem? (i := 1) rfl) rfl, wX11_isInSquare, by decide +kernel⟩, zq_tg (List.mem_of_getElem? (i := 385) rfl) rfl⟩
set_option maxRecDepth 100000 in
theorem k11_156 : zq_cv 11 156 mX5_act 2 ∧ Cond.instanceMethod mX5_act.2.1 ∈ zq_g ∧ Cond.selects mX5_act.2.1.cls mX5_act.2.1 mX5_act.2.1 ∈ zq_g := ⟨⟨zq_tg (List.mem_of_getElem? (i := 446) rfl) rfl, zq_tg (List.mem_of_getElem? (i := 4) rfl) rfl, wX5_act, by decide +kernel⟩, zq_tg (List.mem_of_getElem? (i := 447) rfl) rfl, zq_tg (List.mem_of_getElem? (i := 448) rfl) rfl⟩
set_option maxRecDepth 100000 in
theorem k5_56 : zq_cv 5 56 mX5_seen 0 ∧ Cond.instanceMethod mX5_seen.2.1 ∈ zq_g ∧ Cond.selects mX5_seen.2.1.cls mX5_seen.2.1 mX5_seen.2.1 ∈ zq_g := ⟨⟨zq_tg (List.mem_of_getElem? (i := 450) rfl) rfl, zq_tg (List.mem_of_getElem? (i := 4) rfl) rfl, wX5_seen, by decide +kernel⟩, zq_tg (List.mem_of_getElem? (i := 368) rfl) rfl, zq_tg (List.mem_of_getElem? (i := 369) rfl) rfl⟩
set_option maxRecDepth 100000 in
theorem k11_159 : zq_cv 11 159 mX5_passDay 0 ∧ Cond.instanceMethod mX5_passDay.2.1 ∈ zq_g ∧ Cond.selects mX5_passDay.2.1.cls mX5_passDay.2.1 mX5_passDay.2.1 ∈ zq_g := ⟨⟨zq_tg (List.mem_of_getElem? (i := 455) rfl) rfl, zq_tg (List.mem_of_getElem? (i := 4) rfl) rfl, wX5_passDay, by decide +kernel⟩, zq_tg (List.mem_of_getElem? (i := 456) rfl) rfl, zq_tg (List.mem_of_getElem? (i := 457) rfl) rfl⟩
set_option maxRecDepth 100000 in
theorem k11_165 : zq_cv 11 165 mX5_takeBack 0 ∧ Cond.instanceMethod mX5_takeBack.2.1 ∈ zq_g ∧ Cond.selects mX5_takeBack.2.1.cls mX5_takeBack.2.1 mX5_takeBack.2.1 ∈ zq_g := ⟨⟨zq_tg (List.mem_of_getElem? (i := 463) rfl) rfl, zq_tg (List.mem_of_getElem? (i := 4) rfl) rfl, wX5_takeBack, by decide +kernel⟩, zq_tg (List.mem_of_getElem? (i := 464) rfl) rfl, zq_tg (List.mem_of_getElem? (i := 465) rfl) rfl⟩
set_option maxRecDepth 100000 in
theorem k11_168 : zq_cv 11 168 mX5_hasDeed 1 ∧ Cond.instanceMethod mX5_hasDeed.2.1 ∈ zq_g ∧ Cond.selects mX5_hasDeed.2.1.cls mX5_hasDeed.2.1 mX5_hasDeed.2.1 ∈ zq_g := ⟨⟨zq_tg (List.mem_of_getElem? (i := 471) rfl) rfl, zq_tg (List.mem_of_getElem? (i := 4) rfl) rfl, wX5_hasDeed, by decide +kernel⟩, zq_tg (List.mem_of_getElem? (i := 472) rfl) rfl, zq_tg (List.mem_of_getElem? (i := 473) rfl) rfl⟩
set_option maxRecDepth 100000 in
theorem k11_171 : zq_cv 11 171 mX5_ofDeed 2 ∧ Cond.instanceMethod mX5_ofDeed.2.1 ∈ zq_g ∧ Cond.selects mX5_ofDeed.2.1.cls mX5_ofDeed.2.1 mX5_ofDeed.2.1 ∈ zq_g := ⟨⟨zq_tg (List.mem_of_getElem? (i := 475) rfl) rfl, zq_tg (List.mem_of_getElem? (i := 4) rfl) rfl, wX5_ofDeed, by decide +kernel⟩, zq_tg (List.mem_of_getElem? (i := 476) rfl) rfl, zq_tg (List.mem_of_getElem? (i := 477) rfl) rfl⟩
set_option maxRecDepth 100000 in
theorem k11_174 : zq_cv 11 174 mX1_whoHolds 3 ∧ Cond.instanceMethod mX1_whoHolds.2.1 ∈ zq_g ∧ Cond.selects mX1_whoHolds.2.1.cls mX1_whoHolds.2.1 mX1_whoHolds.2.1 ∈ zq_g := ⟨⟨zq_tg (List.mem_of_getElem? (i := 487) rfl) rfl, zq_tg (List.mem_of_getElem? (i := 5) rfl) rfl, wX1_whoHolds, by decide +kernel⟩, zq_tg (List.mem_of_getElem? (i := 488) rfl) rfl, zq_tg (List.mem_of_getElem? (i := 489) rfl) rfl⟩
set_option maxRecDepth 100000 in
theorem k1_19 : zq_cv 1 19 mX1_leastActsDoer 3 ∧ Cond.instanceMethod mX1_leastActsDoer.2.1 ∈ zq_g ∧ Cond.selects mX1_leastActsDoer.2.1.cls mX1_leastActsDoer.2.1 mX1_leastActsDoer.2.1 ∈ zq_g := ⟨⟨zq_tg (List.mem_of_getElem? (i := 491) rfl) rfl, zq_tg (List.mem_of_getElem? (i := 5) rfl) rfl, wX1_leastActsDoer, by decide +kernel⟩, zq_tg (List.mem_of_getElem? (i := 493) rfl) rfl, List.mem_filter.mpr ⟨List.mem_append_left _ (List.mem_of_getElem? (i := 12) rfl), rfl⟩⟩
set_option maxRecDepth 100000 in
theorem k1_29 : zq_cvN 1 29 mX11_bit 2 ∧ Cond.static mX11_bit.2.1 ∈ zq_g := ⟨⟨List.mem_filter.mpr ⟨List.mem_append_right _ (List.mem_of_getElem? (i := 495) rfl), rfl⟩, zq_tg (List.mem_of_getElem? (i := 1) rfl) rfl, wX11_bit, by decide +kernel⟩, zq_tg (List.mem_of_getElem? (i := 392) rfl) rfl⟩
set_option maxRecDepth 100000 in
theorem k1_33 : zq_cv 1 33 mX1_lastDoer 3 ∧ Cond.instanceMethod mX1_lastDoer.2.1 ∈ zq_g ∧ Cond.selects mX1_lastDoer.2.1.cls mX1_lastDoer.2.1 mX1_lastDoer.2.1 ∈ zq_g := ⟨⟨zq_tg (List.mem_of_getElem? (i := 496) rfl) rfl, zq_tg (List.mem_of_getElem? (i := 5) rfl) rfl, wX1_lastDoer, by decide +kernel⟩, zq_tg (List.mem_of_getElem? (i := 498) rfl) rfl, List.mem_filter.mpr ⟨List.mem_append_left _ (List.mem_of_getElem? (i := 13) rfl), rfl⟩⟩
set_option maxRecDepth 100000 in
theorem k1_42 : zq_cv 1 42 mX5_ofDeed 2 ∧ Cond.instanceMethod mX5_ofDeed.2.1 ∈ zq_g ∧ Cond.selects mX5_ofDeed.2.1.cls mX5_ofDeed.2.1 mX5_ofDeed.2.1 ∈ zq_g := ⟨⟨zq_tg (List.mem_of_getElem? (i := 500) rfl) rfl, zq_tg (List.mem_of_getElem? (i := 4) rfl) rfl, wX5_ofDeed, by decide +kernel⟩, zq_tg (List.mem_of_getElem? (i := 476) rfl) rfl, zq_tg (List.mem_of_getElem? (i := 477) rfl) rfl⟩
set_option maxRecDepth 100000 in
theorem k1_23 : zq_cv 1 23 mX9_actsGiving 1 ∧ Cond.instanceMethod mX9_actsGiving.2.1 ∈ zq_g ∧ Cond.selects mX9_actsGiving.2.1.cls mX9_actsGiving.2.1 mX9_actsGiving.2.1 ∈ zq_g := ⟨⟨zq_tg (List.mem_of_getElem? (i := 501) rfl) rfl, zq_tg (List.mem_of_getElem? (i := 2) rfl) rfl, wX9_actsGiving, by decide +kernel⟩, zq_tg (List.mem_of_getElem? (i := 502) rfl) rfl, zq_tg (List.mem_of_getElem? (i := 503) rfl) rfl⟩
set_option maxRecDepth 100000 in
theorem k9_46 : zq_cv 9 46 mX9_actsAcross 3 ∧ Cond.instanceMethod mX9_actsAcross.2.1 ∈ zq_g ∧ Cond.selects mX9_actsAcross.2.1.cls mX9_actsAcross.2.1 mX9_actsAcross.2.1 ∈ zq_g := ⟨⟨zq_tg (List.mem_of_getElem? (i := 505) rfl) rfl, zq_tg (List.mem_of_getElem? (i := 2) rfl) rfl, wX9_actsAcross, by decide +kernel⟩, zq_tg (List.mem_of_getElem? (i := 507) rfl) rfl, List.mem_filter.mpr ⟨List.mem_append_left _ (List.mem_of_getElem? (i := 14) rfl), rfl⟩⟩
set_option maxRecDepth 100000 in
theorem k9_50 : zq_cvN 9 50 mX11_bit 2 ∧ Cond.static mX11_bit.2.1 ∈ zq_g := ⟨⟨List.mem_filter.mpr ⟨List.mem_append_right _ (List.mem_of_getElem? (i := 509) rfl), rfl⟩, zq_tg (List.mem_of_getElem? (i := 1) rfl) rfl, wX11_bit, by decide +kernel⟩, zq_tg (List.mem_of_getElem? (i := 392) rfl) rfl⟩
set_option maxRecDepth 100000 in
theorem k11_178 : zq_cv 11 178 mX1_comesBack 1 ∧ Cond.instanceMethod mX1_comesBack.2.1 ∈ zq_g ∧ Cond.selects mX1_comesBack.2.1.cls mX1_comesBack.2.1 mX1_comesBack.2.1 ∈ zq_g := ⟨⟨zq_tg (List.mem_of_getElem? (i := 514) rfl) rfl, zq_tg (List.mem_of_getElem? (i := 5) rfl) rfl, wX1_comesBack, by decide +kernel⟩, zq_tg (List.mem_of_getElem? (i := 515) rfl) rfl, zq_tg (List.mem_of_getElem? (i := 516) rfl) rfl⟩
set_option maxRecDepth 100000 in
theorem k1_45 : zq_cv 1 45 mX9_actsGivenBy 1 ∧ Cond.instanceMethod mX9_actsGivenBy.2.1 ∈ zq_g ∧ Cond.selects mX9_actsGivenBy.2.1.cls mX9_actsGivenBy.2.1 mX9_actsGivenBy.2.1 ∈ zq_g := ⟨⟨zq_tg (List.mem_of_getElem? (i := 518) rfl) rfl, zq_tg (List.mem_of_getElem? (i := 2) rfl) rfl, wX9_actsGivenBy, by decide +kernel⟩, zq_tg (List.mem_of_getElem? (i := 519) rfl) rfl, zq_tg (List.mem_of_getElem? (i := 520) rfl) rfl⟩
set_option maxRecDepth 100000 in
theorem k11_181 : zq_cv 11 181 mX5_keptOn 1 ∧ Cond.instanceMethod mX5_keptOn.2.1 ∈ zq_g ∧ Cond.selects mX5_keptOn.2.1.cls mX5_keptOn.2.1 mX5_keptOn.2.1 ∈ zq_g := ⟨⟨zq_tg (List.mem_of_getElem? (i := 526) rfl) rfl, zq_tg (List.mem_of_getElem? (i := 4) rfl) rfl, wX5_keptOn, by decide +kernel⟩, zq_tg (List.mem_of_getElem? (i := 527) rfl) rfl, zq_tg (List.mem_of_getElem? (i := 528) rfl) rfl⟩
set_option maxRecDepth 100000 in
theorem k11_184 : zq_cv 11 184 mX9_areBits 1 ∧ Cond.instanceMethod mX9_areBits.2.1 ∈ zq_g ∧ Cond.selects mX9_areBits.2.1.cls mX9_areBits.2.1 mX9_areBits.2.1 ∈ zq_g := ⟨⟨zq_tg (List.mem_of_getElem? (i := 538) rfl) rfl, zq_tg (List.mem_of_getElem? (i := 2) rfl) rfl, wX9_areBits, by decide +kernel⟩, zq_tg (List.mem_of_getElem? (i := 539) rfl) rfl, zq_tg (List.mem_of_getElem? (i := 540) rfl) rfl⟩
set_option maxRecDepth 100000 in
theorem k11_187 : zq_cv 11 187 mX5_leastSmoke 2 ∧ Cond.instanceMethod mX5_leastSmoke.2.1 ∈ zq_g ∧ Cond.selects mX5_leastSmoke.2.1.cls mX5_leastSmoke.2.1 mX5_leastSmoke.2.1 ∈ zq_g := ⟨⟨zq_tg (List.mem_of_getElem? (i := 542) rfl) rfl, zq_tg (List.mem_of_getElem? (i := 4) rfl) rfl, wX5_leastSmoke, by decide +kernel⟩, zq_tg (List.mem_of_getElem? (i := 543) rfl) rfl, zq_tg (List.mem_of_getElem? (i := 544) rfl) rfl⟩
set_option maxRecDepth 100000 in
theorem k5_97 : zq_cv 5 97 mX5_nearestRow 2 ∧ Cond.instanceMethod mX5_nearestRow.2.1 ∈ zq_g ∧ Cond.selects mX5_nearestRow.2.1.cls mX5_nearestRow.2.1 mX5_nearestRow.2.1 ∈ zq_g := ⟨⟨zq_tg (List.mem_of_getElem? (i := 546) rfl) rfl, zq_tg (List.mem_of_getElem? (i := 4) rfl) rfl, wX5_nearestRow, by decide +kernel⟩, zq_tg (List.mem_of_getElem? (i := 548) rfl) rfl, List.mem_filter.mpr ⟨List.mem_append_left _ (List.mem_of_getElem? (i := 15) rfl), rfl⟩⟩
set_option maxRecDepth 100000 in
theorem k5_103 : zq_cv 5 103 mJ9_min_7cf53 2 ∧ Cond.static mJ9_min_7cf53.2.1 ∈ zq_g := ⟨⟨zq_tg (List.mem_of_getElem? (i := 550) rfl) rfl, zq_tg (List.mem_of_getElem? (i := 14) rfl) rfl, wJ9_min_7cf53, by decide +kernel⟩, zq_tg (List.mem_of_getElem? (i := 291) rfl) rfl⟩
set_option maxRecDepth 100000 in
theorem k5_100 : zq_cv 5 100 mX5_farthestRow 2 ∧ Cond.instanceMethod mX5_farthestRow.2.1 ∈ zq_g ∧ Cond.selects mX5_farthestRow.2.1.cls mX5_farthestRow.2.1 mX5_farthestRow.2.1 ∈ zq_g := ⟨⟨zq_tg (List.mem_of_getElem? (i := 551) rfl) rfl, zq_tg (List.mem_of_getElem? (i := 4) rfl) rfl, wX5_farthestRow, by decide +kernel⟩, zq_tg (List.mem_of_getElem? (i := 553) rfl) rfl, List.mem_filter.mpr ⟨List.mem_append_left _ (List.mem_of_getElem? (i := 16) rfl), rfl⟩⟩
set_option maxRecDepth 100000 in
theorem k5_108 : zq_cv 5 108 mJ9_max_7cf53 2 ∧ Cond.static mJ9_max_7cf53.2.1 ∈ zq_g := ⟨⟨zq_tg (List.mem_of_getElem? (i := 555) rfl) rfl, zq_tg (List.mem_of_getElem? (i := 14) rfl) rfl, wJ9_max_7cf53, by decide +kernel⟩, zq_tg (List.mem_of_getElem? (i := 556) rfl) rfl⟩
set_option maxRecDepth 100000 in
theorem k11_190 : zq_cv 11 190 mX5_shows 3 ∧ Cond.instanceMethod mX5_shows.2.1 ∈ zq_g ∧ Cond.selects mX5_shows.2.1.cls mX5_shows.2.1 mX5_shows.2.1 ∈ zq_g := ⟨⟨zq_tg (List.mem_of_getElem? (i := 562) rfl) rfl, zq_tg (List.mem_of_getElem? (i := 4) rfl) rfl, wX5_shows, by decide +kernel⟩, zq_tg (List.mem_of_getElem? (i := 381) rfl) rfl, zq_tg (List.mem_of_getElem? (i := 382) rfl) rfl⟩
set_option maxRecDepth 100000 in
theorem k11_194 : zq_cv 11 194 mX5_shownIf 2 ∧ Cond.instanceMethod mX5_shownIf.2.1 ∈ zq_g ∧ Cond.selects mX5_shownIf.2.1.cls mX5_shownIf.2.1 mX5_shownIf.2.1 ∈ zq_g := ⟨⟨zq_tg (List.mem_of_getElem? (i := 567) rfl) rfl, zq_tg (List.mem_of_getElem? (i := 4) rfl) rfl, wX5_shownIf, by decide +kernel⟩, zq_tg (List.mem_of_getElem? (i := 377) rfl) rfl, zq_tg (List.mem_of_getElem? (i := 378) rfl) rfl⟩
set_option maxRecDepth 100000 in
theorem k11_197 : zq_cv 11 197 mX5_shown 0 ∧ Cond.instanceMethod mX5_shown.2.1 ∈ zq_g ∧ Cond.selects mX5_shown.2.1.cls mX5_shown.2.1 mX5_shown.2.1 ∈ zq_g := ⟨⟨zq_tg (List.mem_of_getElem? (i := 568) rfl) rfl, zq_tg (List.mem_of_getElem? (i := 4) rfl) rfl, wX5_shown, by decide +kernel⟩, zq_tg (List.mem_of_getElem? (i := 373) rfl) rfl, zq_tg (List.mem_of_getElem? (i := 374) rfl) rfl⟩
set_option maxRecDepth 100000 in
theorem k11_202 : zq_cv 11 202 mX11_power 2 ∧ Cond.static mX11_power.2.1 ∈ zq_g := ⟨⟨zq_tg (List.mem_of_getElem? (i := 574) rfl) rfl, zq_tg (List.mem_of_getElem? (i := 1) rfl) rfl, wX11_power, by decide +kernel⟩, zq_tg (List.mem_of_getElem? (i := 575) rfl) rfl⟩
set_option maxRecDepth 100000 in
theorem k11_206 : zq_cv 11 206 mX11_commonDivisor 2 ∧ Cond.static mX11_commonDivisor.2.1 ∈ zq_g := ⟨⟨zq_tg (List.mem_of_getElem? (i := 577) rfl) rfl, zq_tg (List.mem_of_getElem? (i := 1) rfl) rfl, wX11_commonDivisor, by decide +kernel⟩, zq_tg (List.mem_of_getElem? (i := 578) rfl) rfl⟩
set_option maxRecDepth 100000 in
theorem k11_210 : zq_cv 11 210 mJ9_max_f86c9 2 ∧ Cond.static mJ9_max_f86c9.2.1 ∈ zq_g := ⟨⟨zq_tg (List.mem_of_getElem? (i := 580) rfl) rfl, zq_tg (List.mem_of_getElem? (i := 14) rfl) rfl, wJ9_max_f86c9, by decide +kernel⟩, zq_tg (List.mem_of_getElem? (i := 581) rfl) rfl⟩
set_option maxRecDepth 100000 in
theorem k11_217 : zq_cv 11 217 mX9_ofHeight 1 ∧ Cond.instanceMethod mX9_ofHeight.2.1 ∈ zq_g ∧ Cond.selects mX9_ofHeight.2.1.cls mX9_ofHeight.2.1 mX9_ofHeight.2.1 ∈ zq_g := ⟨⟨zq_tg (List.mem_of_getElem? (i := 592) rfl) rfl, zq_tg (List.mem_of_getElem? (i := 2) rfl) rfl, wX9_ofHeight, by decide +kernel⟩, zq_tg (List.mem_of_getElem? (i := 593) rfl) rfl, zq_tg (List.mem_of_getElem? (i := 594) rfl) rfl⟩
set_option maxRecDepth 100000 in
theorem k11_220 : zq_cv 11 220 mX5_daysKept 1 ∧ Cond.instanceMethod mX5_daysKept.2.1 ∈ zq_g ∧ Cond.selects mX5_daysKept.2.1.cls mX5_daysKept.2.1 mX5_daysKept.2.1 ∈ zq_g := ⟨⟨zq_tg (List.mem_of_getElem? (i := 600) rfl) rfl, zq_tg (List.mem_of_getElem? (i := 4) rfl) rfl, wX5_daysKept, by decide +kernel⟩, zq_tg (List.mem_of_getElem? (i := 601) rfl) rfl, zq_tg (List.mem_of_getElem? (i := 602) rfl) rfl⟩
set_option maxRecDepth 100000 in
theorem k11_223 : zq_cv 11 223 mX5_firstDayKept 1 ∧ Cond.instanceMethod mX5_firstDayKept.2.1 ∈ zq_g ∧ Cond.selects mX5_firstDayKept.2.1.cls mX5_firstDayKept.2.1 mX5_firstDayKept.2.1 ∈ zq_g := ⟨⟨zq_tg (List.mem_of_getElem? (i := 604) rfl) rfl, zq_tg (List.mem_of_getElem? (i := 4) rfl) rfl, wX5_firstDayKept, by decide +kernel⟩, zq_tg (List.mem_of_getElem? (i := 605) rfl) rfl, zq_tg (List.mem_of_getElem? (i := 606) rfl) rfl⟩
set_option maxRecDepth 100000 in
theorem k11_226 : zq_cv 11 226 mX5_lastDayKept 1 ∧ Cond.instanceMethod mX5_lastDayKept.2.1 ∈ zq_g ∧ Cond.selects mX5_lastDayKept.2.1.cls mX5_lastDayKept.2.1 mX5_lastDayKept.2.1 ∈ zq_g := ⟨⟨zq_tg (List.mem_of_getElem? (i := 608) rfl) rfl, zq_tg (List.mem_of_getElem? (i := 4) rfl) rfl, wX5_lastDayKept, by decide +kernel⟩, zq_tg (List.mem_of_getElem? (i := 609) rfl) rfl, zq_tg (List.mem_of_getElem? (i := 610) rfl) rfl⟩
set_option maxRecDepth 100000 in
theorem k2_15 : zq_cv 2 15 mX3_worth 1 ∧ Cond.sameMethod mX3_worth.2.1.cls mX3_worth.2.1.cls mX3_worth.2.1.name mX3_worth.2.1.desc ∈ zq_g ∧ Cond.superclass (zq_cn 2) mX3_worth.2.1.cls ∈ zq_g ∧ Cond.instanceMethod mX3_worth.2.1 ∈ zq_g ∧ mX3_worth.2.1.name ≠ "<init>" := ⟨⟨zq_tg (List.mem_of_getElem? (i := 629) rfl) rfl, zq_tg (List.mem_of_getElem? (i := 9) rfl) rfl, wX3_worth, by decide +kernel⟩, zq_tg (List.mem_of_getElem? (i := 961) rfl) rfl, zq_tg (List.mem_of_getElem? (i := 229) rfl) rfl, zq_tg (List.mem_of_getElem? (i := 630) rfl) rfl, by decide +kernel⟩
set_option maxRecDepth 100000 in
theorem k3_17 : zq_cv 3 17 mX6_worth 1 ∧ Cond.sameMethod mX6_worth.2.1.cls mX6_worth.2.1.cls mX6_worth.2.1.name mX6_worth.2.1.desc ∈ zq_g ∧ Cond.superclass (zq_cn 3) mX6_worth.2.1.cls ∈ zq_g ∧ Cond.instanceMethod mX6_worth.2.1 ∈ zq_g ∧ mX6_worth.2.1.name ≠ "<init>" := ⟨⟨zq_tg (List.mem_of_getElem? (i := 633) rfl) rfl, zq_tg (List.mem_of_getElem? (i := 7) rfl) rfl, wX6_worth, by decide +kernel⟩, zq_tg (List.mem_of_getElem? (i := 624) rfl) rfl, zq_tg (List.mem_of_getElem? (i := 215) rfl) rfl, zq_tg (List.mem_of_getElem? (i := 622) rfl) rfl, by decide +kernel⟩
set_option maxRecDepth 100000 in
theorem k3_21 : zq_cv 3 21 mX0_get 1 ∧ Cond.instanceMethod mX0_get.2.1 ∈ zq_g ∧ Cond.selects mX0_get.2.1.cls mX0_get.2.1 mX0_get.2.1 ∈ zq_g := ⟨⟨zq_tg (List.mem_of_getElem? (i := 634) rfl) rfl, zq_tg (List.mem_of_getElem? (i := 6) rfl) rfl, wX0_get, by decide +kernel⟩, zq_tg (List.mem_of_getElem? (i := 635) rfl) rfl, zq_tg (List.mem_of_getElem? (i := 636) rfl) rfl⟩
set_option maxRecDepth 100000 in
theorem k0_21 : zq_cv 0 21 mX5_ofDeed 2 ∧ Cond.instanceMethod mX5_ofDeed.2.1 ∈ zq_g ∧ Cond.selects mX5_ofDeed.2.1.cls mX5_ofDeed.2.1 mX5_ofDeed.2.1 ∈ zq_g := ⟨⟨zq_tg (List.mem_of_getElem? (i := 638) rfl) rfl, zq_tg (List.mem_of_getElem? (i := 4) rfl) rfl, wX5_ofDeed, by decide +kernel⟩, zq_tg (List.mem_of_getElem? (i := 476) rfl) rfl, zq_tg (List.mem_of_getElem? (i := 477) rfl) rfl⟩
set_option maxRecDepth 100000 in
theorem k4_15 : zq_cv 4 15 mX7_worth 1 ∧ Cond.sameMethod mX7_worth.2.1.cls mX7_worth.2.1.cls mX7_worth.2.1.name mX7_worth.2.1.desc ∈ zq_g ∧ Cond.superclass (zq_cn 4) mX7_worth.2.1.cls ∈ zq_g ∧ Cond.instanceMethod mX7_worth.2.1 ∈ zq_g ∧ mX7_worth.2.1.name ≠ "<init>" := ⟨⟨zq_tg (List.mem_of_getElem? (i := 644) rfl) rfl, zq_tg (List.mem_of_getElem? (i := 8) rfl) rfl, wX7_worth, by decide +kernel⟩, zq_tg (List.mem_of_getElem? (i := 962) rfl) rfl, zq_tg (List.mem_of_getElem? (i := 222) rfl) rfl, zq_tg (List.mem_of_getElem? (i := 645) rfl) rfl, by decide +kernel⟩
set_option maxRecDepth 100000 in
theorem k7_17 : zq_cv 7 17 mX6_worth 1 ∧ Cond.sameMethod mX6_worth.2.1.cls mX6_worth.2.1.cls mX6_worth.2.1.name mX6_worth.2.1.desc ∈ zq_g ∧ Cond.superclass (zq_cn 7) mX6_worth.2.1.cls ∈ zq_g ∧ Cond.instanceMethod mX6_worth.2.1 ∈ zq_g ∧ mX6_worth.2.1.name ≠ "<init>" := ⟨⟨zq_tg (List.mem_of_getElem? (i := 648) rfl) rfl, zq_tg (List.mem_of_getElem? (i := 7) rfl) rfl, wX6_worth, by decide +kernel⟩, zq_tg (List.mem_of_getElem? (i := 624) rfl) rfl, zq_tg (List.mem_of_getElem? (i := 208) rfl) rfl, zq_tg (List.mem_of_getElem? (i := 622) rfl) rfl, by decide +kernel⟩
set_option maxRecDepth 100000 in
theorem k7_31 : zq_cv 7 31 mX0_get 1 ∧ Cond.instanceMethod mX0_get.2.1 ∈ zq_g ∧ Cond.selects mX0_get.2.1.cls mX0_get.2.1 mX0_get.2.1 ∈ zq_g := ⟨⟨zq_tg (List.mem_of_getElem? (i := 649) rfl) rfl, zq_tg (List.mem_of_getElem? (i := 6) rfl) rfl, wX0_get, by decide +kernel⟩, zq_tg (List.mem_of_getElem? (i := 635) rfl) rfl, zq_tg (List.mem_of_getElem? (i := 636) rfl) rfl⟩
set_option maxRecDepth 100000 in
theorem k10_17 : zq_cv 10 17 mX6_worth 1 ∧ Cond.sameMethod mX6_worth.2.1.cls mX6_worth.2.1.cls mX6_worth.2.1.name mX6_worth.2.1.desc ∈ zq_g ∧ Cond.superclass (zq_cn 10) mX6_worth.2.1.cls ∈ zq_g ∧ Cond.instanceMethod mX6_worth.2.1 ∈ zq_g ∧ mX6_worth.2.1.name ≠ "<init>" := ⟨⟨zq_tg (List.mem_of_getElem? (i := 655) rfl) rfl, zq_tg (List.mem_of_getElem? (i := 7) rfl) rfl, wX6_worth, by decide +kernel⟩, zq_tg (List.mem_of_getElem? (i := 624) rfl) rfl, zq_tg (List.mem_of_getElem? (i := 236) rfl) rfl, zq_tg (List.mem_of_getElem? (i := 622) rfl) rfl, by decide +kernel⟩
set_option maxRecDepth 100000 in
theorem k10_25 : zq_cv 10 25 mX0_get 1 ∧ Cond.instanceMethod mX0_get.2.1 ∈ zq_g ∧ Cond.selects mX0_get.2.1.cls mX0_get.2.1 mX0_get.2.1 ∈ zq_g := ⟨⟨zq_tg (List.mem_of_getElem? (i := 656) rfl) rfl, zq_tg (List.mem_of_getElem? (i := 6) rfl) rfl, wX0_get, by decide +kernel⟩, zq_tg (List.mem_of_getElem? (i := 635) rfl) rfl, zq_tg (List.mem_of_getElem? (i := 636) rfl) rfl⟩
set_option maxRecDepth 100000 in
theorem k10_29 : zq_cv 10 29 mX5_deedsOfAct 1 ∧ Cond.instanceMethod mX5_deedsOfAct.2.1 ∈ zq_g ∧ Cond.selects mX5_deedsOfAct.2.1.cls mX5_deedsOfAct.2.1 mX5_deedsOfAct.2.1 ∈ zq_g := ⟨⟨zq_tg (List.mem_of_getElem? (i := 657) rfl) rfl, zq_tg (List.mem_of_getElem? (i := 4) rfl) rfl, wX5_deedsOfAct, by decide +kernel⟩, zq_tg (List.mem_of_getElem? (i := 658) rfl) rfl, zq_tg (List.mem_of_getElem? (i := 659) rfl) rfl⟩
set_option maxRecDepth 100000 in
theorem k5_64 : zq_cv 5 64 mX5_ofDeed 2 ∧ Cond.instanceMethod mX5_ofDeed.2.1 ∈ zq_g ∧ Cond.selects mX5_ofDeed.2.1.cls mX5_ofDeed.2.1 mX5_ofDeed.2.1 ∈ zq_g := ⟨⟨zq_tg (List.mem_of_getElem? (i := 661) rfl) rfl, zq_tg (List.mem_of_getElem? (i := 4) rfl) rfl, wX5_ofDeed, by decide +kernel⟩, zq_tg (List.mem_of_getElem? (i := 476) rfl) rfl, zq_tg (List.mem_of_getElem? (i := 477) rfl) rfl⟩
set_option maxRecDepth 100000 in
theorem k6_15 : zq_cv 6 15 mX0_get 1 ∧ Cond.instanceMethod mX0_get.2.1 ∈ zq_g ∧ Cond.selects mX0_get.2.1.cls mX0_get.2.1 mX0_get.2.1 ∈ zq_g := ⟨⟨zq_tg (List.mem_of_getElem? (i := 663) rfl) rfl, zq_tg (List.mem_of_getElem? (i := 6) rfl) rfl, wX0_get, by decide +kernel⟩, zq_tg (List.mem_of_getElem? (i := 635) rfl) rfl, zq_tg (List.mem_of_getElem? (i := 636) rfl) rfl⟩
set_option maxRecDepth 100000 in
theorem k11_237 : zq_cv 11 237 mX5_become 1 ∧ Cond.instanceMethod mX5_become.2.1 ∈ zq_g ∧ Cond.selects mX5_become.2.1.cls mX5_become.2.1 mX5_become.2.1 ∈ zq_g := ⟨⟨zq_tg (List.mem_of_getElem? (i := 668) rfl) rfl, zq_tg (List.mem_of_getElem? (i := 4) rfl) rfl, wX5_become, by decide +kernel⟩, zq_tg (List.mem_of_getElem? (i := 669) rfl) rfl, zq_tg (List.mem_of_getElem? (i := 670) rfl) rfl⟩
set_option maxRecDepth 100000 in
theorem k12_32 : zq_cv 12 32 mX12_reads 0 ∧ Cond.instanceMethod mX12_reads.2.1 ∈ zq_g ∧ Cond.selects mX12_reads.2.1.cls mX12_reads.2.1 mX12_reads.2.1 ∈ zq_g := ⟨⟨zq_tg (List.mem_of_getElem? (i := 690) rfl) rfl, zq_tg (List.mem_of_getElem? (i := 13) rfl) rfl, wX12_reads, by decide +kernel⟩, zq_tg (List.mem_of_getElem? (i := 692) rfl) rfl, List.mem_filter.mpr ⟨List.mem_append_left _ (List.mem_of_getElem? (i := 17) rfl), rfl⟩⟩
set_option maxRecDepth 100000 in
theorem k12_70 : zq_cv 12 70 mX12_token 0 ∧ Cond.instanceMethod mX12_token.2.1 ∈ zq_g ∧ Cond.selects mX12_token.2.1.cls mX12_token.2.1 mX12_token.2.1 ∈ zq_g := ⟨⟨zq_tg (List.mem_of_getElem? (i := 694) rfl) rfl, zq_tg (List.mem_of_getElem? (i := 13) rfl) rfl, wX12_token, by decide +kernel⟩, zq_tg (List.mem_of_getElem? (i := 696) rfl) rfl, List.mem_filter.mpr ⟨List.mem_append_left _ (List.mem_of_getElem? (i := 18) rfl), rfl⟩⟩
set_option maxRecDepth 100000 in
theorem k12_50 : zq_cv 12 50 mX12_byteAt 1 ∧ Cond.instanceMethod mX12_byteAt.2.1 ∈ zq_g ∧ Cond.selects mX12_byteAt.2.1.cls mX12_byteAt.2.1 mX12_byteAt.2.1 ∈ zq_g := ⟨⟨zq_tg (List.mem_of_getElem? (i := 698) rfl) rfl, zq_tg (List.mem_of_getElem? (i := 13) rfl) rfl, wX12_byteAt, by decide +kernel⟩, zq_tg (List.mem_of_getElem? (i := 700) rfl) rfl, List.mem_filter.mpr ⟨List.mem_append_left _ (List.mem_of_getElem? (i := 19) rfl), rfl⟩⟩
set_option maxRecDepth 100000 in
theorem k12_57 : zq_cv 12 57 mX12_isLetter 1 ∧ Cond.static mX12_isLetter.2.1 ∈ zq_g := ⟨⟨zq_tg (List.mem_of_getElem? (i := 702) rfl) rfl, zq_tg (List.mem_of_getElem? (i := 13) rfl) rfl, wX12_isLetter, by decide +kernel⟩, zq_tg (List.mem_of_getElem? (i := 703) rfl) rfl⟩
set_option maxRecDepth 100000 in
theorem k12_39 : zq_cv 12 39 mX12_in 3 ∧ Cond.static mX12_in.2.1 ∈ zq_g := ⟨⟨zq_tg (List.mem_of_getElem? (i := 705) rfl) rfl, zq_tg (List.mem_of_getElem? (i := 13) rfl) rfl, wX12_in, by decide +kernel⟩, zq_tg (List.mem_of_getElem? (i := 706) rfl) rfl⟩
set_option maxRecDepth 100000 in
theorem k12_61 : zq_cv 12 61 mX12_isDigit 1 ∧ Cond.static mX12_isDigit.2.1 ∈ zq_g := ⟨⟨zq_tg (List.mem_of_getElem? (i := 708) rfl) rfl, zq_tg (List.mem_of_getElem? (i := 13) rfl) rfl, wX12_isDigit, by decide +kernel⟩, zq_tg (List.mem_of_getElem? (i := 709) rfl) rfl⟩
set_option maxRecDepth 100000 in
theorem k12_88 : zq_cv 12 88 mX12_readsItem 0 ∧ Cond.instanceMethod mX12_readsItem.2.1 ∈ zq_g ∧ Cond.selects mX12_readsItem.2.1.cls mX12_readsItem.2.1 mX12_readsItem.2.1 ∈ zq_g := ⟨⟨zq_tg (List.mem_of_getElem? (i := 711) rfl) rfl, zq_tg (List.mem_of_getElem? (i := 13) rfl) rfl, wX12_readsItem, by decide +kernel⟩, zq_tg (List.mem_of_getElem? (i := 713) rfl) rfl, List.mem_filter.mpr ⟨List.mem_append_left _ (List.mem_of_getElem? (i := 20) rfl), rfl⟩⟩
set_option maxRecDepth 100000 in
theorem k12_76 : zq_cv 12 76 mX12_readsPerson 0 ∧ Cond.instanceMethod mX12_readsPerson.2.1 ∈ zq_g ∧ Cond.selects mX12_readsPerson.2.1.cls mX12_readsPerson.2.1 mX12_readsPerson.2.1 ∈ zq_g := ⟨⟨zq_tg (List.mem_of_getElem? (i := 715) rfl) rfl, zq_tg (List.mem_of_getElem? (i := 13) rfl) rfl, wX12_readsPerson, by decide +kernel⟩, zq_tg (List.mem_of_getElem? (i := 717) rfl) rfl, List.mem_filter.mpr ⟨List.mem_append_left _ (List.mem_of_getElem? (i := 21) rfl), rfl⟩⟩
set_option maxRecDepth 100000 in
theorem k12_73 : zq_cv 12 73 mX12_number 3 ∧ Cond.instanceMethod mX12_number.2.1 ∈ zq_g ∧ Cond.selects mX12_number.2.1.cls mX12_number.2.1 mX12_number.2.1 ∈ zq_g := ⟨⟨zq_tg (List.mem_of_getElem? (i := 719) rfl) rfl, zq_tg (List.mem_of_getElem? (i := 13) rfl) rfl, wX12_number, by decide +kernel⟩, zq_tg (List.mem_of_getElem? (i := 721) rfl) rfl, List.mem_filter.mpr ⟨List.mem_append_left _ (List.mem_of_getElem? (i := 22) rfl), rfl⟩⟩
set_option maxRecDepth 100000 in
theorem k12_79 : zq_cv 12 79 mX12_readsLate 0 ∧ Cond.instanceMethod mX12_readsLate.2.1 ∈ zq_g ∧ Cond.selects mX12_readsLate.2.1.cls mX12_readsLate.2.1 mX12_readsLate.2.1 ∈ zq_g := ⟨⟨zq_tg (List.mem_of_getElem? (i := 723) rfl) rfl, zq_tg (List.mem_of_getElem? (i := 13) rfl) rfl, wX12_readsLate, by decide +kernel⟩, zq_tg (List.mem_of_getElem? (i := 725) rfl) rfl, List.mem_filter.mpr ⟨List.mem_append_left _ (List.mem_of_getElem? (i := 23) rfl), rfl⟩⟩
set_option maxRecDepth 100000 in
theorem k12_82 : zq_cv 12 82 mX12_readsCloud 0 ∧ Cond.instanceMethod mX12_readsCloud.2.1 ∈ zq_g ∧ Cond.selects mX12_readsCloud.2.1.cls mX12_readsCloud.2.1 mX12_readsCloud.2.1 ∈ zq_g := ⟨⟨zq_tg (List.mem_of_getElem? (i := 727) rfl) rfl, zq_tg (List.mem_of_getElem? (i := 13) rfl) rfl, wX12_readsCloud, by decide +kernel⟩, zq_tg (List.mem_of_getElem? (i := 729) rfl) rfl, List.mem_filter.mpr ⟨List.mem_append_left _ (List.mem_of_getElem? (i := 24) rfl), rfl⟩⟩
set_option maxRecDepth 100000 in
theorem k12_85 : zq_cv 12 85 mX12_readsRule 0 ∧ Cond.instanceMethod mX12_readsRule.2.1 ∈ zq_g ∧ Cond.selects mX12_readsRule.2.1.cls mX12_readsRule.2.1 mX12_readsRule.2.1 ∈ zq_g := ⟨⟨zq_tg (List.mem_of_getElem? (i := 731) rfl) rfl, zq_tg (List.mem_of_getElem? (i := 13) rfl) rfl, wX12_readsRule, by decide +kernel⟩, zq_tg (List.mem_of_getElem? (i := 733) rfl) rfl, List.mem_filter.mpr ⟨List.mem_append_left _ (List.mem_of_getElem? (i := 25) rfl), rfl⟩⟩
set_option maxRecDepth 100000 in
theorem k12_36 : zq_cv 12 36 mX12_tells 0 ∧ Cond.instanceMethod mX12_tells.2.1 ∈ zq_g ∧ Cond.selects mX12_tells.2.1.cls mX12_tells.2.1 mX12_tells.2.1 ∈ zq_g := ⟨⟨zq_tg (List.mem_of_getElem? (i := 735) rfl) rfl, zq_tg (List.mem_of_getElem? (i := 13) rfl) rfl, wX12_tells, by decide +kernel⟩, zq_tg (List.mem_of_getElem? (i := 737) rfl) rfl, List.mem_filter.mpr ⟨List.mem_append_left _ (List.mem_of_getElem? (i := 26) rfl), rfl⟩⟩
set_option maxRecDepth 100000 in
theorem k12_100 : zq_cv 12 100 mX12_isPerson 1 ∧ Cond.instanceMethod mX12_isPerson.2.1 ∈ zq_g ∧ Cond.selects mX12_isPerson.2.1.cls mX12_isPerson.2.1 mX12_isPerson.2.1 ∈ zq_g := ⟨⟨zq_tg (List.mem_of_getElem? (i := 795) rfl) rfl, zq_tg (List.mem_of_getElem? (i := 13) rfl) rfl, wX12_isPerson, by decide +kernel⟩, zq_tg (List.mem_of_getElem? (i := 797) rfl) rfl, List.mem_filter.mpr ⟨List.mem_append_left _ (List.mem_of_getElem? (i := 27) rfl), rfl⟩⟩
set_option maxRecDepth 100000 in
theorem k12_97 : zq_cv 12 97 mX12_isSeen 1 ∧ Cond.instanceMethod mX12_isSeen.2.1 ∈ zq_g ∧ Cond.selects mX12_isSeen.2.1.cls mX12_isSeen.2.1 mX12_isSeen.2.1 ∈ zq_g := ⟨⟨zq_tg (List.mem_of_getElem? (i := 799) rfl) rfl, zq_tg (List.mem_of_getElem? (i := 13) rfl) rfl, wX12_isSeen, by decide +kernel⟩, zq_tg (List.mem_of_getElem? (i := 801) rfl) rfl, List.mem_filter.mpr ⟨List.mem_append_left _ (List.mem_of_getElem? (i := 28) rfl), rfl⟩⟩
set_option maxRecDepth 100000 in
theorem k12_91 : zq_cv 12 91 mX12_isBare 3 ∧ Cond.instanceMethod mX12_isBare.2.1 ∈ zq_g ∧ Cond.selects mX12_isBare.2.1.cls mX12_isBare.2.1 mX12_isBare.2.1 ∈ zq_g := ⟨⟨zq_tg (List.mem_of_getElem? (i := 803) rfl) rfl, zq_tg (List.mem_of_getElem? (i := 13) rfl) rfl, wX12_isBare, by decide +kernel⟩, zq_tg (List.mem_of_getElem? (i := 805) rfl) rfl, List.mem_filter.mpr ⟨List.mem_append_left _ (List.mem_of_getElem? (i := 29) rfl), rfl⟩⟩
set_option maxRecDepth 100000 in
theorem k12_94 : zq_cv 12 94 mX12_isCloud 1 ∧ Cond.instanceMethod mX12_isCloud.2.1 ∈ zq_g ∧ Cond.selects mX12_isCloud.2.1.cls mX12_isCloud.2.1 mX12_isCloud.2.1 ∈ zq_g := ⟨⟨zq_tg (List.mem_of_getElem? (i := 807) rfl) rfl, zq_tg (List.mem_of_getElem? (i := 13) rfl) rfl, wX12_isCloud, by decide +kernel⟩, zq_tg (List.mem_of_getElem? (i := 809) rfl) rfl, List.mem_filter.mpr ⟨List.mem_append_left _ (List.mem_of_getElem? (i := 30) rfl), rfl⟩⟩
set_option maxRecDepth 100000 in
theorem k12_103 : zq_cv 12 103 mX12_seenNow 0 ∧ Cond.instanceMethod mX12_seenNow.2.1 ∈ zq_g ∧ Cond.selects mX12_seenNow.2.1.cls mX12_seenNow.2.1 mX12_seenNow.2.1 ∈ zq_g := ⟨⟨zq_tg (List.mem_of_getElem? (i := 819) rfl) rfl, zq_tg (List.mem_of_getElem? (i := 13) rfl) rfl, wX12_seenNow, by decide +kernel⟩, zq_tg (List.mem_of_getElem? (i := 821) rfl) rfl, List.mem_filter.mpr ⟨List.mem_append_left _ (List.mem_of_getElem? (i := 31) rfl), rfl⟩⟩
set_option maxRecDepth 100000 in
theorem k12_107 : zq_cv 12 107 mX12_keeps 0 ∧ Cond.instanceMethod mX12_keeps.2.1 ∈ zq_g ∧ Cond.selects mX12_keeps.2.1.cls mX12_keeps.2.1 mX12_keeps.2.1 ∈ zq_g := ⟨⟨zq_tg (List.mem_of_getElem? (i := 827) rfl) rfl, zq_tg (List.mem_of_getElem? (i := 13) rfl) rfl, wX12_keeps, by decide +kernel⟩, zq_tg (List.mem_of_getElem? (i := 829) rfl) rfl, List.mem_filter.mpr ⟨List.mem_append_left _ (List.mem_of_getElem? (i := 32) rfl), rfl⟩⟩
set_option maxRecDepth 100000 in
theorem k12_110 : zq_cv 12 110 mX12_ones 1 ∧ Cond.static mX12_ones.2.1 ∈ zq_g := ⟨⟨zq_tg (List.mem_of_getElem? (i := 839) rfl) rfl, zq_tg (List.mem_of_getElem? (i := 13) rfl) rfl, wX12_ones, by decide +kernel⟩, zq_tg (List.mem_of_getElem? (i := 840) rfl) rfl⟩
set_option maxRecDepth 100000 in
theorem k12_113 : zq_cv 12 113 mX12_isDeed 1 ∧ Cond.instanceMethod mX12_isDeed.2.1 ∈ zq_g ∧ Cond.selects mX12_isDeed.2.1.cls mX12_isDeed.2.1 mX12_isDeed.2.1 ∈ zq_g := ⟨⟨zq_tg (List.mem_of_getElem? (i := 858) rfl) rfl, zq_tg (List.mem_of_getElem? (i := 13) rfl) rfl, wX12_isDeed, by decide +kernel⟩, zq_tg (List.mem_of_getElem? (i := 860) rfl) rfl, List.mem_filter.mpr ⟨List.mem_append_left _ (List.mem_of_getElem? (i := 33) rfl), rfl⟩⟩
set_option maxRecDepth 100000 in
theorem k12_124 : zq_cv 12 124 mX12_holderBy 3 ∧ Cond.instanceMethod mX12_holderBy.2.1 ∈ zq_g ∧ Cond.selects mX12_holderBy.2.1.cls mX12_holderBy.2.1 mX12_holderBy.2.1 ∈ zq_g := ⟨⟨zq_tg (List.mem_of_getElem? (i := 870) rfl) rfl, zq_tg (List.mem_of_getElem? (i := 13) rfl) rfl, wX12_holderBy, by decide +kernel⟩, zq_tg (List.mem_of_getElem? (i := 872) rfl) rfl, List.mem_filter.mpr ⟨List.mem_append_left _ (List.mem_of_getElem? (i := 34) rfl), rfl⟩⟩
set_option maxRecDepth 100000 in
theorem k12_116 : zq_cv 12 116 mX12_ownHolder 3 ∧ Cond.instanceMethod mX12_ownHolder.2.1 ∈ zq_g ∧ Cond.selects mX12_ownHolder.2.1.cls mX12_ownHolder.2.1 mX12_ownHolder.2.1 ∈ zq_g := ⟨⟨zq_tg (List.mem_of_getElem? (i := 874) rfl) rfl, zq_tg (List.mem_of_getElem? (i := 13) rfl) rfl, wX12_ownHolder, by decide +kernel⟩, zq_tg (List.mem_of_getElem? (i := 876) rfl) rfl, List.mem_filter.mpr ⟨List.mem_append_left _ (List.mem_of_getElem? (i := 35) rfl), rfl⟩⟩
set_option maxRecDepth 100000 in
theorem k12_120 : zq_cv 12 120 mX12_laysWays 1 ∧ Cond.instanceMethod mX12_laysWays.2.1 ∈ zq_g ∧ Cond.selects mX12_laysWays.2.1.cls mX12_laysWays.2.1 mX12_laysWays.2.1 ∈ zq_g := ⟨⟨zq_tg (List.mem_of_getElem? (i := 878) rfl) rfl, zq_tg (List.mem_of_getElem? (i := 13) rfl) rfl, wX12_laysWays, by decide +kernel⟩, zq_tg (List.mem_of_getElem? (i := 880) rfl) rfl, List.mem_filter.mpr ⟨List.mem_append_left _ (List.mem_of_getElem? (i := 36) rfl), rfl⟩⟩
set_option maxRecDepth 100000 in
theorem k12_127 : zq_cv 12 127 mX12_isPeople 1 ∧ Cond.instanceMethod mX12_isPeople.2.1 ∈ zq_g ∧ Cond.selects mX12_isPeople.2.1.cls mX12_isPeople.2.1 mX12_isPeople.2.1 ∈ zq_g := ⟨⟨zq_tg (List.mem_of_getElem? (i := 898) rfl) rfl, zq_tg (List.mem_of_getElem? (i := 13) rfl) rfl, wX12_isPeople, by decide +kernel⟩, zq_tg (List.mem_of_getElem? (i := 900) rfl) rfl, List.mem_filter.mpr ⟨List.mem_append_left _ (List.mem_of_getElem? (i := 37) rfl), rfl⟩⟩
set_option maxRecDepth 100000 in
theorem k12_134 : zq_cv 12 134 mX12_power 2 ∧ Cond.static mX12_power.2.1 ∈ zq_g := ⟨⟨zq_tg (List.mem_of_getElem? (i := 916) rfl) rfl, zq_tg (List.mem_of_getElem? (i := 13) rfl) rfl, wX12_power, by decide +kernel⟩, zq_tg (List.mem_of_getElem? (i := 917) rfl) rfl⟩
end
section
/-! the cells of the system, cells 0 to 40, and of the reference, cells 41 to 48 -/
abbrev zT : Type := Int32 × Int32 × Int32 × Int32 × (Nat → Int32) × (Nat → Int32) × (Nat → Int32) × (Nat → Int32) × (Nat → Int32)
abbrev zN : Type := Int32 × Int32 × Int32 × Int32 × (Nat → Int32) × (Nat → Int32) × (Nat → Int32) × (Nat → Int32)
abbrev zR : Type := Int32 × Int32 × Int32 × Int32 × Int32 × Int32
abbrev zA (n : Nat) (f : Nat → Int32) : zq_C := .inl (0, n, .inl f)
abbrev zZ (n : Nat) (f : Nat → Int32) : zq_C := .inl (1, n, .inl f)
abbrev zI2 : Nat → Option Nat := fun j => match j with | 0 => some 21 | 1 => some 26 | _ => none
abbrev zI6 : Nat → Option Nat := fun j => match j with | 0 => some 35 | 1 => some 36 | 2 => some 37 | 3 => some 38 | 4 => some 39 | 5 => some 40 | _ => none
abbrev XH (tx : Nat → Int32) (n : Int32) (t dr : zT) (rd : zR) (w i0 i1 : zN) (kp : Nat → Int32) (dd : Int32) (tr : Int64) (m : Nat → zq_C) : zq_H :=
  [.inr (11, [.ref 1, .int n, .ref 2, .ref 8, .ref 14, .ref 15, .ref 20, .ref 31, .ref 32, .ref 33, .ref 34]),
   zA 200 tx,
   .inr (9, [.int t.1, .int t.2.1, .int t.2.2.1, .int t.2.2.2.1, .ref 3, .ref 4, .ref 5, .ref 6, .ref 7]), zA 6 t.2.2.2.2.1, zA 6 t.2.2.2.2.2.1, zA 8 t.2.2.2.2.2.2.1, zA 6 t.2.2.2.2.2.2.2.1, zA 6 t.2.2.2.2.2.2.2.2,
   .inr (9, [.int dr.1, .int dr.2.1, .int dr.2.2.1, .int dr.2.2.2.1, .ref 9, .ref 10, .ref 11, .ref 12, .ref 13]), zA 6 dr.2.2.2.2.1, zA 6 dr.2.2.2.2.2.1, zA 8 dr.2.2.2.2.2.2.1, zA 6 dr.2.2.2.2.2.2.2.1, zA 6 dr.2.2.2.2.2.2.2.2,
   .inr (8, [.ref 1, .ref 8, .int rd.1, .int rd.2.1, .int rd.2.2.1, .int rd.2.2.2.1, .int rd.2.2.2.2.1, .int rd.2.2.2.2.2]),
   .inr (5, [.ref 2, .int w.1, .int w.2.1, .int w.2.2.1, .int w.2.2.2.1, .ref 16, .ref 17, .ref 18, .ref 19]), zA 6 w.2.2.2.2.1, zA 60 w.2.2.2.2.2.1, zA 99 w.2.2.2.2.2.2.1, zA 30 w.2.2.2.2.2.2.2,
   .inl (2, 2, .inr (.inr (.inr (.inr zI2)))),
   .inr (5, [.ref 2, .int i0.1, .int i0.2.1, .int i0.2.2.1, .int i0.2.2.2.1, .ref 22, .ref 23, .ref 24, .ref 25]), zA 6 i0.2.2.2.2.1, zA 60 i0.2.2.2.2.2.1, zA 99 i0.2.2.2.2.2.2.1, zA 30 i0.2.2.2.2.2.2.2,
   .inr (5, [.ref 2, .int i1.1, .int i1.2.1, .int i1.2.2.1, .int i1.2.2.2.1, .ref 27, .ref 28, .ref 29, .ref 30]), zA 6 i1.2.2.2.2.1, zA 60 i1.2.2.2.2.2.1, zA 99 i1.2.2.2.2.2.2.1, zA 30 i1.2.2.2.2.2.2.2,
   zZ 2 kp,
   .inr (1, [.ref 2, .ref 15]),
   .inr (0, [.ref 2, .ref 15, .int dd, .long tr]),
   .inl (3, 6, .inr (.inr (.inr (.inr zI6)))),
   .inr (6, []), .inr (7, []), .inr (3, []), .inr (4, []), .inr (2, []), .inr (10, []),
   m 0, m 1, m 2, m 3, m 4, m 5, m 6, m 7]
abbrev MH (c : Nat → zq_C) (tr : Int64) (tx : Nat → Int32) (ty : Int32) (td dr s im kp : Nat → Int32) (at_ so sr va : Int32) (wy : Nat → Int32) : zq_H :=
  [c 0, c 1, c 2, c 3, c 4, c 5, c 6, c 7, c 8, c 9, c 10, c 11, c 12, c 13, c 14, c 15, c 16, c 17, c 18, c 19, c 20, c 21, c 22, c 23, c 24, c 25, c 26, c 27, c 28, c 29, c 30, c 31, c 32, c 33, c 34, c 35, c 36, c 37, c 38, c 39, c 40,
   .inr (12, [.long tr, .ref 42, .int ty, .ref 43, .ref 44, .ref 45, .ref 46, .ref 47, .int at_, .int so, .int sr, .int va, .ref 48]),
   zA 200 tx, zA 32 td, zA 32 dr, zA 1849 s, zA 3698 im, zZ 2 kp, zA 8 wy]
def zb (P : Prop) [Decidable P] : Int32 := if P then 1 else 0
theorem zb_01 (P : Prop) [Decidable P] : zb P = 0 ∨ zb P = 1 := by unfold zb; split <;> simp
theorem zb_eq (P : Prop) [Decidable P] : zq_cc .eq (zb P) 0 ↔ ¬ P := by
  unfold zb zq_cc
  by_cases h : P <;> simp [h]
theorem zb_ne (P : Prop) [Decidable P] : zq_cc .ne (zb P) 0 ↔ P := by
  unfold zb zq_cc
  by_cases h : P <;> simp [h]
theorem zb_t {P : Prop} [Decidable P] (h : P) : (1 : Int32) = zb P := by unfold zb; rw [if_pos h]
theorem zb_f {P : Prop} [Decidable P] (h : ¬ P) : (0 : Int32) = zb P := by unfold zb; rw [if_neg h]
theorem zb_c {P Q : Prop} [Decidable P] [Decidable Q] (h : P ↔ Q) : zb P = zb Q := by unfold zb; by_cases hp : P <;> simp [hp, h.symm, h] <;> simp_all
theorem zb_r {P : Prop} [Decidable P] {v : Int32} (h : v = zb P) : (some (Value.int (zb P))) = some (.int v) := by rw [h]
/-- a loop whose state is a function of how often it went round -/
theorem zq_loop {l : Launch} {M : zq_M} {d : Nat} {r : Option Value} {h' : zq_H} {pc : Nat} (S : Nat → zq_S) (I : Nat → Prop) (N i0 : Nat) (hle : i0 ≤ N) (h0 : I i0) (hs : ∀ i, i0 ≤ i → i < N → I i → (I (i + 1) → zq_G l M d r h' pc (S (i + 1))) → zq_G l M d r h' pc (S i)) (he : I N → zq_G l M d r h' pc (S N)) : zq_G l M d r h' pc (S i0) := by
  have key : ∀ n i, i0 ≤ i → i + n = N → I i → zq_G l M d r h' pc (S i) := by
    intro n
    induction n with
    | zero => intro i hi0 hi hI; have : i = N := by omega
              subst this; exact he hI
    | succ n ih => intro i hi0 hi hI; exact hs i hi0 (by omega) hI (fun hI2 => ih (i + 1) (by omega) (by omega) hI2)
  exact key (N - i0) i0 (Nat.le_refl _) (by omega) h0
theorem zq_clt {a b : Nat} (ha : a < 2147483648) (hb : b < 2147483648) : zq_cc .lt (nI a) (nI b) ↔ a < b := nI_ltI ha hb
theorem zq_cge {a b : Nat} (ha : a < 2147483648) (hb : b < 2147483648) : zq_cc .ge (nI a) (nI b) ↔ b ≤ a := nI_leI hb ha
theorem zq_cgt {a b : Nat} (ha : a < 2147483648) (hb : b < 2147483648) : zq_cc .gt (nI a) (nI b) ↔ b < a := nI_ltI hb ha
theorem zq_cle {a b : Nat} (ha : a < 2147483648) (hb : b < 2147483648) : zq_cc .le (nI a) (nI b) ↔ a ≤ b := nI_leI ha hb
theorem zq_ceq {a b : Nat} (ha : a < 2147483648) (hb : b < 2147483648) : zq_cc .eq (nI a) (nI b) ↔ a = b := nI_eq ha hb
theorem zq_cne {a b : Nat} (ha : a < 2147483648) (hb : b < 2147483648) : zq_cc .ne (nI a) (nI b) ↔ ¬ a = b := not_congr (nI_eq ha hb)
theorem zq_div {a b : Nat} (ha : a < 2147483648) (h0 : 0 < b) (hb : b < 2147483648) : nI a / nI b = nI (a / b) := pk_div ha h0 hb
theorem zq_rem {a b : Nat} (ha : a < 2147483648) (h0 : 0 < b) (hb : b < 2147483648) : nI a - nI a / nI b * nI b = nI (a % b) := pk_rem ha h0 hb
theorem zq_nz {b : Nat} (h0 : 0 < b) (hb : b < 2147483648) : ¬ nI b = 0 := nI_ne0 h0 hb
abbrev zq_K : Type := zq_M → Nat → Nat → Instr → Option Nat
def zq_chkT (M : zq_M) : List zq_K → Nat → Option Nat
  | [], pc => some pc
  | q :: os, pc => match decode M.2.2.1 pc with
    | .ok (i, len) => match q M pc len i with
      | some pc' => zq_chkT M os pc'
      | none => none
    | .error _ => none
theorem zq_chkT_eq (M : zq_M) (os : List zq_O) (pc : Nat) : zq_chk M os pc = zq_chkT M (os.map (fun o => o.1.1)) pc := by
  induction os generalizing pc with
  | nil => rfl
  | cons o os ih =>
    show zq_chk M (o :: os) pc = zq_chkT M (o.1.1 :: os.map (fun o => o.1.1)) pc
    unfold zq_chk zq_chkT
    split
    · rename_i i len hd
      simp only [hd]
      split
      · rename_i pc1 h1
        simp only [h1]
        exact ih _
      · rename_i h1
        simp only [h1]
    · rename_i e hd
      simp only [hd]
theorem zq_b {l : Launch} {M : zq_M} {d : Nat} {r : Option Value} {h' : zq_H} {pc : Nat} {σ : zq_S} (os : List zq_O) (ts : List zq_K) (pc' : Nat) (ht : os.map (fun o => o.1.1) = ts) (hc : zq_chkT M ts pc = some pc') (hr : zq_run os σ (fun σ' => zq_G l M d r h' pc' σ')) : zq_G l M d r h' pc σ :=
  zq_blk os pc' (by rw [zq_chkT_eq, ht]; exact hc) hr
end
section
/-! switches, copies of rows, a call by the receiver's own kind, compares of longs -/
def zq_swd (M : zq_M) (pc : Nat) : Option (List (Int × Nat) × Nat) := match decode M.2.2.1 pc with
  | .ok (.lookupswitch d ps, _) => if (ps.toList.zip (ps.toList.drop 1)).all (fun (a, next) => a.1 < next.1) = true ∧ 0 ≤ (pc : Int) + d ∧ (∀ q ∈ ps.toList, 0 ≤ (pc : Int) + q.2) then some (ps.toList.map (fun q => (q.1, ((pc : Int) + q.2).toNat)), ((pc : Int) + d).toNat) else none
  | .ok (.tableswitch d lo hi offs, _) => if 0 ≤ (pc : Int) + d ∧ (∀ q ∈ offs.toList, 0 ≤ (pc : Int) + q) ∧ hi = lo + offs.size - 1 then some (offs.toList.mapIdx (fun i q => (lo + i, ((pc : Int) + q).toNat)), ((pc : Int) + d).toNat) else none
  | _ => none
def zq_swk (x : Int32) (G : Nat → Prop) : List (Int × Nat) → Prop
  | [] => True
  | q :: l => (x.toInt = q.1 → G q.2) ∧ zq_swk x G l
def zq_swn (x : Int32) : List (Int × Nat) → Prop
  | [] => True
  | q :: l => (¬ x.toInt = q.1) ∧ zq_swn x l
theorem zq_swk_at {x : Int32} {G : Nat → Prop} {l : List (Int × Nat)} (h : zq_swk x G l) {q : Int × Nat} (hq : q ∈ l) (hx : x.toInt = q.1) : G q.2 := by
  induction l with
  | nil => cases hq
  | cons a l ih =>
    rcases List.mem_cons.mp hq with e | hq
    · subst e; exact h.1 hx
    · exact ih h.2 hq
theorem zq_swn_of {x : Int32} {l : List (Int × Nat)} (h : ∀ q ∈ l, ¬ x.toInt = q.1) : zq_swn x l := by
  induction l with
  | nil => trivial
  | cons a l ih => exact ⟨h a List.mem_cons_self, ih (fun q hq => h q (List.mem_cons_of_mem _ hq))⟩
theorem zq_off {x d : Int} (l : List (Int × Int)) : (∃ q ∈ l, x = q.1 ∧ Op.lookupswitch.offset l d x = q.2) ∨ ((∀ q ∈ l, ¬ x = q.1) ∧ Op.lookupswitch.offset l d x = d) := by
  induction l with
  | nil => exact Or.inr ⟨fun q h => (by cases h), rfl⟩
  | cons a l ih =>
    by_cases hx : x = a.1
    · refine Or.inl ⟨a, List.mem_cons_self, hx, ?_⟩
      rw [Op.lookupswitch.offset_cons, if_pos hx.symm]
    · have e : Op.lookupswitch.offset (a :: l) d x = Op.lookupswitch.offset l d x := by
        rw [Op.lookupswitch.offset_cons, if_neg (fun q => hx q.symm)]
      rcases ih with ⟨q, h1, h2, h3⟩ | ⟨h1, h2⟩
      · exact Or.inl ⟨q, List.mem_cons_of_mem _ h1, h2, by rw [e]; exact h3⟩
      · refine Or.inr ⟨fun q hq => ?_, by rw [e]; exact h2⟩
        rcases List.mem_cons.mp hq with z | z
        · subst z; exact hx
        · exact h1 q z
section ZW
variable {l : Launch} {M : zq_M} {d : Nat} {r : Option Value} {h' : zq_H} {pc : Nat} {ls : List (Nat × Value)} {st : List Value} {h : zq_H}
theorem zq_swc {x : Int32} (prs : List (Int × Nat)) (df : Nat) (hd : zq_swd M pc = some (prs, df)) (hk : zq_swk x (fun t => zq_G l M d r h' t (ls, st, h)) prs) (hn : zq_swn x prs → zq_G l M d r h' df (ls, st, h)) : zq_G l M d r h' pc (ls, .int x :: st, h) := by
  unfold zq_swd at hd
  split at hd
  · rename_i d0 ps len hdec
    split at hd
    · rename_i hq
      obtain ⟨h1, h2, h3⟩ := hq
      cases hd
      rcases zq_off (x := x.toInt) (d := d0) ps.toList with ⟨q, g1, g2, g3⟩ | ⟨g1, g2⟩
      · have hg := zq_swk_at hk (List.mem_map.mpr ⟨q, g1, rfl⟩) g2
        intro p e s m args below meth c ad D cy A H locs la hX hP hD hS hl
        exact lv_lookup hX.1 hX.2.1 hdec h1 g3 (by have := h3 q g1; omega) (hg p e s m args below meth c ad D cy A H locs la hX hP hD hS hl)
      · have hg := hn (zq_swn_of (fun q hq => by obtain ⟨z, z1, rfl⟩ := List.mem_map.mp hq; exact g1 z z1))
        intro p e s m args below meth c ad D cy A H locs la hX hP hD hS hl
        exact lv_lookup hX.1 hX.2.1 hdec h1 g2 (by omega) (hg p e s m args below meth c ad D cy A H locs la hX hP hD hS hl)
    · cases hd
  · rename_i d0 lo hi offs len hdec
    split at hd
    · rename_i hq
      obtain ⟨h1, h2, h3⟩ := hq
      cases hd
      by_cases hin : lo ≤ x.toInt ∧ x.toInt ≤ hi
      · obtain ⟨k, hk2⟩ : ∃ k : Nat, x.toInt - lo = (k : Int) := ⟨(x.toInt - lo).toNat, by omega⟩
        have hkl : k < offs.size := by omega
        have hoff : offs[k]? = some offs[k] := Array.getElem?_eq_getElem hkl
        have hm : (lo + (k : Int), ((pc : Int) + offs[k]).toNat) ∈ offs.toList.mapIdx (fun i q => (lo + (i : Int), ((pc : Int) + q).toNat)) := by
          refine List.mem_of_getElem? (i := k) ?_
          rw [List.getElem?_mapIdx, Array.getElem?_toList, hoff]
          rfl
        have hg := zq_swk_at hk hm (by show x.toInt = lo + (k : Int); omega)
        have h2' := h2 offs[k] (Array.getElem_mem_toList hkl)
        intro p e s m args below meth c ad D cy A H locs la hX hP hD hS hl
        exact lv_tableIn hX.1 hX.2.1 hdec (by omega) (by omega) (by rw [hk2]; exact hoff) (by omega) (hg p e s m args below meth c ad D cy A H locs la hX hP hD hS hl)
      · have hg := hn (zq_swn_of (fun q hq => by
          obtain ⟨k, hk⟩ := List.getElem?_of_mem hq
          rw [List.getElem?_mapIdx] at hk
          obtain ⟨z, z1, rfl⟩ := Option.map_eq_some_iff.mp hk
          have hl := (List.getElem?_eq_some_iff.mp z1).1
          rw [Array.length_toList] at hl
          show ¬ x.toInt = lo + (k : Int)
          omega))
        intro p e s m args below meth c ad D cy A H locs la hX hP hD hS hl
        exact lv_tableOut hX.1 hX.2.1 hdec (by omega) (by omega) (hg p e s m args below meth c ad D cy A H locs la hX hP hD hS hl)
    · cases hd
  · cases hd
def zq_ac (o idx : Nat) : Prop := Cond.methodLink (zq_cn o) idx arraycopyName ∈ zq_g ∧ Cond.native arraycopyName ∈ zq_g ∧ Cond.static arraycopyName ∈ zq_g ∧ Cond.initialized "java/lang/System" ∈ zq_g
def zq_rc (d : Nat) (rest : List Value) : Bool := Nat.ble 1 d && Nat.ble ((rest.map fun v => v.category).sum + (nativeFrameWords "java/lang/System" "arraycopy" 5 + 11)) (35 * d)
theorem zq_copy {idx sp dp n a0 a1 n0 n1 : Nat} {xs xd xn : Int32} {f g : Nat → Int32} {rest : List Value} (hd : decode M.2.2.1 pc = .ok (.invokestatic idx, 3)) (hw : zq_ac M.1 idx) (h0 : zq_hp h a0 = some (.inl (0, n0, .inl f))) (h1 : zq_hp h a1 = some (.inl (0, n1, .inl g))) (hr : zq_rc d rest = true) (b0 : sp + n ≤ n0) (b1 : dp + n ≤ n1) (b2 : n0 < 2147483648 ∧ n1 < 2147483648) (es : xs = nI sp) (ed : xd = nI dp) (en : xn = nI n)
    (kk : zq_G l M d r h' (pc + 3) (ls, rest, h.set a1 (.inl (0, n1, .inl (va_cpy f g sp dp n))))) : zq_G l M d r h' pc (ls, .int xn :: .int xd :: .ref a1 :: .int xs :: .ref a0 :: rest, h) := by
  subst es ed en
  unfold zq_rc at hr
  simp only [Bool.and_eq_true] at hr
  have hr1 := Nat.le_of_ble_eq_true hr.1
  have hr2 := Nat.le_of_ble_eq_true hr.2
  rw [zq_hp_eq] at h0 h1
  intro p e s m args below meth c ad D cy A H locs la hX hP hD hS hl
  have hts := hX.2.2.2.2.2.2.1
  have e2 := zq_w_set ad cy h a1 (.inl (0, n1, .inl (va_cpy f g sp dp n)))
  refine va_copyi (ty := .int) hX.1 hX.2.1 (by rw [hX.2.2.1]; exact hl.1.symm) hX.2.2.2.2.2.1 (hts _ hw.1) (hts _ hw.2.1) (hts _ hw.2.2.1) (hts _ hw.2.2.2) hX.2.2.2.2.2.2.2.1 hP hD hS a0 a1 0 0 (zq_w_at h0) (zq_w_at h1) rfl rfl rfl (nI_pos (by omega)) (nI_pos (by omega)) (nI_pos (by omega)) (by rw [nI_clamp (by omega), nI_clamp (by omega)]; exact b0) (by rw [nI_clamp (by omega), nI_clamp (by omega)]; exact b1) (fun _ _ => rfl) hr1 (by rw [zq_cat_sum]; exact hr2) hd (fun H1 locs1 hP1 hD1 hS1 => ?_)
  rw [nI_clamp (n := sp) (by omega), nI_clamp (n := dp) (by omega), nI_clamp (n := n) (by omega)] at hP1 hD1
  refine kk p e s m args below meth c ad D cy A H1 locs1 la hX ?_ ?_ hS1 hl
  · show va_P D vwCl (zq_w ad cy (h.set a1 _)) H1
    rw [← e2]; exact hP1
  · show va_D A (zq_w ad cy (h.set a1 _))
    rw [← e2]; exact hD1
theorem zq_callD {M1 M2 : zq_M} {d2 idx n a ci : Nat} {av rest fs : List Value} {r2 : Option Value} {h2 : zq_H} {C : String} (hd : decode M.2.2.1 pc = .ok (.invokevirtual idx, 3))
    (hw : Cond.methodLink (zq_cn M.1) idx M1.2.1 ∈ zq_g ∧ Cond.sameMethod M1.2.1.cls M1.2.1.cls M1.2.1.name M1.2.1.desc ∈ zq_g ∧ Cond.instanceMethod M1.2.1 ∈ zq_g ∧ zq_cw M1 ∈ zq_g ∧ (M1.2.1.cls ≠ "java/lang/invoke/MethodHandle" ∧ M1.2.1.cls ≠ "java/lang/invoke/VarHandle" ∧ (parseMethodDescriptor M1.2.1.desc).map (fun d => d.parameters.length) = some n))
    (hw2 : Cond.selects C M1.2.1 M2.2.1 ∈ zq_g ∧ Cond.instanceMethod M2.2.1 ∈ zq_g ∧ Cond.initialized M2.2.1.cls ∈ zq_g ∧ zq_cw M2 ∈ zq_g)
    (hM : zq_P l M2 d2 (.ref a :: av) h r2 h2) (hrm : zq_rm M2 d2 d rest = true) (hn : av.length = n) (hh : zq_hp h a = some (.inr (ci, fs))) (hci : (vwCl[ci]?).map (fun q => q.1) = some C)
    (kk : zq_G l M d r h' (pc + 3) (ls, r2.toList ++ rest, h2)) : zq_G l M d r h' pc (ls, av.reverse ++ .ref a :: rest, h) := by
  intro p e s m args below meth c ad D cy A H locs la hX hP hD hS hl
  obtain ⟨w1, w2, w3, w4, w5⟩ := hw
  obtain ⟨v1, v2, v3, v4⟩ := hw2
  obtain ⟨hR, hsum⟩ := zq_rm_spec hrm
  have hts := hX.2.2.2.2.2.2.1
  obtain ⟨q, hq, hq2⟩ := Option.map_eq_some_iff.mp hci
  rw [zq_hp_eq] at hh
  have hrec := va_recv hX.2.2.2.2.2.2.2.1 hP hq (zq_w_at hh)
  rw [hq2] at hrec
  have hG := zq_good v4
  have hc : zq_cw M2 ∈ zq_ws M2 := List.mem_cons_self
  have hlen : ∀ sig, parseMethodDescriptor M1.2.1.desc = some sig → n = sig.parameters.length := by
    intro sig hsig
    have h3 := w5.2.2
    rw [hsig] at h3
    exact (Option.some.inj h3).symm
  refine zq_after (va_runU (Ts := zq_g) (As := av.map (zq_v ad)) (rest := rest.map (zq_v ad)) (b := ad a) (C := C) (owner := M1.2.1.cls) (x := M1.2.1) (y := M2.2.1) ⟨hX.1, hX.2.1, hX.2.2.1, hX.2.2.2.2.2.1, hts⟩ (hM ad D cy A) ⟨⟨rfl, rfl, hR.1, hR.2, pay_in hts hG, hc⟩, hts _ v4, hts _ v3, ⟨w5.1, w5.2.1⟩, hlen, hts _ w1, hts _ w2, va_Decl.of (hts _ w3) (hts _ w4), hts _ v1, hts _ v2⟩ ⟨zq_blind _ ad D cy A h, hrec, fun U hU hW => ⟨rfl, by rw [hU]; exact hP, va_K.moved hW.alike hX.2.2.2.2.2.2.2.1, zq_N.warm hW hX.2.2.2.2.2.2.2.2, hD⟩⟩ rfl (by rw [List.length_map]; exact hn) hl.1 (by show List.map (zq_v ad) (av.reverse ++ .ref a :: rest) = _; rw [List.map_append, List.map_reverse]; rfl) (lv_room (by rw [zq_cat_sum]; exact hsum)) hd ⟨Nat.le_refl 0, Nat.le_refl 0⟩) hS (fun H1 locs1 hP1 hD1 hS1 => ?_)
  rw [zq_ret_map]
  exact kk p e s m args below meth c ad D cy A H1 locs1 la hX hP1 hD1 hS1 hl
end ZW
theorem zq_lc (x y : Int64) : (x < y ∧ ¬ y < x ∧ ¬ x = y ∧ ¬ y ≤ x ∧ x ≤ y ∧ lg_cmp x y = -1) ∨ (x = y ∧ ¬ x < y ∧ ¬ y < x ∧ x ≤ y ∧ y ≤ x ∧ lg_cmp x y = 0) ∨ (y < x ∧ ¬ x < y ∧ ¬ x = y ∧ ¬ x ≤ y ∧ y ≤ x ∧ lg_cmp x y = 1) := by
  have inj : x = y → x.toInt = y.toInt := fun h => by rw [h]
  unfold lg_cmp
  simp only [gt_iff_lt, Int64.lt_iff_toInt_lt, Int64.le_iff_toInt_le]
  rcases Int.lt_trichotomy x.toInt y.toInt with g | g | g
  · refine Or.inl ⟨g, by omega, fun e => ?_, by omega, by omega, ?_⟩
    · have := inj e; omega
    · rw [if_neg (by omega), if_neg (fun e => by have := inj e; omega)]
  · have e : x = y := Int64.toInt_inj.mp g
    exact Or.inr (Or.inl ⟨e, by omega, by omega, by omega, by omega, by rw [if_neg (by omega), if_pos e]⟩)
  · refine Or.inr (Or.inr ⟨g, by omega, fun e => ?_, by omega, by omega, ?_⟩)
    · have := inj e; omega
    · rw [if_pos g]
theorem zq_lc_lt (x y : Int64) : zq_cc .lt (lg_cmp x y) 0 ↔ x < y := by
  rcases zq_lc x y with ⟨h1, h2, h3, h4, h5, h6⟩ | ⟨h1, h2, h3, h4, h5, h6⟩ | ⟨h1, h2, h3, h4, h5, h6⟩ 
  · simp only [zq_cc, h6, h1]; decide
  · simp only [zq_cc, h6, h2]; decide
  · simp only [zq_cc, h6, h2]; decide
theorem zq_lc_ge (x y : Int64) : zq_cc .ge (lg_cmp x y) 0 ↔ y ≤ x := by
  rcases zq_lc x y with ⟨h1, h2, h3, h4, h5, h6⟩ | ⟨h1, h2, h3, h4, h5, h6⟩ | ⟨h1, h2, h3, h4, h5, h6⟩ <;> simp only [zq_cc, h6, h4, h5] <;> decide
theorem zq_lc_gt (x y : Int64) : zq_cc .gt (lg_cmp x y) 0 ↔ y < x := by
  rcases zq_lc x y with ⟨h1, h2, h3, h4, h5, h6⟩ | ⟨h1, h2, h3, h4, h5, h6⟩ | ⟨h1, h2, h3, h4, h5, h6⟩ 
  · simp only [zq_cc, h6, h2]; decide
  · simp only [zq_cc, h6, h3]; decide
  · simp only [zq_cc, h6, h1]; decide
theorem zq_lc_le (x y : Int64) : zq_cc .le (lg_cmp x y) 0 ↔ x ≤ y := by
  rcases zq_lc x y with ⟨h1, h2, h3, h4, h5, h6⟩ | ⟨h1, h2, h3, h4, h5, h6⟩ | ⟨h1, h2, h3, h4, h5, h6⟩ <;> simp only [zq_cc, h6, h4, h5] <;> decide
theorem zq_lc_eq (x y : Int64) : zq_cc .eq (lg_cmp x y) 0 ↔ x = y := by
  rcases zq_lc x y with ⟨h1, h2, h3, h4, h5, h6⟩ | ⟨h1, h2, h3, h4, h5, h6⟩ | ⟨h1, h2, h3, h4, h5, h6⟩
  · simp only [zq_cc, h6, h3]; decide
  · simp only [zq_cc, h6]; exact ⟨fun _ => h1, fun _ => trivial⟩
  · simp only [zq_cc, h6, h3]; decide
theorem zq_lc_ne (x y : Int64) : zq_cc .ne (lg_cmp x y) 0 ↔ ¬ x = y := not_congr (zq_lc_eq x y)
theorem zq_pick {l : Launch} {M : zq_M} {d : Nat} {r : Option Value} {h' : zq_H} {pc : Nat} {ls ls2 : List (Nat × Value)} {st : List Value} {h : zq_H} (ks : List Nat) (hl : ks.filterMap (fun k => ls[k]?) = ls2) (k : zq_G l M d r h' pc (ls2, st, h)) : zq_G l M d r h' pc (ls, st, h) := by
  refine zq_less (fun q hq => ?_) k
  subst hl
  obtain ⟨i, -, hi⟩ := List.mem_filterMap.mp hq
  exact List.mem_of_getElem? hi
end
section
/-! words of copies, and of the call by kind -/
set_option maxRecDepth 100000 in
theorem kc9_40 : zq_ac 9 40 := ⟨zq_tg (List.mem_of_getElem? (i := 351) rfl) rfl, zq_tg (List.mem_of_getElem? (i := 353) rfl) rfl, zq_tg (List.mem_of_getElem? (i := 352) rfl) rfl, zq_tg (List.mem_of_getElem? (i := 15) rfl) rfl⟩
set_option maxRecDepth 100000 in
theorem kc5_46 : zq_ac 5 46 := ⟨zq_tg (List.mem_of_getElem? (i := 358) rfl) rfl, zq_tg (List.mem_of_getElem? (i := 353) rfl) rfl, zq_tg (List.mem_of_getElem? (i := 352) rfl) rfl, zq_tg (List.mem_of_getElem? (i := 15) rfl) rfl⟩
set_option maxRecDepth 100000 in
theorem kd11_233 : Cond.methodLink (zq_cn 11) 233 mX6_worth.2.1 ∈ zq_g ∧ Cond.sameMethod mX6_worth.2.1.cls mX6_worth.2.1.cls mX6_worth.2.1.name mX6_worth.2.1.desc ∈ zq_g ∧ Cond.instanceMethod mX6_worth.2.1 ∈ zq_g ∧ zq_cw mX6_worth ∈ zq_g ∧ (mX6_worth.2.1.cls ≠ "java/lang/invoke/MethodHandle" ∧ mX6_worth.2.1.cls ≠ "java/lang/invoke/VarHandle" ∧ (parseMethodDescriptor mX6_worth.2.1.desc).map (fun d => d.parameters.length) = some 1) := ⟨zq_tg (List.mem_of_getElem? (i := 621) rfl) rfl, zq_tg (List.mem_of_getElem? (i := 624) rfl) rfl, zq_tg (List.mem_of_getElem? (i := 622) rfl) rfl, wX6_worth, by decide +kernel⟩
set_option maxRecDepth 100000 in
theorem kd_Plain : Cond.selects "SquareLate$Plain" mX6_worth.2.1 mX6_worth.2.1 ∈ zq_g ∧ Cond.instanceMethod mX6_worth.2.1 ∈ zq_g ∧ Cond.initialized mX6_worth.2.1.cls ∈ zq_g ∧ zq_cw mX6_worth ∈ zq_g := ⟨zq_tg (List.mem_of_getElem? (i := 623) rfl) rfl, zq_tg (List.mem_of_getElem? (i := 622) rfl) rfl, zq_tg (List.mem_of_getElem? (i := 7) rfl) rfl, wX6_worth⟩
set_option maxRecDepth 100000 in
theorem kd_Posed : Cond.selects "SquareLate$Posed" mX6_worth.2.1 mX7_worth.2.1 ∈ zq_g ∧ Cond.instanceMethod mX7_worth.2.1 ∈ zq_g ∧ Cond.initialized mX7_worth.2.1.cls ∈ zq_g ∧ zq_cw mX7_worth ∈ zq_g := ⟨zq_tg (List.mem_of_getElem? (i := 650) rfl) rfl, zq_tg (List.mem_of_getElem? (i := 645) rfl) rfl, zq_tg (List.mem_of_getElem? (i := 8) rfl) rfl, wX7_worth⟩
set_option maxRecDepth 100000 in
theorem kd_Hidden : Cond.selects "SquareLate$Hidden" mX6_worth.2.1 mX3_worth.2.1 ∈ zq_g ∧ Cond.instanceMethod mX3_worth.2.1 ∈ zq_g ∧ Cond.initialized mX3_worth.2.1.cls ∈ zq_g ∧ zq_cw mX3_worth ∈ zq_g := ⟨zq_tg (List.mem_of_getElem? (i := 639) rfl) rfl, zq_tg (List.mem_of_getElem? (i := 630) rfl) rfl, zq_tg (List.mem_of_getElem? (i := 9) rfl) rfl, wX3_worth⟩
set_option maxRecDepth 100000 in
theorem kd_Lawful : Cond.selects "SquareLate$Lawful" mX6_worth.2.1 mX4_worth.2.1 ∈ zq_g ∧ Cond.instanceMethod mX4_worth.2.1 ∈ zq_g ∧ Cond.initialized mX4_worth.2.1.cls ∈ zq_g ∧ zq_cw mX4_worth ∈ zq_g := ⟨zq_tg (List.mem_of_getElem? (i := 640) rfl) rfl, zq_tg (List.mem_of_getElem? (i := 641) rfl) rfl, zq_tg (List.mem_of_getElem? (i := 10) rfl) rfl, wX4_worth⟩
set_option maxRecDepth 100000 in
theorem kd_Clouded : Cond.selects "SquareLate$Clouded" mX6_worth.2.1 mX2_worth.2.1 ∈ zq_g ∧ Cond.instanceMethod mX2_worth.2.1 ∈ zq_g ∧ Cond.initialized mX2_worth.2.1.cls ∈ zq_g ∧ zq_cw mX2_worth ∈ zq_g := ⟨zq_tg (List.mem_of_getElem? (i := 625) rfl) rfl, zq_tg (List.mem_of_getElem? (i := 626) rfl) rfl, zq_tg (List.mem_of_getElem? (i := 11) rfl) rfl, wX2_worth⟩
set_option maxRecDepth 100000 in
theorem kd_Twice : Cond.selects "SquareLate$Twice" mX6_worth.2.1 mX10_worth.2.1 ∈ zq_g ∧ Cond.instanceMethod mX10_worth.2.1 ∈ zq_g ∧ Cond.initialized mX10_worth.2.1.cls ∈ zq_g ∧ zq_cw mX10_worth ∈ zq_g := ⟨zq_tg (List.mem_of_getElem? (i := 651) rfl) rfl, zq_tg (List.mem_of_getElem? (i := 652) rfl) rfl, zq_tg (List.mem_of_getElem? (i := 12) rfl) rfl, wX10_worth⟩
end
section
/-! Math.min, Math.max -/
section ZMM
variable {l : Launch} {M : zq_M} {d : Nat} {r : Option Value} {h' : zq_H} {pc : Nat} {ls : List (Nat × Value)} {h : zq_H} {idx : Nat} {rest : List Value}
def zq_rn (d : Nat) (rest : List Value) : Bool := Nat.ble 1 d && Nat.ble ((rest.map fun v => v.category).sum + 15) (35 * d)
theorem zq_mmin {x y : Int32} (hd : decode M.2.2.1 pc = .ok (.invokestatic idx, 3)) (hw : zq_cv M.1 idx mJ9_min_7cf53 2 ∧ Cond.static mJ9_min_7cf53.2.1 ∈ zq_g) (hr : zq_rn d rest = true)
    (kk : zq_G l M d r h' (pc + 3) (ls, .int (if y < x then y else x) :: rest, h)) : zq_G l M d r h' pc (ls, .int y :: .int x :: rest, h) := by
  unfold zq_rn at hr
  simp only [Bool.and_eq_true] at hr
  have hr1 := Nat.le_of_ble_eq_true hr.1
  have hr2 := Nat.le_of_ble_eq_true hr.2
  intro p e s m args below meth c ad D cy A H locs la hX hP hD hS hl
  have hts := hX.2.2.2.2.2.2.1
  obtain ⟨⟨w1, w2, w3, w4⟩, w5⟩ := hw
  exact va_mmin hX.1 hX.2.1 (by rw [hX.2.2.1]; exact hl.1.symm) hX.2.2.2.2.2.1 (hts _ w1) (hts _ w5) (hts _ w2) (hts _ w3) hr1 (by rw [zq_cat_sum]; show _ ≤ 35 * d; omega) (Nat.zero_le _) (Nat.zero_le _) hd (kk p e s m args below meth c ad D cy A H locs la hX hP hD hS hl)
theorem zq_mmax {x y : Int32} (hd : decode M.2.2.1 pc = .ok (.invokestatic idx, 3)) (hw : zq_cv M.1 idx mJ9_max_7cf53 2 ∧ Cond.static mJ9_max_7cf53.2.1 ∈ zq_g) (hr : zq_rn d rest = true)
    (kk : zq_G l M d r h' (pc + 3) (ls, .int (if x < y then y else x) :: rest, h)) : zq_G l M d r h' pc (ls, .int y :: .int x :: rest, h) := by
  unfold zq_rn at hr
  simp only [Bool.and_eq_true] at hr
  have hr1 := Nat.le_of_ble_eq_true hr.1
  have hr2 := Nat.le_of_ble_eq_true hr.2
  intro p e s m args below meth c ad D cy A H locs la hX hP hD hS hl
  have hts := hX.2.2.2.2.2.2.1
  obtain ⟨⟨w1, w2, w3, w4⟩, w5⟩ := hw
  exact va_mmax hX.1 hX.2.1 (by rw [hX.2.2.1]; exact hl.1.symm) hX.2.2.2.2.2.1 (hts _ w1) (hts _ w5) (hts _ w2) (hts _ w3) hr1 (by rw [zq_cat_sum]; show _ ≤ 35 * d; omega) (Nat.zero_le _) (Nat.zero_le _) hd (kk p e s m args below meth c ad D cy A H locs la hX hP hD hS hl)
theorem zq_mmaxJ {x y : Int64} (hd : decode M.2.2.1 pc = .ok (.invokestatic idx, 3)) (hw : zq_cv M.1 idx mJ9_max_f86c9 2 ∧ Cond.static mJ9_max_f86c9.2.1 ∈ zq_g) (hr : zq_rn d rest = true)
    (kk : zq_G l M d r h' (pc + 3) (ls, .long (if y < x then x else y) :: rest, h)) : zq_G l M d r h' pc (ls, .long y :: .long x :: rest, h) := by
  unfold zq_rn at hr
  simp only [Bool.and_eq_true] at hr
  have hr1 := Nat.le_of_ble_eq_true hr.1
  have hr2 := Nat.le_of_ble_eq_true hr.2
  intro p e s m args below meth c ad D cy A H locs la hX hP hD hS hl
  have hts := hX.2.2.2.2.2.2.1
  obtain ⟨⟨w1, w2, w3, w4⟩, w5⟩ := hw
  exact va_mmax_long hX.1 hX.2.1 (by rw [hX.2.2.1]; exact hl.1.symm) hX.2.2.2.2.2.1 (hts _ w1) (hts _ w5) (hts _ w2) (hts _ w3) hr1 (by rw [zq_cat_sum]; show _ ≤ 35 * d; omega) (Nat.zero_le _) (Nat.zero_le _) hd (kk p e s m args below meth c ad D cy A H locs la hX hP hD hS hl)
end ZMM
end
section
/-! compares by what the ints are -/
def zq_ci (cc : ClassFile.Cond) (x y : Int) : Prop := match cc with
  | .eq => x = y
  | .ne => ¬ x = y
  | .lt => x < y
  | .ge => y ≤ x
  | .gt => y < x
  | .le => x ≤ y
theorem zq_tt (cc : ClassFile.Cond) (x y : Int32) : zq_cc cc x y ↔ zq_ci cc x.toInt y.toInt := by
  cases cc with
  | eq => exact Int32.toInt_inj.symm
  | ne => exact not_congr Int32.toInt_inj.symm
  | lt => exact Int32.lt_iff_toInt_lt
  | ge => exact Int32.le_iff_toInt_le
  | gt => exact Int32.lt_iff_toInt_lt
  | le => exact Int32.le_iff_toInt_le
theorem zq_tn (cc : ClassFile.Cond) (x : Int32) {n : Nat} (hn : n < 2147483648) : zq_cc cc x (nI n) ↔ zq_ci cc x.toInt n := by
  rw [zq_tt, nI_toInt hn]
theorem zq_nt (cc : ClassFile.Cond) (y : Int32) {n : Nat} (hn : n < 2147483648) : zq_cc cc (nI n) y ↔ zq_ci cc n y.toInt := by
  rw [zq_tt, nI_toInt hn]
def zp2 (P : Nat) : Nat := 2 ^ P
theorem zp2_sh : ∀ P, P < 7 → (1 : Int32) <<< (nI P &&& 31) = nI (zp2 P) := by decide
theorem zp2_lt : ∀ P, P < 7 → zp2 P < 65 := by decide
end
section
/-! plain functions that both sides are tied to -/
def zany (f : Nat → Bool) : Nat → Bool
  | 0 => false
  | n + 1 => zany f n || f n
theorem zany_t {f : Nat → Bool} {n : Nat} : zany f n = true ↔ ∃ i, i < n ∧ f i = true := by
  induction n with
  | zero => simp [zany]
  | succ n ih =>
    rw [zany, Bool.or_eq_true, ih]
    constructor
    · rintro (⟨i, h1, h2⟩ | h)
      · exact ⟨i, by omega, h2⟩
      · exact ⟨n, by omega, h⟩
    · rintro ⟨i, h1, h2⟩
      by_cases e : i = n
      · subst e; exact Or.inr h2
      · exact Or.inl ⟨i, by omega, h2⟩
theorem zany_i {f : Nat → Bool} {n i : Nat} (h : i < n) (hf : f i = true) : zany f n = true := zany_t.mpr ⟨i, h, hf⟩
theorem zany_f {f : Nat → Bool} {n : Nat} (h : ∀ i, i < n → f i = false) : zany f n = false := by
  cases hz : zany f n with
  | false => rfl
  | true =>
    obtain ⟨i, h1, h2⟩ := zany_t.mp hz
    rw [h i h1] at h2; cases h2
theorem zany_n {f : Nat → Bool} {n : Nat} (h : zany f n = false) {i : Nat} (hi : i < n) : f i = false := by
  cases hz : f i with
  | false => rfl
  | true => rw [zany_i hi hz] at h; cases h
theorem zany_c {f g : Nat → Bool} {n : Nat} (h : ∀ i, i < n → f i = g i) : zany f n = zany g n := by
  induction n with
  | zero => rfl
  | succ n ih => rw [zany, zany, ih (fun i hi => h i (by omega)), h n (by omega)]
def orB (f : Nat → Bool) : Nat → Int32
  | 0 => 0
  | n + 1 => if f n = true then orB f n ||| ((1 : Int32) <<< (nI n &&& 31)) else orB f n
theorem orB_t {f : Nat → Bool} {n : Nat} (h : f n = true) : orB f (n + 1) = orB f n ||| ((1 : Int32) <<< (nI n &&& 31)) := by rw [orB, if_pos h]
theorem orB_f {f : Nat → Bool} {n : Nat} (h : f n = false) : orB f (n + 1) = orB f n := by rw [orB, if_neg (by rw [h]; exact Bool.false_ne_true)]
theorem orB_c {f g : Nat → Bool} {n : Nat} (h : ∀ i, i < n → f i = g i) : orB f n = orB g n := by
  induction n with
  | zero => rfl
  | succ n ih => rw [orB, orB, ih (fun i hi => h i (by omega)), h n (by omega)]
def zct (f : Nat → Bool) : Nat → Nat
  | 0 => 0
  | n + 1 => if f n = true then zct f n + 1 else zct f n
theorem zct_t {f : Nat → Bool} {n : Nat} (h : f n = true) : zct f (n + 1) = zct f n + 1 := by rw [zct, if_pos h]
theorem zct_f {f : Nat → Bool} {n : Nat} (h : f n = false) : zct f (n + 1) = zct f n := by rw [zct, if_neg (by rw [h]; exact Bool.false_ne_true)]
theorem zct_le (f : Nat → Bool) (n : Nat) : zct f n ≤ n := by
  induction n with
  | zero => exact Nat.le_refl 0
  | succ n ih => rw [zct]; split <;> omega
theorem zct_c {f g : Nat → Bool} {n : Nat} (h : ∀ i, i < n → f i = g i) : zct f n = zct g n := by
  induction n with
  | zero => rfl
  | succ n ih => rw [zct, zct, ih (fun i hi => h i (by omega)), h n (by omega)]
/-- the last one of which f holds: its v, or -9 -/
def zls (f : Nat → Bool) (v : Nat → Int32) : Nat → Int32
  | 0 => -9
  | n + 1 => if f n = true then v n else zls f v n
theorem zls_t {f : Nat → Bool} {v : Nat → Int32} {n : Nat} (h : f n = true) : zls f v (n + 1) = v n := by rw [zls, if_pos h]
theorem zls_f {f : Nat → Bool} {v : Nat → Int32} {n : Nat} (h : f n = false) : zls f v (n + 1) = zls f v n := by rw [zls, if_neg (by rw [h]; exact Bool.false_ne_true)]
theorem zls_at {f : Nat → Bool} {v : Nat → Int32} {n i : Nat} (hi : i < n) (h : f i = true) (hn : ∀ j, i < j → j < n → f j = false) : zls f v n = v i := by
  induction n with
  | zero => omega
  | succ n ih =>
    by_cases e : i = n
    · subst e; exact zls_t h
    · rw [zls_f (hn n (by omega) (by omega))]
      exact ih (by omega) (fun j h1 h2 => hn j h1 (by omega))
theorem zls_no {f : Nat → Bool} {v : Nat → Int32} {n : Nat} (h : ∀ j, j < n → f j = false) : zls f v n = -9 := by
  induction n with
  | zero => rfl
  | succ n ih => rw [zls_f (h n (by omega))]; exact ih (fun j hj => h j (by omega))
theorem zls_c {f g : Nat → Bool} {u v : Nat → Int32} {n : Nat} (h : ∀ i, i < n → f i = g i ∧ u i = v i) : zls f u n = zls g v n := by
  induction n with
  | zero => rfl
  | succ n ih => rw [zls, zls, ih (fun i hi => h i (by omega)), (h n (by omega)).1, (h n (by omega)).2]
/-- the first one of which f holds: its v, or -9 -/
def zfs (f : Nat → Bool) (v : Nat → Int32) : Nat → Int32
  | 0 => -9
  | n + 1 => if zany f n = true then zfs f v n else if f n = true then v n else -9
theorem zfs_at {f : Nat → Bool} {v : Nat → Int32} {n i : Nat} (hi : i < n) (h : f i = true) (hn : ∀ j, j < i → f j = false) : zfs f v n = v i := by
  induction n with
  | zero => omega
  | succ n ih =>
    by_cases e : i = n
    · subst e
      rw [zfs, zany_f hn, if_neg Bool.false_ne_true, if_pos h]
    · rw [zfs, zany_i (show i < n by omega) h, if_pos rfl]
      exact ih (by omega)
theorem zfs_no {f : Nat → Bool} {v : Nat → Int32} {n : Nat} (h : ∀ j, j < n → f j = false) : zfs f v n = -9 := by
  cases n with
  | zero => rfl
  | succ n => rw [zfs, zany_f (fun j hj => h j (by omega)), if_neg Bool.false_ne_true, h n (by omega), if_neg Bool.false_ne_true]
theorem zfs_c {f g : Nat → Bool} {u v : Nat → Int32} {n : Nat} (h : ∀ i, i < n → f i = g i ∧ u i = v i) : zfs f u n = zfs g v n := by
  induction n with
  | zero => rfl
  | succ n ih => rw [zfs, zfs, ih (fun i hi => h i (by omega)), zany_c (fun i hi => (h i (by omega)).1), (h n (by omega)).1, (h n (by omega)).2]
theorem lt_ext {p : Nat → Prop} {i : Nat} (h : ∀ j, j < i → p j) (hi : p i) : ∀ j, j < i + 1 → p j := fun j hj => by
  by_cases e : j = i
  · subst e; exact hi
  · exact h j (by omega)
def zi (z : Int) : Int32 := Int32.ofInt z
theorem zi_toInt {z : Int} (h1 : -2147483648 ≤ z) (h2 : z < 2147483648) : (zi z).toInt = z := by
  unfold zi
  rw [Int32.toInt_ofInt]
  have e : (Int32.size : Int) = 4294967296 := rfl
  exact Int.bmod_eq_of_le (by omega) (by omega)
theorem zi_nat {z : Int} {n : Nat} (h : z = n) : zi z = nI n := by
  subst h
  unfold zi nI
  exact Int32.ofInt_eq_ofNat
theorem zi_add (a b : Int) : zi a + Int32.ofInt b = zi (a + b) := by
  unfold zi
  exact (Int32.ofInt_add a b).symm
theorem zi_sub (a b : Nat) : nI a - nI b = zi ((a : Int) - b) := by
  rw [← zi_nat (z := (a : Int)) rfl, ← zi_nat (z := (b : Int)) rfl]
  unfold zi
  exact (Int32.ofInt_sub a b).symm
theorem zi_lt0 {z : Int} (h1 : -2147483648 ≤ z) (h2 : z < 2147483648) : zq_cc .lt (zi z) 0 ↔ z < 0 := by
  show zi z < 0 ↔ _
  rw [Int32.lt_iff_toInt_lt, zi_toInt h1 h2]; exact Iff.rfl
theorem zi_ge {z : Int} {n : Nat} (h1 : -2147483648 ≤ z) (h2 : z < 2147483648) (hn : n < 2147483648) : zq_cc .ge (zi z) (nI n) ↔ (n : Int) ≤ z := by
  show nI n ≤ zi z ↔ _
  rw [Int32.le_iff_toInt_le, zi_toInt h1 h2, nI_toInt hn]
theorem zi_self (x : Int32) : zi x.toInt = x := Int32.ofInt_toInt x
theorem zi_in (x : Int32) : -2147483648 ≤ x.toInt ∧ x.toInt < 2147483648 := ⟨Int32.le_toInt x, Int32.toInt_lt x⟩
def zbit (x p : Int32) : Int32 := x >>> (p &&& 31) &&& 1
def zcm (mv : Int32) (wc : Nat) (cn : Nat → Nat) (q : Nat) : Nat := if nI q = mv then wc else cn q
def smk (sm : Int32) (k : Nat) : Bool := zany (fun i => decide (zbit sm (zi ((k : Int) - 5 * (i : Int))) = 1)) (k / 5 + 1)
def aheadB (a b : Nat) : Bool := decide (a < b) && decide (a % 5 = b % 5)
def bareB (P : Nat) (hs : Nat → Int32) (sm : Int32) (cc : Nat → Nat) (p : Nat) : Bool := decide (cc p < 25) && !smk sm (cc p) && !zany (fun q => decide (hs p ≤ hs q) && aheadB (cc q) (cc p)) P
def zkept (ke : Nat → Int32) (D : Nat) (z : Int) : Int32 := if 0 ≤ z ∧ z < D then ke z.toNat else 0
end
section
section XV1
variable {l : Launch} {tx : Nat → Int32} {n : Int32} {t dr : zT} {rd : zR} {w i0 i1 : zN} {kp : Nat → Int32} {dd : Int32} {tr : Int64} {m : Nat → zq_C} {h : zq_H}
variable {P C R L D N K Z : Nat} {hs ss cs gs vs ce de ke se : Nat → Int32} {sm : Int32} {cn ga va : Nat → Nat}
theorem zi_step (k i : Nat) : zi ((k : Int) - 5 * (i : Int)) + Int32.ofInt (-5) = zi ((k : Int) - 5 * ((i + 1 : Nat) : Int)) := by
  rw [zi_add]
  congr 1
  omega
theorem zi_dn (k i : Nat) : zi ((k : Int) - 1 - (i : Int)) + Int32.ofInt (-1) = zi ((k : Int) - 1 - ((i + 1 : Nat) : Int)) := by
  rw [zi_add]
  congr 1
  omega
theorem zcm_t {mv : Int32} {wc q : Nat} {cn : Nat → Nat} (h : nI q = mv) : zcm mv wc cn q = wc := by unfold zcm; rw [if_pos h]
theorem zcm_f {mv : Int32} {wc q : Nat} {cn : Nat → Nat} (h : ¬ nI q = mv) : zcm mv wc cn q = cn q := by unfold zcm; rw [if_neg h]
set_option maxHeartbeats 4000000 in
set_option maxRecDepth 100000 in
theorem c_bit {x : Int32} {p : Int32}  : zq_P l mX11_bit 0 [.int x, .int p] (h) (some (.int (zbit x p))) (h) := by
  refine zq_start (by decide +kernel) rfl (Nat.le_of_ble_eq_true rfl) ?_
  show zq_G _ _ _ _ _ 0 ([(0, .int x), (1, .int p)], [], h)
  refine zq_b [zq_il 0, zq_il 1, zq_ishr (x >>> (p &&& 31)), zq_k 1, zq_iand ((x >>> (p &&& 31)) &&& 1)] [zq_ilchk 0, zq_ilchk 1, zq_is .ishr 1, zq_kchk 1, zq_is .iand 1] 5 rfl (by decide +kernel) ?_
  refine ⟨rfl, rfl, ?_⟩
  show zq_G _ _ _ _ _ 5 ([(0, .int x), (1, .int p)], [.int ((x >>> (p &&& 31)) &&& 1)], h)
  exact zq_iret (by decide +kernel) rfl rfl rfl
set_option maxHeartbeats 4000000 in
set_option maxRecDepth 100000 in
theorem c_isInSquare {a : Nat} (ha : a < 100) : zq_P l mX11_isInSquare 0 [.int (nI a)] (h) (some (.int (zb (a < 25)))) (h) := by
  refine zq_start (by decide +kernel) rfl (Nat.le_of_ble_eq_true rfl) ?_
  show zq_G _ _ _ _ _ 0 ([(0, .int (nI a))], [], h)
  refine zq_b [zq_il 0] [zq_ilchk 0] 1 rfl (by decide +kernel) ?_
  show zq_G _ _ _ _ _ 1 ([(0, .int (nI a))], [.int (nI a)], h)
  refine zq_ifz .lt 14 (a < 0) (by decide +kernel) (zq_clt (a := a) (b := 0) (by omega) (by omega)) (fun c1 => absurd c1 (by omega)) (fun c1 => ?_)
  show zq_G _ _ _ _ _ 4 ([(0, .int (nI a))], [], h)
  refine zq_b [zq_il 0, zq_k 25] [zq_ilchk 0, zq_kchk 25] 7 rfl (by decide +kernel) ?_
  show zq_G _ _ _ _ _ 7 ([(0, .int (nI a))], [.int 25, .int (nI a)], h)
  refine zq_if .ge 14 (25 ≤ a) (by decide +kernel) (zq_cge (a := a) (b := 25) (by omega) (by omega)) (fun c7 => ?_) (fun c7 => ?_)
  · show zq_G _ _ _ _ _ 14 ([(0, .int (nI a))], [], h)
    refine zq_b [zq_k 0] [zq_kchk 0] 15 rfl (by decide +kernel) ?_
    show zq_G _ _ _ _ _ 15 ([(0, .int (nI a))], [.int 0], h)
    exact zq_zret (by decide +kernel) rfl (Or.inl rfl) (zb_r (zb_f (by omega))) rfl
  · show zq_G _ _ _ _ _ 10 ([(0, .int (nI a))], [], h)
    refine zq_b [zq_k 1, zq_go] [zq_kchk 1, zq_gochk] 15 rfl (by decide +kernel) ?_
    show zq_G _ _ _ _ _ 15 ([(0, .int (nI a))], [.int 1], h)
    exact zq_zret (by decide +kernel) rfl (Or.inr rfl) (zb_r (zb_t (by omega))) rfl
set_option maxHeartbeats 4000000 in
set_option maxRecDepth 100000 in
theorem c_hasPerson {p : Int32}  : zq_P l mX9_hasPerson 0 [.ref 2, .int p] (XH tx n (nI P, nI C, nI R, nI L, hs, ss, cs, gs, vs) dr rd (nI D, sm, nI N, nI K, ce, de, ke, se) i0 i1 kp dd tr m) (some (.int (zb (¬ p < 0 ∧ p < (nI P))))) (XH tx n (nI P, nI C, nI R, nI L, hs, ss, cs, gs, vs) dr rd (nI D, sm, nI N, nI K, ce, de, ke, se) i0 i1 kp dd tr m) := by
  refine zq_start (by decide +kernel) rfl (Nat.le_of_ble_eq_true rfl) ?_
  show zq_G _ _ _ _ _ 0 ([(0, .ref 2), (1, .int p)], [], XH tx n (nI P, nI C, nI R, nI L, hs, ss, cs, gs, vs) dr rd (nI D, sm, nI N, nI K, ce, de, ke, se) i0 i1 kp dd tr m)
  refine zq_b [zq_il 1] [zq_ilchk 1] 1 rfl (by decide +kernel) ?_
  show zq_G _ _ _ _ _ 1 ([(0, .ref 2), (1, .int p)], [.int p], XH tx n (nI P, nI C, nI R, nI L, hs, ss, cs, gs, vs) dr rd (nI D, sm, nI N, nI K, ce, de, ke, se) i0 i1 kp dd tr m)
  refine zq_ifz .lt 16 (p < 0) (by decide +kernel) (Iff.rfl) (fun c1 => ?_) (fun c1 => ?_)
  · show zq_G _ _ _ _ _ 16 ([(0, .ref 2), (1, .int p)], [], XH tx n (nI P, nI C, nI R, nI L, hs, ss, cs, gs, vs) dr rd (nI D, sm, nI N, nI K, ce, de, ke, se) i0 i1 kp dd tr m)
    refine zq_b [zq_k 0] [zq_kchk 0] 17 rfl (by decide +kernel) ?_
    show zq_G _ _ _ _ _ 17 ([(0, .ref 2), (1, .int p)], [.int 0], XH tx n (nI P, nI C, nI R, nI L, hs, ss, cs, gs, vs) dr rd (nI D, sm, nI N, nI K, ce, de, ke, se) i0 i1 kp dd tr m)
    exact zq_zret (by decide +kernel) rfl (Or.inl rfl) (zb_r (zb_f (by simp_all))) rfl
  · show zq_G _ _ _ _ _ 4 ([(0, .ref 2), (1, .int p)], [], XH tx n (nI P, nI C, nI R, nI L, hs, ss, cs, gs, vs) dr rd (nI D, sm, nI N, nI K, ce, de, ke, se) i0 i1 kp dd tr m)
    refine zq_b [zq_il 1, zq_al 0, zq_get 9 0] [zq_ilchk 1, zq_alchk 0, zq_getchk 9 0] 9 rfl (by decide +kernel) ?_
    show zq_G _ _ _ _ _ 9 ([(0, .ref 2), (1, .int p)], [.int (nI P), .int p], XH tx n (nI P, nI C, nI R, nI L, hs, ss, cs, gs, vs) dr rd (nI D, sm, nI N, nI K, ce, de, ke, se) i0 i1 kp dd tr m)
    refine zq_if .ge 16 ((nI P) ≤ p) (by decide +kernel) (Iff.rfl) (fun c9 => ?_) (fun c9 => ?_)
    · show zq_G _ _ _ _ _ 16 ([(0, .ref 2), (1, .int p)], [], XH tx n (nI P, nI C, nI R, nI L, hs, ss, cs, gs, vs) dr rd (nI D, sm, nI N, nI K, ce, de, ke, se) i0 i1 kp dd tr m)
      refine zq_b [zq_k 0] [zq_kchk 0] 17 rfl (by decide +kernel) ?_
      show zq_G _ _ _ _ _ 17 ([(0, .ref 2), (1, .int p)], [.int 0], XH tx n (nI P, nI C, nI R, nI L, hs, ss, cs, gs, vs) dr rd (nI D, sm, nI N, nI K, ce, de, ke, se) i0 i1 kp dd tr m)
      exact zq_zret (by decide +kernel) rfl (Or.inl rfl) (zb_r (zb_f (by simp_all))) rfl
    · show zq_G _ _ _ _ _ 12 ([(0, .ref 2), (1, .int p)], [], XH tx n (nI P, nI C, nI R, nI L, hs, ss, cs, gs, vs) dr rd (nI D, sm, nI N, nI K, ce, de, ke, se) i0 i1 kp dd tr m)
      refine zq_b [zq_k 1, zq_go] [zq_kchk 1, zq_gochk] 17 rfl (by decide +kernel) ?_
      show zq_G _ _ _ _ _ 17 ([(0, .ref 2), (1, .int p)], [.int 1], XH tx n (nI P, nI C, nI R, nI L, hs, ss, cs, gs, vs) dr rd (nI D, sm, nI N, nI K, ce, de, ke, se) i0 i1 kp dd tr m)
      exact zq_zret (by decide +kernel) rfl (Or.inr rfl) (zb_r (zb_t (by simp_all))) rfl
set_option maxHeartbeats 4000000 in
set_option maxRecDepth 100000 in
theorem c_areBits {b : Int32}  : zq_P l mX9_areBits 0 [.ref 2, .int b] (XH tx n (nI P, nI C, nI R, nI L, hs, ss, cs, gs, vs) dr rd (nI D, sm, nI N, nI K, ce, de, ke, se) i0 i1 kp dd tr m) (some (.int (zb (¬ b < 0 ∧ b < (1 : Int32) <<< (nI P &&& 31))))) (XH tx n (nI P, nI C, nI R, nI L, hs, ss, cs, gs, vs) dr rd (nI D, sm, nI N, nI K, ce, de, ke, se) i0 i1 kp dd tr m) := by
  refine zq_start (by decide +kernel) rfl (Nat.le_of_ble_eq_true rfl) ?_
  show zq_G _ _ _ _ _ 0 ([(0, .ref 2), (1, .int b)], [], XH tx n (nI P, nI C, nI R, nI L, hs, ss, cs, gs, vs) dr rd (nI D, sm, nI N, nI K, ce, de, ke, se) i0 i1 kp dd tr m)
  refine zq_b [zq_il 1] [zq_ilchk 1] 1 rfl (by decide +kernel) ?_
  show zq_G _ _ _ _ _ 1 ([(0, .ref 2), (1, .int b)], [.int b], XH tx n (nI P, nI C, nI R, nI L, hs, ss, cs, gs, vs) dr rd (nI D, sm, nI N, nI K, ce, de, ke, se) i0 i1 kp dd tr m)
  refine zq_ifz .lt 18 (b < 0) (by decide +kernel) (Iff.rfl) (fun c1 => ?_) (fun c1 => ?_)
  · show zq_G _ _ _ _ _ 18 ([(0, .ref 2), (1, .int b)], [], XH tx n (nI P, nI C, nI R, nI L, hs, ss, cs, gs, vs) dr rd (nI D, sm, nI N, nI K, ce, de, ke, se) i0 i1 kp dd tr m)
    refine zq_b [zq_k 0] [zq_kchk 0] 19 rfl (by decide +kernel) ?_
    show zq_G _ _ _ _ _ 19 ([(0, .ref 2), (1, .int b)], [.int 0], XH tx n (nI P, nI C, nI R, nI L, hs, ss, cs, gs, vs) dr rd (nI D, sm, nI N, nI K, ce, de, ke, se) i0 i1 kp dd tr m)
    exact zq_zret (by decide +kernel) rfl (Or.inl rfl) (zb_r (zb_f (by simp_all))) rfl
  · show zq_G _ _ _ _ _ 4 ([(0, .ref 2), (1, .int b)], [], XH tx n (nI P, nI C, nI R, nI L, hs, ss, cs, gs, vs) dr rd (nI D, sm, nI N, nI K, ce, de, ke, se) i0 i1 kp dd tr m)
    refine zq_b [zq_il 1, zq_k 1, zq_al 0, zq_get 9 0, zq_ishl (1 <<< (nI P &&& 31))] [zq_ilchk 1, zq_kchk 1, zq_alchk 0, zq_getchk 9 0, zq_is .ishl 1] 11 rfl (by decide +kernel) ?_
    refine ⟨rfl, ?_⟩
    show zq_G _ _ _ _ _ 11 ([(0, .ref 2), (1, .int b)], [.int (1 <<< (nI P &&& 31)), .int b], XH tx n (nI P, nI C, nI R, nI L, hs, ss, cs, gs, vs) dr rd (nI D, sm, nI N, nI K, ce, de, ke, se) i0 i1 kp dd tr m)
    refine zq_if .ge 18 ((1 <<< (nI P &&& 31)) ≤ b) (by decide +kernel) (Iff.rfl) (fun c11 => ?_) (fun c11 => ?_)
    · show zq_G _ _ _ _ _ 18 ([(0, .ref 2), (1, .int b)], [], XH tx n (nI P, nI C, nI R, nI L, hs, ss, cs, gs, vs) dr rd (nI D, sm, nI N, nI K, ce, de, ke, se) i0 i1 kp dd tr m)
      refine zq_b [zq_k 0] [zq_kchk 0] 19 rfl (by decide +kernel) ?_
      show zq_G _ _ _ _ _ 19 ([(0, .ref 2), (1, .int b)], [.int 0], XH tx n (nI P, nI C, nI R, nI L, hs, ss, cs, gs, vs) dr rd (nI D, sm, nI N, nI K, ce, de, ke, se) i0 i1 kp dd tr m)
      exact zq_zret (by decide +kernel) rfl (Or.inl rfl) (zb_r (zb_f (by simp_all))) rfl
    · show zq_G _ _ _ _ _ 14 ([(0, .ref 2), (1, .int b)], [], XH tx n (nI P, nI C, nI R, nI L, hs, ss, cs, gs, vs) dr rd (nI D, sm, nI N, nI K, ce, de, ke, se) i0 i1 kp dd tr m)
      refine zq_b [zq_k 1, zq_go] [zq_kchk 1, zq_gochk] 19 rfl (by decide +kernel) ?_
      show zq_G _ _ _ _ _ 19 ([(0, .ref 2), (1, .int b)], [.int 1], XH tx n (nI P, nI C, nI R, nI L, hs, ss, cs, gs, vs) dr rd (nI D, sm, nI N, nI K, ce, de, ke, se) i0 i1 kp dd tr m)
      exact zq_zret (by decide +kernel) rfl (Or.inr rfl) (zb_r (zb_t (by simp_all))) rfl
set_option maxHeartbeats 4000000 in
set_option maxRecDepth 100000 in
theorem c_hasCloud {day : Int32} (hC : C ≤ 8) : zq_P l mX9_hasCloud 0 [.ref 2, .int day] (XH tx n (nI P, nI C, nI R, nI L, hs, ss, cs, gs, vs) dr rd (nI D, sm, nI N, nI K, ce, de, ke, se) i0 i1 kp dd tr m) (some (.int (zb (zany (fun i => decide (cs i = day)) C = true)))) (XH tx n (nI P, nI C, nI R, nI L, hs, ss, cs, gs, vs) dr rd (nI D, sm, nI N, nI K, ce, de, ke, se) i0 i1 kp dd tr m) := by
  refine zq_start (by decide +kernel) rfl (Nat.le_of_ble_eq_true rfl) ?_
  show zq_G _ _ _ _ _ 0 ([(0, .ref 2), (1, .int day)], [], XH tx n (nI P, nI C, nI R, nI L, hs, ss, cs, gs, vs) dr rd (nI D, sm, nI N, nI K, ce, de, ke, se) i0 i1 kp dd tr m)
  refine zq_b [zq_k 0, zq_is1 2] [zq_kchk 0, zq_is1chk 2] 2 rfl (by decide +kernel) ?_
  show zq_G _ _ _ _ _ 2 ([(0, .ref 2), (1, .int day), (2, .int 0)], [], XH tx n (nI P, nI C, nI R, nI L, hs, ss, cs, gs, vs) dr rd (nI D, sm, nI N, nI K, ce, de, ke, se) i0 i1 kp dd tr m)
  refine zq_loop (fun i => ([(0, .ref 2), (1, .int day), (2, .int (nI i))], [], XH tx n (nI P, nI C, nI R, nI L, hs, ss, cs, gs, vs) dr rd (nI D, sm, nI N, nI K, ce, de, ke, se) i0 i1 kp dd tr m)) (fun i => ∀ j, j < i → decide (cs j = day) = false) (C) (0) (by omega) ((fun j hj => absurd hj (by omega))) (fun i hl2 hi2 hI2 ih2 => ?_) (fun hI2 => ?_)
  · show zq_G _ _ _ _ _ 2 ([(0, .ref 2), (1, .int day), (2, .int (nI i))], [], XH tx n (nI P, nI C, nI R, nI L, hs, ss, cs, gs, vs) dr rd (nI D, sm, nI N, nI K, ce, de, ke, se) i0 i1 kp dd tr m)
    refine zq_b [zq_il 2, zq_al 0, zq_get 9 1] [zq_ilchk 2, zq_alchk 0, zq_getchk 9 1] 7 rfl (by decide +kernel) ?_
    show zq_G _ _ _ _ _ 7 ([(0, .ref 2), (1, .int day), (2, .int (nI i))], [.int (nI C), .int (nI i)], XH tx n (nI P, nI C, nI R, nI L, hs, ss, cs, gs, vs) dr rd (nI D, sm, nI N, nI K, ce, de, ke, se) i0 i1 kp dd tr m)
    refine zq_if .ge 28 (C ≤ i) (by decide +kernel) (zq_cge (a := i) (b := C) (by omega) (by omega)) (fun c7 => absurd c7 (by omega)) (fun c7 => ?_)
    show zq_G _ _ _ _ _ 10 ([(0, .ref 2), (1, .int day), (2, .int (nI i))], [], XH tx n (nI P, nI C, nI R, nI L, hs, ss, cs, gs, vs) dr rd (nI D, sm, nI N, nI K, ce, de, ke, se) i0 i1 kp dd tr m)
    refine zq_b [zq_al 0, zq_get 9 6, zq_il 2, zq_iald i (cs i), zq_il 1] [zq_alchk 0, zq_getchk 9 6, zq_ilchk 2, zq_is .iaload 1, zq_ilchk 1] 17 rfl (by decide +kernel) ?_
    refine ⟨rfl, (by omega), (by omega), rfl, ?_⟩
    show zq_G _ _ _ _ _ 17 ([(0, .ref 2), (1, .int day), (2, .int (nI i))], [.int day, .int (cs i)], XH tx n (nI P, nI C, nI R, nI L, hs, ss, cs, gs, vs) dr rd (nI D, sm, nI N, nI K, ce, de, ke, se) i0 i1 kp dd tr m)
    refine zq_if .ne 22 (¬ (cs i) = day) (by decide +kernel) (Iff.rfl) (fun c17 => ?_) (fun c17 => ?_)
    · show zq_G _ _ _ _ _ 22 ([(0, .ref 2), (1, .int day), (2, .int (nI i))], [], XH tx n (nI P, nI C, nI R, nI L, hs, ss, cs, gs, vs) dr rd (nI D, sm, nI N, nI K, ce, de, ke, se) i0 i1 kp dd tr m)
      refine zq_b [zq_inc 2 1 (nI (i + 1)), zq_go] [zq_incchk 2 1, zq_gochk] 2 rfl (by decide +kernel) ?_
      refine ⟨nI_add i 1, ?_⟩
      show zq_G _ _ _ _ _ 2 ([(0, .ref 2), (1, .int day), (2, .int (nI (i + 1)))], [], XH tx n (nI P, nI C, nI R, nI L, hs, ss, cs, gs, vs) dr rd (nI D, sm, nI N, nI K, ce, de, ke, se) i0 i1 kp dd tr m)
      exact ih2 (lt_ext hI2 (decide_eq_false c17))
    · show zq_G _ _ _ _ _ 20 ([(0, .ref 2), (1, .int day), (2, .int (nI i))], [], XH tx n (nI P, nI C, nI R, nI L, hs, ss, cs, gs, vs) dr rd (nI D, sm, nI N, nI K, ce, de, ke, se) i0 i1 kp dd tr m)
      refine zq_b [zq_k 1] [zq_kchk 1] 21 rfl (by decide +kernel) ?_
      show zq_G _ _ _ _ _ 21 ([(0, .ref 2), (1, .int day), (2, .int (nI i))], [.int 1], XH tx n (nI P, nI C, nI R, nI L, hs, ss, cs, gs, vs) dr rd (nI D, sm, nI N, nI K, ce, de, ke, se) i0 i1 kp dd tr m)
      exact zq_zret (by decide +kernel) rfl (Or.inr rfl) (zb_r (zb_t (zany_i hi2 (by simpa using c17)))) rfl
  · show zq_G _ _ _ _ _ 2 ([(0, .ref 2), (1, .int day), (2, .int (nI C))], [], XH tx n (nI P, nI C, nI R, nI L, hs, ss, cs, gs, vs) dr rd (nI D, sm, nI N, nI K, ce, de, ke, se) i0 i1 kp dd tr m)
    refine zq_b [zq_il 2, zq_al 0, zq_get 9 1] [zq_ilchk 2, zq_alchk 0, zq_getchk 9 1] 7 rfl (by decide +kernel) ?_
    show zq_G _ _ _ _ _ 7 ([(0, .ref 2), (1, .int day), (2, .int (nI C))], [.int (nI C), .int (nI C)], XH tx n (nI P, nI C, nI R, nI L, hs, ss, cs, gs, vs) dr rd (nI D, sm, nI N, nI K, ce, de, ke, se) i0 i1 kp dd tr m)
    refine zq_if .ge 28 (C ≤ C) (by decide +kernel) (zq_cge (a := C) (b := C) (by omega) (by omega)) (fun c7 => ?_) (fun c7 => absurd (by omega) c7)
    show zq_G _ _ _ _ _ 28 ([(0, .ref 2), (1, .int day), (2, .int (nI C))], [], XH tx n (nI P, nI C, nI R, nI L, hs, ss, cs, gs, vs) dr rd (nI D, sm, nI N, nI K, ce, de, ke, se) i0 i1 kp dd tr m)
    refine zq_b [zq_k 0] [zq_kchk 0] 29 rfl (by decide +kernel) ?_
    show zq_G _ _ _ _ _ 29 ([(0, .ref 2), (1, .int day), (2, .int (nI C))], [.int 0], XH tx n (nI P, nI C, nI R, nI L, hs, ss, cs, gs, vs) dr rd (nI D, sm, nI N, nI K, ce, de, ke, se) i0 i1 kp dd tr m)
    exact zq_zret (by decide +kernel) rfl (Or.inl rfl) (zb_r (zb_f (by rw [zany_f hI2]; exact Bool.false_ne_true))) rfl
set_option maxHeartbeats 4000000 in
set_option maxRecDepth 100000 in
theorem c_ofHeight {x : Int32} (hP : P ≤ 6) : zq_P l mX9_ofHeight 0 [.ref 2, .int x] (XH tx n (nI P, nI C, nI R, nI L, hs, ss, cs, gs, vs) dr rd (nI D, sm, nI N, nI K, ce, de, ke, se) i0 i1 kp dd tr m) (some (.int (orB (fun p => decide (hs p = x)) P))) (XH tx n (nI P, nI C, nI R, nI L, hs, ss, cs, gs, vs) dr rd (nI D, sm, nI N, nI K, ce, de, ke, se) i0 i1 kp dd tr m) := by
  refine zq_start (by decide +kernel) rfl (Nat.le_of_ble_eq_true rfl) ?_
  show zq_G _ _ _ _ _ 0 ([(0, .ref 2), (1, .int x)], [], XH tx n (nI P, nI C, nI R, nI L, hs, ss, cs, gs, vs) dr rd (nI D, sm, nI N, nI K, ce, de, ke, se) i0 i1 kp dd tr m)
  refine zq_b [zq_k 0, zq_is1 2, zq_k 0, zq_is1 3] [zq_kchk 0, zq_is1chk 2, zq_kchk 0, zq_is1chk 3] 4 rfl (by decide +kernel) ?_
  show zq_G _ _ _ _ _ 4 ([(0, .ref 2), (1, .int x), (2, .int 0), (3, .int 0)], [], XH tx n (nI P, nI C, nI R, nI L, hs, ss, cs, gs, vs) dr rd (nI D, sm, nI N, nI K, ce, de, ke, se) i0 i1 kp dd tr m)
  refine zq_loop (fun i => ([(0, .ref 2), (1, .int x), (2, .int (orB (fun p => decide (hs p = x)) i)), (3, .int (nI i))], [], XH tx n (nI P, nI C, nI R, nI L, hs, ss, cs, gs, vs) dr rd (nI D, sm, nI N, nI K, ce, de, ke, se) i0 i1 kp dd tr m)) (fun i => True) (P) (0) (by omega) (trivial) (fun i hl4 hi4 hI4 ih4 => ?_) (fun hI4 => ?_)
  · show zq_G _ _ _ _ _ 4 ([(0, .ref 2), (1, .int x), (2, .int (orB (fun p => decide (hs p = x)) i)), (3, .int (nI i))], [], XH tx n (nI P, nI C, nI R, nI L, hs, ss, cs, gs, vs) dr rd (nI D, sm, nI N, nI K, ce, de, ke, se) i0 i1 kp dd tr m)
    refine zq_b [zq_il 3, zq_al 0, zq_get 9 0] [zq_ilchk 3, zq_alchk 0, zq_getchk 9 0] 9 rfl (by decide +kernel) ?_
    show zq_G _ _ _ _ _ 9 ([(0, .ref 2), (1, .int x), (2, .int (orB (fun p => decide (hs p = x)) i)), (3, .int (nI i))], [.int (nI P), .int (nI i)], XH tx n (nI P, nI C, nI R, nI L, hs, ss, cs, gs, vs) dr rd (nI D, sm, nI N, nI K, ce, de, ke, se) i0 i1 kp dd tr m)
    refine zq_if .ge 34 (P ≤ i) (by decide +kernel) (zq_cge (a := i) (b := P) (by omega) (by omega)) (fun c9 => absurd c9 (by omega)) (fun c9 => ?_)
    show zq_G _ _ _ _ _ 12 ([(0, .ref 2), (1, .int x), (2, .int (orB (fun p => decide (hs p = x)) i)), (3, .int (nI i))], [], XH tx n (nI P, nI C, nI R, nI L, hs, ss, cs, gs, vs) dr rd (nI D, sm, nI N, nI K, ce, de, ke, se) i0 i1 kp dd tr m)
    refine zq_b [zq_al 0, zq_get 9 4, zq_il 3, zq_iald i (hs i), zq_il 1] [zq_alchk 0, zq_getchk 9 4, zq_ilchk 3, zq_is .iaload 1, zq_ilchk 1] 19 rfl (by decide +kernel) ?_
    refine ⟨rfl, (by omega), (by omega), rfl, ?_⟩
    show zq_G _ _ _ _ _ 19 ([(0, .ref 2), (1, .int x), (2, .int (orB (fun p => decide (hs p = x)) i)), (3, .int (nI i))], [.int x, .int (hs i)], XH tx n (nI P, nI C, nI R, nI L, hs, ss, cs, gs, vs) dr rd (nI D, sm, nI N, nI K, ce, de, ke, se) i0 i1 kp dd tr m)
    refine zq_if .ne 28 (¬ (hs i) = x) (by decide +kernel) (Iff.rfl) (fun c19 => ?_) (fun c19 => ?_)
    · show zq_G _ _ _ _ _ 28 ([(0, .ref 2), (1, .int x), (2, .int (orB (fun p => decide (hs p = x)) i)), (3, .int (nI i))], [], XH tx n (nI P, nI C, nI R, nI L, hs, ss, cs, gs, vs) dr rd (nI D, sm, nI N, nI K, ce, de, ke, se) i0 i1 kp dd tr m)
      refine zq_b [zq_inc 3 1 (nI (i + 1)), zq_go] [zq_incchk 3 1, zq_gochk] 4 rfl (by decide +kernel) ?_
      refine ⟨nI_add i 1, ?_⟩
      show zq_G _ _ _ _ _ 4 ([(0, .ref 2), (1, .int x), (2, .int (orB (fun p => decide (hs p = x)) i)), (3, .int (nI (i + 1)))], [], XH tx n (nI P, nI C, nI R, nI L, hs, ss, cs, gs, vs) dr rd (nI D, sm, nI N, nI K, ce, de, ke, se) i0 i1 kp dd tr m)
      exact zq_eq (by rw [orB_f (by simp_all)]) (ih4 trivial)
    · show zq_G _ _ _ _ _ 22 ([(0, .ref 2), (1, .int x), (2, .int (orB (fun p => decide (hs p = x)) i)), (3, .int (nI i))], [], XH tx n (nI P, nI C, nI R, nI L, hs, ss, cs, gs, vs) dr rd (nI D, sm, nI N, nI K, ce, de, ke, se) i0 i1 kp dd tr m)
      refine zq_b [zq_il 2, zq_k 1, zq_il 3, zq_ishl (1 <<< (nI i &&& 31)), zq_ior ((orB (fun p => decide (hs p = x)) i) ||| (1 <<< (nI i &&& 31))), zq_is1 2, zq_inc 3 1 (nI (i + 1)), zq_go] [zq_ilchk 2, zq_kchk 1, zq_ilchk 3, zq_is .ishl 1, zq_is .ior 1, zq_is1chk 2, zq_incchk 3 1, zq_gochk] 4 rfl (by decide +kernel) ?_
      refine ⟨rfl, rfl, nI_add i 1, ?_⟩
      show zq_G _ _ _ _ _ 4 ([(0, .ref 2), (1, .int x), (2, .int ((orB (fun p => decide (hs p = x)) i) ||| (1 <<< (nI i &&& 31)))), (3, .int (nI (i + 1)))], [], XH tx n (nI P, nI C, nI R, nI L, hs, ss, cs, gs, vs) dr rd (nI D, sm, nI N, nI K, ce, de, ke, se) i0 i1 kp dd tr m)
      exact zq_eq (by rw [orB_t (by simp_all)]) (ih4 trivial)
  · show zq_G _ _ _ _ _ 4 ([(0, .ref 2), (1, .int x), (2, .int (orB (fun p => decide (hs p = x)) P)), (3, .int (nI P))], [], XH tx n (nI P, nI C, nI R, nI L, hs, ss, cs, gs, vs) dr rd (nI D, sm, nI N, nI K, ce, de, ke, se) i0 i1 kp dd tr m)
    refine zq_b [zq_il 3, zq_al 0, zq_get 9 0] [zq_ilchk 3, zq_alchk 0, zq_getchk 9 0] 9 rfl (by decide +kernel) ?_
    show zq_G _ _ _ _ _ 9 ([(0, .ref 2), (1, .int x), (2, .int (orB (fun p => decide (hs p = x)) P)), (3, .int (nI P))], [.int (nI P), .int (nI P)], XH tx n (nI P, nI C, nI R, nI L, hs, ss, cs, gs, vs) dr rd (nI D, sm, nI N, nI K, ce, de, ke, se) i0 i1 kp dd tr m)
    refine zq_if .ge 34 (P ≤ P) (by decide +kernel) (zq_cge (a := P) (b := P) (by omega) (by omega)) (fun c9 => ?_) (fun c9 => absurd (by omega) c9)
    show zq_G _ _ _ _ _ 34 ([(0, .ref 2), (1, .int x), (2, .int (orB (fun p => decide (hs p = x)) P)), (3, .int (nI P))], [], XH tx n (nI P, nI C, nI R, nI L, hs, ss, cs, gs, vs) dr rd (nI D, sm, nI N, nI K, ce, de, ke, se) i0 i1 kp dd tr m)
    refine zq_b [zq_il 2] [zq_ilchk 2] 35 rfl (by decide +kernel) ?_
    show zq_G _ _ _ _ _ 35 ([(0, .ref 2), (1, .int x), (2, .int (orB (fun p => decide (hs p = x)) P)), (3, .int (nI P))], [.int (orB (fun p => decide (hs p = x)) P)], XH tx n (nI P, nI C, nI R, nI L, hs, ss, cs, gs, vs) dr rd (nI D, sm, nI N, nI K, ce, de, ke, se) i0 i1 kp dd tr m)
    exact zq_iret (by decide +kernel) rfl rfl rfl
set_option maxHeartbeats 4000000 in
set_option maxRecDepth 100000 in
theorem c_hasDeed {i : Int32}  : zq_P l mX5_hasDeed 0 [.ref 15, .int i] (XH tx n (nI P, nI C, nI R, nI L, hs, ss, cs, gs, vs) dr rd (nI D, sm, nI N, nI K, ce, de, ke, se) i0 i1 kp dd tr m) (some (.int (zb (¬ i < 0 ∧ i < (nI N))))) (XH tx n (nI P, nI C, nI R, nI L, hs, ss, cs, gs, vs) dr rd (nI D, sm, nI N, nI K, ce, de, ke, se) i0 i1 kp dd tr m) := by
  refine zq_start (by decide +kernel) rfl (Nat.le_of_ble_eq_true rfl) ?_
  show zq_G _ _ _ _ _ 0 ([(0, .ref 15), (1, .int i)], [], XH tx n (nI P, nI C, nI R, nI L, hs, ss, cs, gs, vs) dr rd (nI D, sm, nI N, nI K, ce, de, ke, se) i0 i1 kp dd tr m)
  refine zq_b [zq_il 1] [zq_ilchk 1] 1 rfl (by decide +kernel) ?_
  show zq_G _ _ _ _ _ 1 ([(0, .ref 15), (1, .int i)], [.int i], XH tx n (nI P, nI C, nI R, nI L, hs, ss, cs, gs, vs) dr rd (nI D, sm, nI N, nI K, ce, de, ke, se) i0 i1 kp dd tr m)
  refine zq_ifz .lt 16 (i < 0) (by decide +kernel) (Iff.rfl) (fun c1 => ?_) (fun c1 => ?_)
  · show zq_G _ _ _ _ _ 16 ([(0, .ref 15), (1, .int i)], [], XH tx n (nI P, nI C, nI R, nI L, hs, ss, cs, gs, vs) dr rd (nI D, sm, nI N, nI K, ce, de, ke, se) i0 i1 kp dd tr m)
    refine zq_b [zq_k 0] [zq_kchk 0] 17 rfl (by decide +kernel) ?_
    show zq_G _ _ _ _ _ 17 ([(0, .ref 15), (1, .int i)], [.int 0], XH tx n (nI P, nI C, nI R, nI L, hs, ss, cs, gs, vs) dr rd (nI D, sm, nI N, nI K, ce, de, ke, se) i0 i1 kp dd tr m)
    exact zq_zret (by decide +kernel) rfl (Or.inl rfl) (zb_r (zb_f (by simp_all))) rfl
  · show zq_G _ _ _ _ _ 4 ([(0, .ref 15), (1, .int i)], [], XH tx n (nI P, nI C, nI R, nI L, hs, ss, cs, gs, vs) dr rd (nI D, sm, nI N, nI K, ce, de, ke, se) i0 i1 kp dd tr m)
    refine zq_b [zq_il 1, zq_al 0, zq_get 5 3] [zq_ilchk 1, zq_alchk 0, zq_getchk 5 3] 9 rfl (by decide +kernel) ?_
    show zq_G _ _ _ _ _ 9 ([(0, .ref 15), (1, .int i)], [.int (nI N), .int i], XH tx n (nI P, nI C, nI R, nI L, hs, ss, cs, gs, vs) dr rd (nI D, sm, nI N, nI K, ce, de, ke, se) i0 i1 kp dd tr m)
    refine zq_if .ge 16 ((nI N) ≤ i) (by decide +kernel) (Iff.rfl) (fun c9 => ?_) (fun c9 => ?_)
    · show zq_G _ _ _ _ _ 16 ([(0, .ref 15), (1, .int i)], [], XH tx n (nI P, nI C, nI R, nI L, hs, ss, cs, gs, vs) dr rd (nI D, sm, nI N, nI K, ce, de, ke, se) i0 i1 kp dd tr m)
      refine zq_b [zq_k 0] [zq_kchk 0] 17 rfl (by decide +kernel) ?_
      show zq_G _ _ _ _ _ 17 ([(0, .ref 15), (1, .int i)], [.int 0], XH tx n (nI P, nI C, nI R, nI L, hs, ss, cs, gs, vs) dr rd (nI D, sm, nI N, nI K, ce, de, ke, se) i0 i1 kp dd tr m)
      exact zq_zret (by decide +kernel) rfl (Or.inl rfl) (zb_r (zb_f (by simp_all))) rfl
    · show zq_G _ _ _ _ _ 12 ([(0, .ref 15), (1, .int i)], [], XH tx n (nI P, nI C, nI R, nI L, hs, ss, cs, gs, vs) dr rd (nI D, sm, nI N, nI K, ce, de, ke, se) i0 i1 kp dd tr m)
      refine zq_b [zq_k 1, zq_go] [zq_kchk 1, zq_gochk] 17 rfl (by decide +kernel) ?_
      show zq_G _ _ _ _ _ 17 ([(0, .ref 15), (1, .int i)], [.int 1], XH tx n (nI P, nI C, nI R, nI L, hs, ss, cs, gs, vs) dr rd (nI D, sm, nI N, nI K, ce, de, ke, se) i0 i1 kp dd tr m)
      exact zq_zret (by decide +kernel) rfl (Or.inr rfl) (zb_r (zb_t (by simp_all))) rfl
set_option maxHeartbeats 4000000 in
set_option maxRecDepth 100000 in
theorem c_ofDeed {i : Nat} {k : Nat} (hi : i < 12) (hk : k < 5) : zq_P l mX5_ofDeed 0 [.ref 15, .int (nI i), .int (nI k)] (XH tx n (nI P, nI C, nI R, nI L, hs, ss, cs, gs, vs) dr rd (nI D, sm, nI N, nI K, ce, de, ke, se) i0 i1 kp dd tr m) (some (.int (de (i * 5 + k)))) (XH tx n (nI P, nI C, nI R, nI L, hs, ss, cs, gs, vs) dr rd (nI D, sm, nI N, nI K, ce, de, ke, se) i0 i1 kp dd tr m) := by
  refine zq_start (by decide +kernel) rfl (Nat.le_of_ble_eq_true rfl) ?_
  show zq_G _ _ _ _ _ 0 ([(0, .ref 15), (1, .int (nI i)), (2, .int (nI k))], [], XH tx n (nI P, nI C, nI R, nI L, hs, ss, cs, gs, vs) dr rd (nI D, sm, nI N, nI K, ce, de, ke, se) i0 i1 kp dd tr m)
  refine zq_b [zq_al 0, zq_get 5 6, zq_il 1, zq_k 5, zq_imul (nI (i * 5)), zq_il 2, zq_iadd (nI (i * 5 + k)), zq_iald (i * 5 + k) (de (i * 5 + k))] [zq_alchk 0, zq_getchk 5 6, zq_ilchk 1, zq_kchk 5, zq_is .imul 1, zq_ilchk 2, zq_is .iadd 1, zq_is .iaload 1] 10 rfl (by decide +kernel) ?_
  refine ⟨(pk_mul i 5), (nI_add (i * 5) k), rfl, (by omega), (by omega), rfl, ?_⟩
  show zq_G _ _ _ _ _ 10 ([(0, .ref 15), (1, .int (nI i)), (2, .int (nI k))], [.int (de (i * 5 + k))], XH tx n (nI P, nI C, nI R, nI L, hs, ss, cs, gs, vs) dr rd (nI D, sm, nI N, nI K, ce, de, ke, se) i0 i1 kp dd tr m)
  exact zq_iret (by decide +kernel) rfl rfl rfl
set_option maxHeartbeats 4000000 in
set_option maxRecDepth 100000 in
theorem c_deedsOfAct {x : Int32} (hN : N ≤ 12) : zq_P l mX5_deedsOfAct 1 [.ref 15, .int x] (XH tx n (nI P, nI C, nI R, nI L, hs, ss, cs, gs, vs) dr rd (nI D, sm, nI N, nI K, ce, de, ke, se) i0 i1 kp dd tr m) (some (.int (nI (zct (fun i => decide (de (i * 5 + 1) = x)) N)))) (XH tx n (nI P, nI C, nI R, nI L, hs, ss, cs, gs, vs) dr rd (nI D, sm, nI N, nI K, ce, de, ke, se) i0 i1 kp dd tr m) := by
  refine zq_start (by decide +kernel) rfl (Nat.le_of_ble_eq_true rfl) ?_
  show zq_G _ _ _ _ _ 0 ([(0, .ref 15), (1, .int x)], [], XH tx n (nI P, nI C, nI R, nI L, hs, ss, cs, gs, vs) dr rd (nI D, sm, nI N, nI K, ce, de, ke, se) i0 i1 kp dd tr m)
  refine zq_b [zq_k 0, zq_is1 2, zq_k 0, zq_is1 3] [zq_kchk 0, zq_is1chk 2, zq_kchk 0, zq_is1chk 3] 4 rfl (by decide +kernel) ?_
  show zq_G _ _ _ _ _ 4 ([(0, .ref 15), (1, .int x), (2, .int 0), (3, .int 0)], [], XH tx n (nI P, nI C, nI R, nI L, hs, ss, cs, gs, vs) dr rd (nI D, sm, nI N, nI K, ce, de, ke, se) i0 i1 kp dd tr m)
  refine zq_loop (fun i => ([(0, .ref 15), (1, .int x), (2, .int (nI (zct (fun i => decide (de (i * 5 + 1) = x)) i))), (3, .int (nI i))], [], XH tx n (nI P, nI C, nI R, nI L, hs, ss, cs, gs, vs) dr rd (nI D, sm, nI N, nI K, ce, de, ke, se) i0 i1 kp dd tr m)) (fun i => True) (N) (0) (by omega) (trivial) (fun i hl4 hi4 hI4 ih4 => ?_) (fun hI4 => ?_)
  · show zq_G _ _ _ _ _ 4 ([(0, .ref 15), (1, .int x), (2, .int (nI (zct (fun i => decide (de (i * 5 + 1) = x)) i))), (3, .int (nI i))], [], XH tx n (nI P, nI C, nI R, nI L, hs, ss, cs, gs, vs) dr rd (nI D, sm, nI N, nI K, ce, de, ke, se) i0 i1 kp dd tr m)
    refine zq_b [zq_il 3, zq_al 0, zq_get 5 3] [zq_ilchk 3, zq_alchk 0, zq_getchk 5 3] 9 rfl (by decide +kernel) ?_
    show zq_G _ _ _ _ _ 9 ([(0, .ref 15), (1, .int x), (2, .int (nI (zct (fun i => decide (de (i * 5 + 1) = x)) i))), (3, .int (nI i))], [.int (nI N), .int (nI i)], XH tx n (nI P, nI C, nI R, nI L, hs, ss, cs, gs, vs) dr rd (nI D, sm, nI N, nI K, ce, de, ke, se) i0 i1 kp dd tr m)
    refine zq_if .ge 31 (N ≤ i) (by decide +kernel) (zq_cge (a := i) (b := N) (by omega) (by omega)) (fun c9 => absurd c9 (by omega)) (fun c9 => ?_)
    show zq_G _ _ _ _ _ 12 ([(0, .ref 15), (1, .int x), (2, .int (nI (zct (fun i => decide (de (i * 5 + 1) = x)) i))), (3, .int (nI i))], [], XH tx n (nI P, nI C, nI R, nI L, hs, ss, cs, gs, vs) dr rd (nI D, sm, nI N, nI K, ce, de, ke, se) i0 i1 kp dd tr m)
    refine zq_b [zq_al 0, zq_il 3, zq_k 1] [zq_alchk 0, zq_ilchk 3, zq_kchk 1] 15 rfl (by decide +kernel) ?_
    show zq_G _ _ _ _ _ 15 ([(0, .ref 15), (1, .int x), (2, .int (nI (zct (fun i => decide (de (i * 5 + 1) = x)) i))), (3, .int (nI i))], [.int 1, .int (nI i), .ref 15], XH tx n (nI P, nI C, nI R, nI L, hs, ss, cs, gs, vs) dr rd (nI D, sm, nI N, nI K, ce, de, ke, se) i0 i1 kp dd tr m)
    refine zq_callV (av := [.int (nI i), .int 1]) (rest := []) (by decide +kernel) k5_64 (c_ofDeed (i := i) (k := 1) (by omega) (by omega)) rfl rfl rfl rfl ?_
    show zq_G _ _ _ _ _ 18 ([(0, .ref 15), (1, .int x), (2, .int (nI (zct (fun i => decide (de (i * 5 + 1) = x)) i))), (3, .int (nI i))], [.int (de (i * 5 + 1))], XH tx n (nI P, nI C, nI R, nI L, hs, ss, cs, gs, vs) dr rd (nI D, sm, nI N, nI K, ce, de, ke, se) i0 i1 kp dd tr m)
    refine zq_b [zq_il 1] [zq_ilchk 1] 19 rfl (by decide +kernel) ?_
    show zq_G _ _ _ _ _ 19 ([(0, .ref 15), (1, .int x), (2, .int (nI (zct (fun i => decide (de (i * 5 + 1) = x)) i))), (3, .int (nI i))], [.int x, .int (de (i * 5 + 1))], XH tx n (nI P, nI C, nI R, nI L, hs, ss, cs, gs, vs) dr rd (nI D, sm, nI N, nI K, ce, de, ke, se) i0 i1 kp dd tr m)
    refine zq_if .ne 25 (¬ (de (i * 5 + 1)) = x) (by decide +kernel) (Iff.rfl) (fun c19 => ?_) (fun c19 => ?_)
    · show zq_G _ _ _ _ _ 25 ([(0, .ref 15), (1, .int x), (2, .int (nI (zct (fun i => decide (de (i * 5 + 1) = x)) i))), (3, .int (nI i))], [], XH tx n (nI P, nI C, nI R, nI L, hs, ss, cs, gs, vs) dr rd (nI D, sm, nI N, nI K, ce, de, ke, se) i0 i1 kp dd tr m)
      refine zq_b [zq_inc 3 1 (nI (i + 1)), zq_go] [zq_incchk 3 1, zq_gochk] 4 rfl (by decide +kernel) ?_
      refine ⟨nI_add i 1, ?_⟩
      show zq_G _ _ _ _ _ 4 ([(0, .ref 15), (1, .int x), (2, .int (nI (zct (fun i => decide (de (i * 5 + 1) = x)) i))), (3, .int (nI (i + 1)))], [], XH tx n (nI P, nI C, nI R, nI L, hs, ss, cs, gs, vs) dr rd (nI D, sm, nI N, nI K, ce, de, ke, se) i0 i1 kp dd tr m)
      exact zq_eq (by rw [zct_f (by simp_all)]) (ih4 trivial)
    · show zq_G _ _ _ _ _ 22 ([(0, .ref 15), (1, .int x), (2, .int (nI (zct (fun i => decide (de (i * 5 + 1) = x)) i))), (3, .int (nI i))], [], XH tx n (nI P, nI C, nI R, nI L, hs, ss, cs, gs, vs) dr rd (nI D, sm, nI N, nI K, ce, de, ke, se) i0 i1 kp dd tr m)
      refine zq_b [zq_inc 2 1 (nI ((zct (fun i => decide (de (i * 5 + 1) = x)) i) + 1)), zq_inc 3 1 (nI (i + 1)), zq_go] [zq_incchk 2 1, zq_incchk 3 1, zq_gochk] 4 rfl (by decide +kernel) ?_
      refine ⟨nI_add (zct (fun i => decide (de (i * 5 + 1) = x)) i) 1, nI_add i 1, ?_⟩
      show zq_G _ _ _ _ _ 4 ([(0, .ref 15), (1, .int x), (2, .int (nI ((zct (fun i => decide (de (i * 5 + 1) = x)) i) + 1))), (3, .int (nI (i + 1)))], [], XH tx n (nI P, nI C, nI R, nI L, hs, ss, cs, gs, vs) dr rd (nI D, sm, nI N, nI K, ce, de, ke, se) i0 i1 kp dd tr m)
      exact zq_eq (by rw [zct_t (by simp_all)]) (ih4 trivial)
  · show zq_G _ _ _ _ _ 4 ([(0, .ref 15), (1, .int x), (2, .int (nI (zct (fun i => decide (de (i * 5 + 1) = x)) N))), (3, .int (nI N))], [], XH tx n (nI P, nI C, nI R, nI L, hs, ss, cs, gs, vs) dr rd (nI D, sm, nI N, nI K, ce, de, ke, se) i0 i1 kp dd tr m)
    refine zq_b [zq_il 3, zq_al 0, zq_get 5 3] [zq_ilchk 3, zq_alchk 0, zq_getchk 5 3] 9 rfl (by decide +kernel) ?_
    show zq_G _ _ _ _ _ 9 ([(0, .ref 15), (1, .int x), (2, .int (nI (zct (fun i => decide (de (i * 5 + 1) = x)) N))), (3, .int (nI N))], [.int (nI N), .int (nI N)], XH tx n (nI P, nI C, nI R, nI L, hs, ss, cs, gs, vs) dr rd (nI D, sm, nI N, nI K, ce, de, ke, se) i0 i1 kp dd tr m)
    refine zq_if .ge 31 (N ≤ N) (by decide +kernel) (zq_cge (a := N) (b := N) (by omega) (by omega)) (fun c9 => ?_) (fun c9 => absurd (by omega) c9)
    show zq_G _ _ _ _ _ 31 ([(0, .ref 15), (1, .int x), (2, .int (nI (zct (fun i => decide (de (i * 5 + 1) = x)) N))), (3, .int (nI N))], [], XH tx n (nI P, nI C, nI R, nI L, hs, ss, cs, gs, vs) dr rd (nI D, sm, nI N, nI K, ce, de, ke, se) i0 i1 kp dd tr m)
    refine zq_b [zq_il 2] [zq_ilchk 2] 32 rfl (by decide +kernel) ?_
    show zq_G _ _ _ _ _ 32 ([(0, .ref 15), (1, .int x), (2, .int (nI (zct (fun i => decide (de (i * 5 + 1) = x)) N))), (3, .int (nI N))], [.int (nI (zct (fun i => decide (de (i * 5 + 1) = x)) N))], XH tx n (nI P, nI C, nI R, nI L, hs, ss, cs, gs, vs) dr rd (nI D, sm, nI N, nI K, ce, de, ke, se) i0 i1 kp dd tr m)
    exact zq_iret (by decide +kernel) rfl rfl rfl
set_option maxHeartbeats 4000000 in
set_option maxRecDepth 100000 in
theorem c_keptOn {z : Int} (hz1 : -2147483648 ≤ z) (hz2 : z < 2147483648) (hD : D ≤ 99) : zq_P l mX5_keptOn 0 [.ref 15, .int (zi z)] (XH tx n (nI P, nI C, nI R, nI L, hs, ss, cs, gs, vs) dr rd (nI D, sm, nI N, nI K, ce, de, ke, se) i0 i1 kp dd tr m) (some (.int (zkept ke D z))) (XH tx n (nI P, nI C, nI R, nI L, hs, ss, cs, gs, vs) dr rd (nI D, sm, nI N, nI K, ce, de, ke, se) i0 i1 kp dd tr m) := by
  refine zq_start (by decide +kernel) rfl (Nat.le_of_ble_eq_true rfl) ?_
  show zq_G _ _ _ _ _ 0 ([(0, .ref 15), (1, .int (zi z))], [], XH tx n (nI P, nI C, nI R, nI L, hs, ss, cs, gs, vs) dr rd (nI D, sm, nI N, nI K, ce, de, ke, se) i0 i1 kp dd tr m)
  refine zq_b [zq_il 1] [zq_ilchk 1] 1 rfl (by decide +kernel) ?_
  show zq_G _ _ _ _ _ 1 ([(0, .ref 15), (1, .int (zi z))], [.int (zi z)], XH tx n (nI P, nI C, nI R, nI L, hs, ss, cs, gs, vs) dr rd (nI D, sm, nI N, nI K, ce, de, ke, se) i0 i1 kp dd tr m)
  refine zq_ifz .lt 21 (z < 0) (by decide +kernel) (zi_lt0 hz1 hz2) (fun c1 => ?_) (fun c1 => ?_)
  · show zq_G _ _ _ _ _ 21 ([(0, .ref 15), (1, .int (zi z))], [], XH tx n (nI P, nI C, nI R, nI L, hs, ss, cs, gs, vs) dr rd (nI D, sm, nI N, nI K, ce, de, ke, se) i0 i1 kp dd tr m)
    refine zq_b [zq_k 0] [zq_kchk 0] 22 rfl (by decide +kernel) ?_
    show zq_G _ _ _ _ _ 22 ([(0, .ref 15), (1, .int (zi z))], [.int 0], XH tx n (nI P, nI C, nI R, nI L, hs, ss, cs, gs, vs) dr rd (nI D, sm, nI N, nI K, ce, de, ke, se) i0 i1 kp dd tr m)
    exact zq_iret (by decide +kernel) rfl (by unfold zkept; rw [if_neg (by omega)]) rfl
  · show zq_G _ _ _ _ _ 4 ([(0, .ref 15), (1, .int (zi z))], [], XH tx n (nI P, nI C, nI R, nI L, hs, ss, cs, gs, vs) dr rd (nI D, sm, nI N, nI K, ce, de, ke, se) i0 i1 kp dd tr m)
    refine zq_b [zq_il 1, zq_al 0, zq_get 5 1] [zq_ilchk 1, zq_alchk 0, zq_getchk 5 1] 9 rfl (by decide +kernel) ?_
    show zq_G _ _ _ _ _ 9 ([(0, .ref 15), (1, .int (zi z))], [.int (nI D), .int (zi z)], XH tx n (nI P, nI C, nI R, nI L, hs, ss, cs, gs, vs) dr rd (nI D, sm, nI N, nI K, ce, de, ke, se) i0 i1 kp dd tr m)
    refine zq_if .ge 21 ((D : Int) ≤ z) (by decide +kernel) (zi_ge hz1 hz2 (by omega)) (fun c9 => ?_) (fun c9 => ?_)
    · show zq_G _ _ _ _ _ 21 ([(0, .ref 15), (1, .int (zi z))], [], XH tx n (nI P, nI C, nI R, nI L, hs, ss, cs, gs, vs) dr rd (nI D, sm, nI N, nI K, ce, de, ke, se) i0 i1 kp dd tr m)
      refine zq_b [zq_k 0] [zq_kchk 0] 22 rfl (by decide +kernel) ?_
      show zq_G _ _ _ _ _ 22 ([(0, .ref 15), (1, .int (zi z))], [.int 0], XH tx n (nI P, nI C, nI R, nI L, hs, ss, cs, gs, vs) dr rd (nI D, sm, nI N, nI K, ce, de, ke, se) i0 i1 kp dd tr m)
      exact zq_iret (by decide +kernel) rfl (by unfold zkept; rw [if_neg (by omega)]) rfl
    · show zq_G _ _ _ _ _ 12 ([(0, .ref 15), (1, .int (zi z))], [], XH tx n (nI P, nI C, nI R, nI L, hs, ss, cs, gs, vs) dr rd (nI D, sm, nI N, nI K, ce, de, ke, se) i0 i1 kp dd tr m)
      refine zq_b [zq_al 0, zq_get 5 7, zq_il 1, zq_iald z.toNat (ke z.toNat), zq_go] [zq_alchk 0, zq_getchk 5 7, zq_ilchk 1, zq_is .iaload 1, zq_gochk] 22 rfl (by decide +kernel) ?_
      refine ⟨(zi_nat (by omega)), (by omega), (by omega), rfl, ?_⟩
      show zq_G _ _ _ _ _ 22 ([(0, .ref 15), (1, .int (zi z))], [.int (ke z.toNat)], XH tx n (nI P, nI C, nI R, nI L, hs, ss, cs, gs, vs) dr rd (nI D, sm, nI N, nI K, ce, de, ke, se) i0 i1 kp dd tr m)
      exact zq_iret (by decide +kernel) rfl (by unfold zkept; rw [if_pos (by omega)]) rfl
set_option maxHeartbeats 4000000 in
set_option maxRecDepth 100000 in
theorem c_daysKept {x : Int32} (hD : D ≤ 99) : zq_P l mX5_daysKept 0 [.ref 15, .int x] (XH tx n (nI P, nI C, nI R, nI L, hs, ss, cs, gs, vs) dr rd (nI D, sm, nI N, nI K, ce, de, ke, se) i0 i1 kp dd tr m) (some (.int (nI (zct (fun d => decide (ke d &&& x = x)) D)))) (XH tx n (nI P, nI C, nI R, nI L, hs, ss, cs, gs, vs) dr rd (nI D, sm, nI N, nI K, ce, de, ke, se) i0 i1 kp dd tr m) := by
  refine zq_start (by decide +kernel) rfl (Nat.le_of_ble_eq_true rfl) ?_
  show zq_G _ _ _ _ _ 0 ([(0, .ref 15), (1, .int x)], [], XH tx n (nI P, nI C, nI R, nI L, hs, ss, cs, gs, vs) dr rd (nI D, sm, nI N, nI K, ce, de, ke, se) i0 i1 kp dd tr m)
  refine zq_b [zq_k 0, zq_is1 2, zq_k 0, zq_is1 3] [zq_kchk 0, zq_is1chk 2, zq_kchk 0, zq_is1chk 3] 4 rfl (by decide +kernel) ?_
  show zq_G _ _ _ _ _ 4 ([(0, .ref 15), (1, .int x), (2, .int 0), (3, .int 0)], [], XH tx n (nI P, nI C, nI R, nI L, hs, ss, cs, gs, vs) dr rd (nI D, sm, nI N, nI K, ce, de, ke, se) i0 i1 kp dd tr m)
  refine zq_loop (fun i => ([(0, .ref 15), (1, .int x), (2, .int (nI (zct (fun d => decide (ke d &&& x = x)) i))), (3, .int (nI i))], [], XH tx n (nI P, nI C, nI R, nI L, hs, ss, cs, gs, vs) dr rd (nI D, sm, nI N, nI K, ce, de, ke, se) i0 i1 kp dd tr m)) (fun i => True) (D) (0) (by omega) (trivial) (fun i hl4 hi4 hI4 ih4 => ?_) (fun hI4 => ?_)
  · show zq_G _ _ _ _ _ 4 ([(0, .ref 15), (1, .int x), (2, .int (nI (zct (fun d => decide (ke d &&& x = x)) i))), (3, .int (nI i))], [], XH tx n (nI P, nI C, nI R, nI L, hs, ss, cs, gs, vs) dr rd (nI D, sm, nI N, nI K, ce, de, ke, se) i0 i1 kp dd tr m)
    refine zq_b [zq_il 3, zq_al 0, zq_get 5 1] [zq_ilchk 3, zq_alchk 0, zq_getchk 5 1] 9 rfl (by decide +kernel) ?_
    show zq_G _ _ _ _ _ 9 ([(0, .ref 15), (1, .int x), (2, .int (nI (zct (fun d => decide (ke d &&& x = x)) i))), (3, .int (nI i))], [.int (nI D), .int (nI i)], XH tx n (nI P, nI C, nI R, nI L, hs, ss, cs, gs, vs) dr rd (nI D, sm, nI N, nI K, ce, de, ke, se) i0 i1 kp dd tr m)
    refine zq_if .ge 33 (D ≤ i) (by decide +kernel) (zq_cge (a := i) (b := D) (by omega) (by omega)) (fun c9 => absurd c9 (by omega)) (fun c9 => ?_)
    show zq_G _ _ _ _ _ 12 ([(0, .ref 15), (1, .int x), (2, .int (nI (zct (fun d => decide (ke d &&& x = x)) i))), (3, .int (nI i))], [], XH tx n (nI P, nI C, nI R, nI L, hs, ss, cs, gs, vs) dr rd (nI D, sm, nI N, nI K, ce, de, ke, se) i0 i1 kp dd tr m)
    refine zq_b [zq_al 0, zq_get 5 7, zq_il 3, zq_iald i (ke i), zq_il 1, zq_iand ((ke i) &&& x), zq_il 1] [zq_alchk 0, zq_getchk 5 7, zq_ilchk 3, zq_is .iaload 1, zq_ilchk 1, zq_is .iand 1, zq_ilchk 1] 21 rfl (by decide +kernel) ?_
    refine ⟨rfl, (by omega), (by omega), rfl, rfl, ?_⟩
    show zq_G _ _ _ _ _ 21 ([(0, .ref 15), (1, .int x), (2, .int (nI (zct (fun d => decide (ke d &&& x = x)) i))), (3, .int (nI i))], [.int x, .int ((ke i) &&& x)], XH tx n (nI P, nI C, nI R, nI L, hs, ss, cs, gs, vs) dr rd (nI D, sm, nI N, nI K, ce, de, ke, se) i0 i1 kp dd tr m)
    refine zq_if .ne 27 (¬ ((ke i) &&& x) = x) (by decide +kernel) (Iff.rfl) (fun c21 => ?_) (fun c21 => ?_)
    · show zq_G _ _ _ _ _ 27 ([(0, .ref 15), (1, .int x), (2, .int (nI (zct (fun d => decide (ke d &&& x = x)) i))), (3, .int (nI i))], [], XH tx n (nI P, nI C, nI R, nI L, hs, ss, cs, gs, vs) dr rd (nI D, sm, nI N, nI K, ce, de, ke, se) i0 i1 kp dd tr m)
      refine zq_b [zq_inc 3 1 (nI (i + 1)), zq_go] [zq_incchk 3 1, zq_gochk] 4 rfl (by decide +kernel) ?_
      refine ⟨nI_add i 1, ?_⟩
      show zq_G _ _ _ _ _ 4 ([(0, .ref 15), (1, .int x), (2, .int (nI (zct (fun d => decide (ke d &&& x = x)) i))), (3, .int (nI (i + 1)))], [], XH tx n (nI P, nI C, nI R, nI L, hs, ss, cs, gs, vs) dr rd (nI D, sm, nI N, nI K, ce, de, ke, se) i0 i1 kp dd tr m)
      exact zq_eq (by rw [zct_f (by simp_all)]) (ih4 trivial)
    · show zq_G _ _ _ _ _ 24 ([(0, .ref 15), (1, .int x), (2, .int (nI (zct (fun d => decide (ke d &&& x = x)) i))), (3, .int (nI i))], [], XH tx n (nI P, nI C, nI R, nI L, hs, ss, cs, gs, vs) dr rd (nI D, sm, nI N, nI K, ce, de, ke, se) i0 i1 kp dd tr m)
      refine zq_b [zq_inc 2 1 (nI ((zct (fun d => decide (ke d &&& x = x)) i) + 1)), zq_inc 3 1 (nI (i + 1)), zq_go] [zq_incchk 2 1, zq_incchk 3 1, zq_gochk] 4 rfl (by decide +kernel) ?_
      refine ⟨nI_add (zct (fun d => decide (ke d &&& x = x)) i) 1, nI_add i 1, ?_⟩
      show zq_G _ _ _ _ _ 4 ([(0, .ref 15), (1, .int x), (2, .int (nI ((zct (fun d => decide (ke d &&& x = x)) i) + 1))), (3, .int (nI (i + 1)))], [], XH tx n (nI P, nI C, nI R, nI L, hs, ss, cs, gs, vs) dr rd (nI D, sm, nI N, nI K, ce, de, ke, se) i0 i1 kp dd tr m)
      exact zq_eq (by rw [zct_t (by simp_all)]) (ih4 trivial)
  · show zq_G _ _ _ _ _ 4 ([(0, .ref 15), (1, .int x), (2, .int (nI (zct (fun d => decide (ke d &&& x = x)) D))), (3, .int (nI D))], [], XH tx n (nI P, nI C, nI R, nI L, hs, ss, cs, gs, vs) dr rd (nI D, sm, nI N, nI K, ce, de, ke, se) i0 i1 kp dd tr m)
    refine zq_b [zq_il 3, zq_al 0, zq_get 5 1] [zq_ilchk 3, zq_alchk 0, zq_getchk 5 1] 9 rfl (by decide +kernel) ?_
    show zq_G _ _ _ _ _ 9 ([(0, .ref 15), (1, .int x), (2, .int (nI (zct (fun d => decide (ke d &&& x = x)) D))), (3, .int (nI D))], [.int (nI D), .int (nI D)], XH tx n (nI P, nI C, nI R, nI L, hs, ss, cs, gs, vs) dr rd (nI D, sm, nI N, nI K, ce, de, ke, se) i0 i1 kp dd tr m)
    refine zq_if .ge 33 (D ≤ D) (by decide +kernel) (zq_cge (a := D) (b := D) (by omega) (by omega)) (fun c9 => ?_) (fun c9 => absurd (by omega) c9)
    show zq_G _ _ _ _ _ 33 ([(0, .ref 15), (1, .int x), (2, .int (nI (zct (fun d => decide (ke d &&& x = x)) D))), (3, .int (nI D))], [], XH tx n (nI P, nI C, nI R, nI L, hs, ss, cs, gs, vs) dr rd (nI D, sm, nI N, nI K, ce, de, ke, se) i0 i1 kp dd tr m)
    refine zq_b [zq_il 2] [zq_ilchk 2] 34 rfl (by decide +kernel) ?_
    show zq_G _ _ _ _ _ 34 ([(0, .ref 15), (1, .int x), (2, .int (nI (zct (fun d => decide (ke d &&& x = x)) D))), (3, .int (nI D))], [.int (nI (zct (fun d => decide (ke d &&& x = x)) D))], XH tx n (nI P, nI C, nI R, nI L, hs, ss, cs, gs, vs) dr rd (nI D, sm, nI N, nI K, ce, de, ke, se) i0 i1 kp dd tr m)
    exact zq_iret (by decide +kernel) rfl rfl rfl
set_option maxHeartbeats 4000000 in
set_option maxRecDepth 100000 in
theorem c_firstDayKept {p : Int32} (hD : D ≤ 99) : zq_P l mX5_firstDayKept 1 [.ref 15, .int p] (XH tx n (nI P, nI C, nI R, nI L, hs, ss, cs, gs, vs) dr rd (nI D, sm, nI N, nI K, ce, de, ke, se) i0 i1 kp dd tr m) (some (.int (zfs (fun d => decide (zbit (ke d) p = 1)) nI D))) (XH tx n (nI P, nI C, nI R, nI L, hs, ss, cs, gs, vs) dr rd (nI D, sm, nI N, nI K, ce, de, ke, se) i0 i1 kp dd tr m) := by
  refine zq_start (by decide +kernel) rfl (Nat.le_of_ble_eq_true rfl) ?_
  show zq_G _ _ _ _ _ 0 ([(0, .ref 15), (1, .int p)], [], XH tx n (nI P, nI C, nI R, nI L, hs, ss, cs, gs, vs) dr rd (nI D, sm, nI N, nI K, ce, de, ke, se) i0 i1 kp dd tr m)
  refine zq_b [zq_k 0, zq_is1 2] [zq_kchk 0, zq_is1chk 2] 2 rfl (by decide +kernel) ?_
  show zq_G _ _ _ _ _ 2 ([(0, .ref 15), (1, .int p), (2, .int 0)], [], XH tx n (nI P, nI C, nI R, nI L, hs, ss, cs, gs, vs) dr rd (nI D, sm, nI N, nI K, ce, de, ke, se) i0 i1 kp dd tr m)
  refine zq_loop (fun i => ([(0, .ref 15), (1, .int p), (2, .int (nI i))], [], XH tx n (nI P, nI C, nI R, nI L, hs, ss, cs, gs, vs) dr rd (nI D, sm, nI N, nI K, ce, de, ke, se) i0 i1 kp dd tr m)) (fun i => ∀ j, j < i → decide (zbit (ke j) p = 1) = false) (D) (0) (by omega) ((fun j hj => absurd hj (by omega))) (fun i hl2 hi2 hI2 ih2 => ?_) (fun hI2 => ?_)
  · show zq_G _ _ _ _ _ 2 ([(0, .ref 15), (1, .int p), (2, .int (nI i))], [], XH tx n (nI P, nI C, nI R, nI L, hs, ss, cs, gs, vs) dr rd (nI D, sm, nI N, nI K, ce, de, ke, se) i0 i1 kp dd tr m)
    refine zq_b [zq_il 2, zq_al 0, zq_get 5 1] [zq_ilchk 2, zq_alchk 0, zq_getchk 5 1] 7 rfl (by decide +kernel) ?_
    show zq_G _ _ _ _ _ 7 ([(0, .ref 15), (1, .int p), (2, .int (nI i))], [.int (nI D), .int (nI i)], XH tx n (nI P, nI C, nI R, nI L, hs, ss, cs, gs, vs) dr rd (nI D, sm, nI N, nI K, ce, de, ke, se) i0 i1 kp dd tr m)
    refine zq_if .ge 32 (D ≤ i) (by decide +kernel) (zq_cge (a := i) (b := D) (by omega) (by omega)) (fun c7 => absurd c7 (by omega)) (fun c7 => ?_)
    show zq_G _ _ _ _ _ 10 ([(0, .ref 15), (1, .int p), (2, .int (nI i))], [], XH tx n (nI P, nI C, nI R, nI L, hs, ss, cs, gs, vs) dr rd (nI D, sm, nI N, nI K, ce, de, ke, se) i0 i1 kp dd tr m)
    refine zq_b [zq_al 0, zq_get 5 7, zq_il 2, zq_iald i (ke i), zq_il 1] [zq_alchk 0, zq_getchk 5 7, zq_ilchk 2, zq_is .iaload 1, zq_ilchk 1] 17 rfl (by decide +kernel) ?_
    refine ⟨rfl, (by omega), (by omega), rfl, ?_⟩
    show zq_G _ _ _ _ _ 17 ([(0, .ref 15), (1, .int p), (2, .int (nI i))], [.int p, .int (ke i)], XH tx n (nI P, nI C, nI R, nI L, hs, ss, cs, gs, vs) dr rd (nI D, sm, nI N, nI K, ce, de, ke, se) i0 i1 kp dd tr m)
    refine zq_callN (av := [.int (ke i), .int p]) (rest := []) (by decide +kernel) k5_60 (c_bit (x := (ke i)) (p := p)) rfl rfl ?_
    show zq_G _ _ _ _ _ 20 ([(0, .ref 15), (1, .int p), (2, .int (nI i))], [.int (zbit (ke i) p)], XH tx n (nI P, nI C, nI R, nI L, hs, ss, cs, gs, vs) dr rd (nI D, sm, nI N, nI K, ce, de, ke, se) i0 i1 kp dd tr m)
    refine zq_b [zq_k 1] [zq_kchk 1] 21 rfl (by decide +kernel) ?_
    show zq_G _ _ _ _ _ 21 ([(0, .ref 15), (1, .int p), (2, .int (nI i))], [.int 1, .int (zbit (ke i) p)], XH tx n (nI P, nI C, nI R, nI L, hs, ss, cs, gs, vs) dr rd (nI D, sm, nI N, nI K, ce, de, ke, se) i0 i1 kp dd tr m)
    refine zq_if .ne 26 (¬ (zbit (ke i) p) = 1) (by decide +kernel) (Iff.rfl) (fun c21 => ?_) (fun c21 => ?_)
    · show zq_G _ _ _ _ _ 26 ([(0, .ref 15), (1, .int p), (2, .int (nI i))], [], XH tx n (nI P, nI C, nI R, nI L, hs, ss, cs, gs, vs) dr rd (nI D, sm, nI N, nI K, ce, de, ke, se) i0 i1 kp dd tr m)
      refine zq_b [zq_inc 2 1 (nI (i + 1)), zq_go] [zq_incchk 2 1, zq_gochk] 2 rfl (by decide +kernel) ?_
      refine ⟨nI_add i 1, ?_⟩
      show zq_G _ _ _ _ _ 2 ([(0, .ref 15), (1, .int p), (2, .int (nI (i + 1)))], [], XH tx n (nI P, nI C, nI R, nI L, hs, ss, cs, gs, vs) dr rd (nI D, sm, nI N, nI K, ce, de, ke, se) i0 i1 kp dd tr m)
      exact ih2 (lt_ext hI2 (decide_eq_false c21))
    · show zq_G _ _ _ _ _ 24 ([(0, .ref 15), (1, .int p), (2, .int (nI i))], [], XH tx n (nI P, nI C, nI R, nI L, hs, ss, cs, gs, vs) dr rd (nI D, sm, nI N, nI K, ce, de, ke, se) i0 i1 kp dd tr m)
      refine zq_b [zq_il 2] [zq_ilchk 2] 25 rfl (by decide +kernel) ?_
      show zq_G _ _ _ _ _ 25 ([(0, .ref 15), (1, .int p), (2, .int (nI i))], [.int (nI i)], XH tx n (nI P, nI C, nI R, nI L, hs, ss, cs, gs, vs) dr rd (nI D, sm, nI N, nI K, ce, de, ke, se) i0 i1 kp dd tr m)
      exact zq_iret (by decide +kernel) rfl (by rw [zfs_at hi2 (by simpa using c21) hI2]) rfl
  · show zq_G _ _ _ _ _ 2 ([(0, .ref 15), (1, .int p), (2, .int (nI D))], [], XH tx n (nI P, nI C, nI R, nI L, hs, ss, cs, gs, vs) dr rd (nI D, sm, nI N, nI K, ce, de, ke, se) i0 i1 kp dd tr m)
    refine zq_b [zq_il 2, zq_al 0, zq_get 5 1] [zq_ilchk 2, zq_alchk 0, zq_getchk 5 1] 7 rfl (by decide +kernel) ?_
    show zq_G _ _ _ _ _ 7 ([(0, .ref 15), (1, .int p), (2, .int (nI D))], [.int (nI D), .int (nI D)], XH tx n (nI P, nI C, nI R, nI L, hs, ss, cs, gs, vs) dr rd (nI D, sm, nI N, nI K, ce, de, ke, se) i0 i1 kp dd tr m)
    refine zq_if .ge 32 (D ≤ D) (by decide +kernel) (zq_cge (a := D) (b := D) (by omega) (by omega)) (fun c7 => ?_) (fun c7 => absurd (by omega) c7)
    show zq_G _ _ _ _ _ 32 ([(0, .ref 15), (1, .int p), (2, .int (nI D))], [], XH tx n (nI P, nI C, nI R, nI L, hs, ss, cs, gs, vs) dr rd (nI D, sm, nI N, nI K, ce, de, ke, se) i0 i1 kp dd tr m)
    refine zq_b [zq_k (-9)] [zq_kchk (-9)] 34 rfl (by decide +kernel) ?_
    show zq_G _ _ _ _ _ 34 ([(0, .ref 15), (1, .int p), (2, .int (nI D))], [.int (-9)], XH tx n (nI P, nI C, nI R, nI L, hs, ss, cs, gs, vs) dr rd (nI D, sm, nI N, nI K, ce, de, ke, se) i0 i1 kp dd tr m)
    exact zq_iret (by decide +kernel) rfl (by rw [zfs_no hI2]) rfl
set_option maxHeartbeats 4000000 in
set_option maxRecDepth 100000 in
theorem c_lastDayKept {p : Int32} (hD : D ≤ 99) : zq_P l mX5_lastDayKept 1 [.ref 15, .int p] (XH tx n (nI P, nI C, nI R, nI L, hs, ss, cs, gs, vs) dr rd (nI D, sm, nI N, nI K, ce, de, ke, se) i0 i1 kp dd tr m) (some (.int (zls (fun d => decide (zbit (ke d) p = 1)) nI D))) (XH tx n (nI P, nI C, nI R, nI L, hs, ss, cs, gs, vs) dr rd (nI D, sm, nI N, nI K, ce, de, ke, se) i0 i1 kp dd tr m) := by
  refine zq_start (by decide +kernel) rfl (Nat.le_of_ble_eq_true rfl) ?_
  show zq_G _ _ _ _ _ 0 ([(0, .ref 15), (1, .int p)], [], XH tx n (nI P, nI C, nI R, nI L, hs, ss, cs, gs, vs) dr rd (nI D, sm, nI N, nI K, ce, de, ke, se) i0 i1 kp dd tr m)
  refine zq_b [zq_al 0, zq_get 5 1, zq_k 1, zq_isub (zi ((D : Int) - 1 - ((0 : Nat) : Int))), zq_is1 2] [zq_alchk 0, zq_getchk 5 1, zq_kchk 1, zq_is .isub 1, zq_is1chk 2] 7 rfl (by decide +kernel) ?_
  refine ⟨((zi_sub D 1).trans (congrArg zi (by omega))), ?_⟩
  show zq_G _ _ _ _ _ 7 ([(0, .ref 15), (1, .int p), (2, .int (zi ((D : Int) - 1 - ((0 : Nat) : Int))))], [], XH tx n (nI P, nI C, nI R, nI L, hs, ss, cs, gs, vs) dr rd (nI D, sm, nI N, nI K, ce, de, ke, se) i0 i1 kp dd tr m)
  refine zq_loop (fun i => ([(0, .ref 15), (1, .int p), (2, .int (zi ((D : Int) - 1 - ((i : Nat) : Int))))], [], XH tx n (nI P, nI C, nI R, nI L, hs, ss, cs, gs, vs) dr rd (nI D, sm, nI N, nI K, ce, de, ke, se) i0 i1 kp dd tr m)) (fun i => ∀ j, D ≤ j + i → j < D → decide (zbit (ke j) p = 1) = false) (D) (0) (by omega) ((fun j h1 h2 => absurd h1 (by omega))) (fun i hl7 hi7 hI7 ih7 => ?_) (fun hI7 => ?_)
  · show zq_G _ _ _ _ _ 7 ([(0, .ref 15), (1, .int p), (2, .int (zi ((D : Int) - 1 - ((i : Nat) : Int))))], [], XH tx n (nI P, nI C, nI R, nI L, hs, ss, cs, gs, vs) dr rd (nI D, sm, nI N, nI K, ce, de, ke, se) i0 i1 kp dd tr m)
    refine zq_b [zq_il 2] [zq_ilchk 2] 8 rfl (by decide +kernel) ?_
    show zq_G _ _ _ _ _ 8 ([(0, .ref 15), (1, .int p), (2, .int (zi ((D : Int) - 1 - ((i : Nat) : Int))))], [.int (zi ((D : Int) - 1 - ((i : Nat) : Int)))], XH tx n (nI P, nI C, nI R, nI L, hs, ss, cs, gs, vs) dr rd (nI D, sm, nI N, nI K, ce, de, ke, se) i0 i1 kp dd tr m)
    refine zq_ifz .lt 33 (((D : Int) - 1 - ((i : Nat) : Int)) < 0) (by decide +kernel) (zi_lt0 (by omega) (by omega)) (fun c8 => absurd c8 (by omega)) (fun c8 => ?_)
    show zq_G _ _ _ _ _ 11 ([(0, .ref 15), (1, .int p), (2, .int (zi ((D : Int) - 1 - ((i : Nat) : Int))))], [], XH tx n (nI P, nI C, nI R, nI L, hs, ss, cs, gs, vs) dr rd (nI D, sm, nI N, nI K, ce, de, ke, se) i0 i1 kp dd tr m)
    refine zq_b [zq_al 0, zq_get 5 7, zq_il 2, zq_iald (D - 1 - i) (ke (D - 1 - i)), zq_il 1] [zq_alchk 0, zq_getchk 5 7, zq_ilchk 2, zq_is .iaload 1, zq_ilchk 1] 18 rfl (by decide +kernel) ?_
    refine ⟨(zi_nat (by omega)), (by omega), (by omega), rfl, ?_⟩
    show zq_G _ _ _ _ _ 18 ([(0, .ref 15), (1, .int p), (2, .int (zi ((D : Int) - 1 - ((i : Nat) : Int))))], [.int p, .int (ke (D - 1 - i))], XH tx n (nI P, nI C, nI R, nI L, hs, ss, cs, gs, vs) dr rd (nI D, sm, nI N, nI K, ce, de, ke, se) i0 i1 kp dd tr m)
    refine zq_callN (av := [.int (ke (D - 1 - i)), .int p]) (rest := []) (by decide +kernel) k5_60 (c_bit (x := (ke (D - 1 - i))) (p := p)) rfl rfl ?_
    show zq_G _ _ _ _ _ 21 ([(0, .ref 15), (1, .int p), (2, .int (zi ((D : Int) - 1 - ((i : Nat) : Int))))], [.int (zbit (ke (D - 1 - i)) p)], XH tx n (nI P, nI C, nI R, nI L, hs, ss, cs, gs, vs) dr rd (nI D, sm, nI N, nI K, ce, de, ke, se) i0 i1 kp dd tr m)
    refine zq_b [zq_k 1] [zq_kchk 1] 22 rfl (by decide +kernel) ?_
    show zq_G _ _ _ _ _ 22 ([(0, .ref 15), (1, .int p), (2, .int (zi ((D : Int) - 1 - ((i : Nat) : Int))))], [.int 1, .int (zbit (ke (D - 1 - i)) p)], XH tx n (nI P, nI C, nI R, nI L, hs, ss, cs, gs, vs) dr rd (nI D, sm, nI N, nI K, ce, de, ke, se) i0 i1 kp dd tr m)
    refine zq_if .ne 27 (¬ (zbit (ke (D - 1 - i)) p) = 1) (by decide +kernel) (Iff.rfl) (fun c22 => ?_) (fun c22 => ?_)
    · show zq_G _ _ _ _ _ 27 ([(0, .ref 15), (1, .int p), (2, .int (zi ((D : Int) - 1 - ((i : Nat) : Int))))], [], XH tx n (nI P, nI C, nI R, nI L, hs, ss, cs, gs, vs) dr rd (nI D, sm, nI N, nI K, ce, de, ke, se) i0 i1 kp dd tr m)
      refine zq_b [zq_inc 2 (-1) (zi ((D : Int) - 1 - ((i + 1 : Nat) : Int))), zq_go] [zq_incchk 2 (-1), zq_gochk] 7 rfl (by decide +kernel) ?_
      refine ⟨(zi_dn D i), ?_⟩
      show zq_G _ _ _ _ _ 7 ([(0, .ref 15), (1, .int p), (2, .int (zi ((D : Int) - 1 - ((i + 1 : Nat) : Int))))], [], XH tx n (nI P, nI C, nI R, nI L, hs, ss, cs, gs, vs) dr rd (nI D, sm, nI N, nI K, ce, de, ke, se) i0 i1 kp dd tr m)
      exact ih7 (fun j h1 h2 => (Nat.lt_or_ge (D - 1 - i) j).elim (fun q => hI7 j (by omega) h2) (fun q => by rw [show j = D - 1 - i by omega]; exact decide_eq_false c22))
    · show zq_G _ _ _ _ _ 25 ([(0, .ref 15), (1, .int p), (2, .int (zi ((D : Int) - 1 - ((i : Nat) : Int))))], [], XH tx n (nI P, nI C, nI R, nI L, hs, ss, cs, gs, vs) dr rd (nI D, sm, nI N, nI K, ce, de, ke, se) i0 i1 kp dd tr m)
      refine zq_b [zq_il 2] [zq_ilchk 2] 26 rfl (by decide +kernel) ?_
      show zq_G _ _ _ _ _ 26 ([(0, .ref 15), (1, .int p), (2, .int (zi ((D : Int) - 1 - ((i : Nat) : Int))))], [.int (zi ((D : Int) - 1 - ((i : Nat) : Int)))], XH tx n (nI P, nI C, nI R, nI L, hs, ss, cs, gs, vs) dr rd (nI D, sm, nI N, nI K, ce, de, ke, se) i0 i1 kp dd tr m)
      exact zq_iret (by decide +kernel) rfl (by rw [zls_at (i := D - 1 - i) (by omega) (by simpa using c22) (fun j h1 h2 => hI7 j (by omega) h2), ← zi_nat (z := (D : Int) - 1 - (i : Int)) (by omega)]) rfl
  · show zq_G _ _ _ _ _ 7 ([(0, .ref 15), (1, .int p), (2, .int (zi ((D : Int) - 1 - ((D : Nat) : Int))))], [], XH tx n (nI P, nI C, nI R, nI L, hs, ss, cs, gs, vs) dr rd (nI D, sm, nI N, nI K, ce, de, ke, se) i0 i1 kp dd tr m)
    refine zq_b [zq_il 2] [zq_ilchk 2] 8 rfl (by decide +kernel) ?_
    show zq_G _ _ _ _ _ 8 ([(0, .ref 15), (1, .int p), (2, .int (zi ((D : Int) - 1 - ((D : Nat) : Int))))], [.int (zi ((D : Int) - 1 - ((D : Nat) : Int)))], XH tx n (nI P, nI C, nI R, nI L, hs, ss, cs, gs, vs) dr rd (nI D, sm, nI N, nI K, ce, de, ke, se) i0 i1 kp dd tr m)
    refine zq_ifz .lt 33 (((D : Int) - 1 - ((D : Nat) : Int)) < 0) (by decide +kernel) (zi_lt0 (by omega) (by omega)) (fun c8 => ?_) (fun c8 => absurd (by omega) c8)
    show zq_G _ _ _ _ _ 33 ([(0, .ref 15), (1, .int p), (2, .int (zi ((D : Int) - 1 - ((D : Nat) : Int))))], [], XH tx n (nI P, nI C, nI R, nI L, hs, ss, cs, gs, vs) dr rd (nI D, sm, nI N, nI K, ce, de, ke, se) i0 i1 kp dd tr m)
    refine zq_b [zq_k (-9)] [zq_kchk (-9)] 35 rfl (by decide +kernel) ?_
    show zq_G _ _ _ _ _ 35 ([(0, .ref 15), (1, .int p), (2, .int (zi ((D : Int) - 1 - ((D : Nat) : Int))))], [.int (-9)], XH tx n (nI P, nI C, nI R, nI L, hs, ss, cs, gs, vs) dr rd (nI D, sm, nI N, nI K, ce, de, ke, se) i0 i1 kp dd tr m)
    exact zq_iret (by decide +kernel) rfl (by rw [zls_no (fun j hj => hI7 j (by omega) hj)]) rfl
set_option maxHeartbeats 4000000 in
set_option maxRecDepth 100000 in
theorem c_peopleIn {x : Int32} (hP : P ≤ 6) : zq_P l mX5_peopleIn 0 [.ref 15, .int x] (XH tx n (nI P, nI C, nI R, nI L, hs, ss, cs, gs, vs) dr rd (nI D, sm, nI N, nI K, ce, de, ke, se) i0 i1 kp dd tr m) (some (.int (orB (fun p => decide (ce p = x)) P))) (XH tx n (nI P, nI C, nI R, nI L, hs, ss, cs, gs, vs) dr rd (nI D, sm, nI N, nI K, ce, de, ke, se) i0 i1 kp dd tr m) := by
  refine zq_start (by decide +kernel) rfl (Nat.le_of_ble_eq_true rfl) ?_
  show zq_G _ _ _ _ _ 0 ([(0, .ref 15), (1, .int x)], [], XH tx n (nI P, nI C, nI R, nI L, hs, ss, cs, gs, vs) dr rd (nI D, sm, nI N, nI K, ce, de, ke, se) i0 i1 kp dd tr m)
  refine zq_b [zq_k 0, zq_is1 2, zq_k 0, zq_is1 3] [zq_kchk 0, zq_is1chk 2, zq_kchk 0, zq_is1chk 3] 4 rfl (by decide +kernel) ?_
  show zq_G _ _ _ _ _ 4 ([(0, .ref 15), (1, .int x), (2, .int 0), (3, .int 0)], [], XH tx n (nI P, nI C, nI R, nI L, hs, ss, cs, gs, vs) dr rd (nI D, sm, nI N, nI K, ce, de, ke, se) i0 i1 kp dd tr m)
  refine zq_loop (fun i => ([(0, .ref 15), (1, .int x), (2, .int (orB (fun p => decide (ce p = x)) i)), (3, .int (nI i))], [], XH tx n (nI P, nI C, nI R, nI L, hs, ss, cs, gs, vs) dr rd (nI D, sm, nI N, nI K, ce, de, ke, se) i0 i1 kp dd tr m)) (fun i => True) (P) (0) (by omega) (trivial) (fun i hl4 hi4 hI4 ih4 => ?_) (fun hI4 => ?_)
  · show zq_G _ _ _ _ _ 4 ([(0, .ref 15), (1, .int x), (2, .int (orB (fun p => decide (ce p = x)) i)), (3, .int (nI i))], [], XH tx n (nI P, nI C, nI R, nI L, hs, ss, cs, gs, vs) dr rd (nI D, sm, nI N, nI K, ce, de, ke, se) i0 i1 kp dd tr m)
    refine zq_b [zq_il 3, zq_al 0, zq_get 5 0, zq_get 9 0] [zq_ilchk 3, zq_alchk 0, zq_getchk 5 0, zq_getchk 9 0] 12 rfl (by decide +kernel) ?_
    show zq_G _ _ _ _ _ 12 ([(0, .ref 15), (1, .int x), (2, .int (orB (fun p => decide (ce p = x)) i)), (3, .int (nI i))], [.int (nI P), .int (nI i)], XH tx n (nI P, nI C, nI R, nI L, hs, ss, cs, gs, vs) dr rd (nI D, sm, nI N, nI K, ce, de, ke, se) i0 i1 kp dd tr m)
    refine zq_if .ge 37 (P ≤ i) (by decide +kernel) (zq_cge (a := i) (b := P) (by omega) (by omega)) (fun c12 => absurd c12 (by omega)) (fun c12 => ?_)
    show zq_G _ _ _ _ _ 15 ([(0, .ref 15), (1, .int x), (2, .int (orB (fun p => decide (ce p = x)) i)), (3, .int (nI i))], [], XH tx n (nI P, nI C, nI R, nI L, hs, ss, cs, gs, vs) dr rd (nI D, sm, nI N, nI K, ce, de, ke, se) i0 i1 kp dd tr m)
    refine zq_b [zq_al 0, zq_get 5 5, zq_il 3, zq_iald i (ce i), zq_il 1] [zq_alchk 0, zq_getchk 5 5, zq_ilchk 3, zq_is .iaload 1, zq_ilchk 1] 22 rfl (by decide +kernel) ?_
    refine ⟨rfl, (by omega), (by omega), rfl, ?_⟩
    show zq_G _ _ _ _ _ 22 ([(0, .ref 15), (1, .int x), (2, .int (orB (fun p => decide (ce p = x)) i)), (3, .int (nI i))], [.int x, .int (ce i)], XH tx n (nI P, nI C, nI R, nI L, hs, ss, cs, gs, vs) dr rd (nI D, sm, nI N, nI K, ce, de, ke, se) i0 i1 kp dd tr m)
    refine zq_if .ne 31 (¬ (ce i) = x) (by decide +kernel) (Iff.rfl) (fun c22 => ?_) (fun c22 => ?_)
    · show zq_G _ _ _ _ _ 31 ([(0, .ref 15), (1, .int x), (2, .int (orB (fun p => decide (ce p = x)) i)), (3, .int (nI i))], [], XH tx n (nI P, nI C, nI R, nI L, hs, ss, cs, gs, vs) dr rd (nI D, sm, nI N, nI K, ce, de, ke, se) i0 i1 kp dd tr m)
      refine zq_b [zq_inc 3 1 (nI (i + 1)), zq_go] [zq_incchk 3 1, zq_gochk] 4 rfl (by decide +kernel) ?_
      refine ⟨nI_add i 1, ?_⟩
      show zq_G _ _ _ _ _ 4 ([(0, .ref 15), (1, .int x), (2, .int (orB (fun p => decide (ce p = x)) i)), (3, .int (nI (i + 1)))], [], XH tx n (nI P, nI C, nI R, nI L, hs, ss, cs, gs, vs) dr rd (nI D, sm, nI N, nI K, ce, de, ke, se) i0 i1 kp dd tr m)
      exact zq_eq (by rw [orB_f (by simp_all)]) (ih4 trivial)
    · show zq_G _ _ _ _ _ 25 ([(0, .ref 15), (1, .int x), (2, .int (orB (fun p => decide (ce p = x)) i)), (3, .int (nI i))], [], XH tx n (nI P, nI C, nI R, nI L, hs, ss, cs, gs, vs) dr rd (nI D, sm, nI N, nI K, ce, de, ke, se) i0 i1 kp dd tr m)
      refine zq_b [zq_il 2, zq_k 1, zq_il 3, zq_ishl (1 <<< (nI i &&& 31)), zq_ior ((orB (fun p => decide (ce p = x)) i) ||| (1 <<< (nI i &&& 31))), zq_is1 2, zq_inc 3 1 (nI (i + 1)), zq_go] [zq_ilchk 2, zq_kchk 1, zq_ilchk 3, zq_is .ishl 1, zq_is .ior 1, zq_is1chk 2, zq_incchk 3 1, zq_gochk] 4 rfl (by decide +kernel) ?_
      refine ⟨rfl, rfl, nI_add i 1, ?_⟩
      show zq_G _ _ _ _ _ 4 ([(0, .ref 15), (1, .int x), (2, .int ((orB (fun p => decide (ce p = x)) i) ||| (1 <<< (nI i &&& 31)))), (3, .int (nI (i + 1)))], [], XH tx n (nI P, nI C, nI R, nI L, hs, ss, cs, gs, vs) dr rd (nI D, sm, nI N, nI K, ce, de, ke, se) i0 i1 kp dd tr m)
      exact zq_eq (by rw [orB_t (by simp_all)]) (ih4 trivial)
  · show zq_G _ _ _ _ _ 4 ([(0, .ref 15), (1, .int x), (2, .int (orB (fun p => decide (ce p = x)) P)), (3, .int (nI P))], [], XH tx n (nI P, nI C, nI R, nI L, hs, ss, cs, gs, vs) dr rd (nI D, sm, nI N, nI K, ce, de, ke, se) i0 i1 kp dd tr m)
    refine zq_b [zq_il 3, zq_al 0, zq_get 5 0, zq_get 9 0] [zq_ilchk 3, zq_alchk 0, zq_getchk 5 0, zq_getchk 9 0] 12 rfl (by decide +kernel) ?_
    show zq_G _ _ _ _ _ 12 ([(0, .ref 15), (1, .int x), (2, .int (orB (fun p => decide (ce p = x)) P)), (3, .int (nI P))], [.int (nI P), .int (nI P)], XH tx n (nI P, nI C, nI R, nI L, hs, ss, cs, gs, vs) dr rd (nI D, sm, nI N, nI K, ce, de, ke, se) i0 i1 kp dd tr m)
    refine zq_if .ge 37 (P ≤ P) (by decide +kernel) (zq_cge (a := P) (b := P) (by omega) (by omega)) (fun c12 => ?_) (fun c12 => absurd (by omega) c12)
    show zq_G _ _ _ _ _ 37 ([(0, .ref 15), (1, .int x), (2, .int (orB (fun p => decide (ce p = x)) P)), (3, .int (nI P))], [], XH tx n (nI P, nI C, nI R, nI L, hs, ss, cs, gs, vs) dr rd (nI D, sm, nI N, nI K, ce, de, ke, se) i0 i1 kp dd tr m)
    refine zq_b [zq_il 2] [zq_ilchk 2] 38 rfl (by decide +kernel) ?_
    show zq_G _ _ _ _ _ 38 ([(0, .ref 15), (1, .int x), (2, .int (orB (fun p => decide (ce p = x)) P)), (3, .int (nI P))], [.int (orB (fun p => decide (ce p = x)) P)], XH tx n (nI P, nI C, nI R, nI L, hs, ss, cs, gs, vs) dr rd (nI D, sm, nI N, nI K, ce, de, ke, se) i0 i1 kp dd tr m)
    exact zq_iret (by decide +kernel) rfl rfl rfl
set_option maxHeartbeats 4000000 in
set_option maxRecDepth 100000 in
theorem c_isInSmoke {k : Nat} (hk : k < 25) : zq_P l mX5_isInSmoke 1 [.ref 15, .int (nI k)] (XH tx n (nI P, nI C, nI R, nI L, hs, ss, cs, gs, vs) dr rd (nI D, sm, nI N, nI K, ce, de, ke, se) i0 i1 kp dd tr m) (some (.int (zb (smk sm k = true)))) (XH tx n (nI P, nI C, nI R, nI L, hs, ss, cs, gs, vs) dr rd (nI D, sm, nI N, nI K, ce, de, ke, se) i0 i1 kp dd tr m) := by
  refine zq_start (by decide +kernel) rfl (Nat.le_of_ble_eq_true rfl) ?_
  show zq_G _ _ _ _ _ 0 ([(0, .ref 15), (1, .int (nI k))], [], XH tx n (nI P, nI C, nI R, nI L, hs, ss, cs, gs, vs) dr rd (nI D, sm, nI N, nI K, ce, de, ke, se) i0 i1 kp dd tr m)
  refine zq_b [zq_il 1, zq_is1 2] [zq_ilchk 1, zq_is1chk 2] 2 rfl (by decide +kernel) ?_
  show zq_G _ _ _ _ _ 2 ([(0, .ref 15), (1, .int (nI k)), (2, .int (nI k))], [], XH tx n (nI P, nI C, nI R, nI L, hs, ss, cs, gs, vs) dr rd (nI D, sm, nI N, nI K, ce, de, ke, se) i0 i1 kp dd tr m)
  refine zq_eq (σ2 := ([(0, .ref 15), (1, .int (nI k)), (2, .int (zi ((k : Int) - 5 * (((0 : Nat) : Nat) : Int))))], [], XH tx n (nI P, nI C, nI R, nI L, hs, ss, cs, gs, vs) dr rd (nI D, sm, nI N, nI K, ce, de, ke, se) i0 i1 kp dd tr m)) (by rw [zi_nat (n := k) (by omega)]) ?_
  refine zq_loop (fun i => ([(0, .ref 15), (1, .int (nI k)), (2, .int (zi ((k : Int) - 5 * ((i : Nat) : Int))))], [], XH tx n (nI P, nI C, nI R, nI L, hs, ss, cs, gs, vs) dr rd (nI D, sm, nI N, nI K, ce, de, ke, se) i0 i1 kp dd tr m)) (fun i => ∀ j, j < i → decide (zbit sm (zi ((k : Int) - 5 * (j : Int))) = 1) = false) (k / 5 + 1) (0) (by omega) ((fun j hj => absurd hj (by omega))) (fun i hl2 hi2 hI2 ih2 => ?_) (fun hI2 => ?_)
  · show zq_G _ _ _ _ _ 2 ([(0, .ref 15), (1, .int (nI k)), (2, .int (zi ((k : Int) - 5 * ((i : Nat) : Int))))], [], XH tx n (nI P, nI C, nI R, nI L, hs, ss, cs, gs, vs) dr rd (nI D, sm, nI N, nI K, ce, de, ke, se) i0 i1 kp dd tr m)
    refine zq_b [zq_il 2] [zq_ilchk 2] 3 rfl (by decide +kernel) ?_
    show zq_G _ _ _ _ _ 3 ([(0, .ref 15), (1, .int (nI k)), (2, .int (zi ((k : Int) - 5 * ((i : Nat) : Int))))], [.int (zi ((k : Int) - 5 * ((i : Nat) : Int)))], XH tx n (nI P, nI C, nI R, nI L, hs, ss, cs, gs, vs) dr rd (nI D, sm, nI N, nI K, ce, de, ke, se) i0 i1 kp dd tr m)
    refine zq_ifz .lt 26 (((k : Int) - 5 * ((i : Nat) : Int)) < 0) (by decide +kernel) (zi_lt0 (by omega) (by omega)) (fun c3 => absurd c3 (by omega)) (fun c3 => ?_)
    show zq_G _ _ _ _ _ 6 ([(0, .ref 15), (1, .int (nI k)), (2, .int (zi ((k : Int) - 5 * ((i : Nat) : Int))))], [], XH tx n (nI P, nI C, nI R, nI L, hs, ss, cs, gs, vs) dr rd (nI D, sm, nI N, nI K, ce, de, ke, se) i0 i1 kp dd tr m)
    refine zq_b [zq_al 0, zq_get 5 2, zq_il 2] [zq_alchk 0, zq_getchk 5 2, zq_ilchk 2] 11 rfl (by decide +kernel) ?_
    show zq_G _ _ _ _ _ 11 ([(0, .ref 15), (1, .int (nI k)), (2, .int (zi ((k : Int) - 5 * ((i : Nat) : Int))))], [.int (zi ((k : Int) - 5 * ((i : Nat) : Int))), .int sm], XH tx n (nI P, nI C, nI R, nI L, hs, ss, cs, gs, vs) dr rd (nI D, sm, nI N, nI K, ce, de, ke, se) i0 i1 kp dd tr m)
    refine zq_callN (av := [.int sm, .int (zi ((k : Int) - 5 * ((i : Nat) : Int)))]) (rest := []) (by decide +kernel) k5_60 (c_bit (x := sm) (p := (zi ((k : Int) - 5 * ((i : Nat) : Int))))) rfl rfl ?_
    show zq_G _ _ _ _ _ 14 ([(0, .ref 15), (1, .int (nI k)), (2, .int (zi ((k : Int) - 5 * ((i : Nat) : Int))))], [.int (zbit sm (zi ((k : Int) - 5 * ((i : Nat) : Int))))], XH tx n (nI P, nI C, nI R, nI L, hs, ss, cs, gs, vs) dr rd (nI D, sm, nI N, nI K, ce, de, ke, se) i0 i1 kp dd tr m)
    refine zq_b [zq_k 1] [zq_kchk 1] 15 rfl (by decide +kernel) ?_
    show zq_G _ _ _ _ _ 15 ([(0, .ref 15), (1, .int (nI k)), (2, .int (zi ((k : Int) - 5 * ((i : Nat) : Int))))], [.int 1, .int (zbit sm (zi ((k : Int) - 5 * ((i : Nat) : Int))))], XH tx n (nI P, nI C, nI R, nI L, hs, ss, cs, gs, vs) dr rd (nI D, sm, nI N, nI K, ce, de, ke, se) i0 i1 kp dd tr m)
    refine zq_if .ne 20 (¬ (zbit sm (zi ((k : Int) - 5 * ((i : Nat) : Int)))) = 1) (by decide +kernel) (Iff.rfl) (fun c15 => ?_) (fun c15 => ?_)
    · show zq_G _ _ _ _ _ 20 ([(0, .ref 15), (1, .int (nI k)), (2, .int (zi ((k : Int) - 5 * ((i : Nat) : Int))))], [], XH tx n (nI P, nI C, nI R, nI L, hs, ss, cs, gs, vs) dr rd (nI D, sm, nI N, nI K, ce, de, ke, se) i0 i1 kp dd tr m)
      refine zq_b [zq_inc 2 (-5) (zi ((k : Int) - 5 * ((i + 1 : Nat) : Int))), zq_go] [zq_incchk 2 (-5), zq_gochk] 2 rfl (by decide +kernel) ?_
      refine ⟨(zi_step k i), ?_⟩
      show zq_G _ _ _ _ _ 2 ([(0, .ref 15), (1, .int (nI k)), (2, .int (zi ((k : Int) - 5 * ((i + 1 : Nat) : Int))))], [], XH tx n (nI P, nI C, nI R, nI L, hs, ss, cs, gs, vs) dr rd (nI D, sm, nI N, nI K, ce, de, ke, se) i0 i1 kp dd tr m)
      exact ih2 (lt_ext hI2 (decide_eq_false c15))
    · show zq_G _ _ _ _ _ 18 ([(0, .ref 15), (1, .int (nI k)), (2, .int (zi ((k : Int) - 5 * ((i : Nat) : Int))))], [], XH tx n (nI P, nI C, nI R, nI L, hs, ss, cs, gs, vs) dr rd (nI D, sm, nI N, nI K, ce, de, ke, se) i0 i1 kp dd tr m)
      refine zq_b [zq_k 1] [zq_kchk 1] 19 rfl (by decide +kernel) ?_
      show zq_G _ _ _ _ _ 19 ([(0, .ref 15), (1, .int (nI k)), (2, .int (zi ((k : Int) - 5 * ((i : Nat) : Int))))], [.int 1], XH tx n (nI P, nI C, nI R, nI L, hs, ss, cs, gs, vs) dr rd (nI D, sm, nI N, nI K, ce, de, ke, se) i0 i1 kp dd tr m)
      exact zq_zret (by decide +kernel) rfl (Or.inr rfl) (zb_r (zb_t (zany_i hi2 (by simpa using c15)))) rfl
  · show zq_G _ _ _ _ _ 2 ([(0, .ref 15), (1, .int (nI k)), (2, .int (zi ((k : Int) - 5 * ((k / 5 + 1 : Nat) : Int))))], [], XH tx n (nI P, nI C, nI R, nI L, hs, ss, cs, gs, vs) dr rd (nI D, sm, nI N, nI K, ce, de, ke, se) i0 i1 kp dd tr m)
    refine zq_b [zq_il 2] [zq_ilchk 2] 3 rfl (by decide +kernel) ?_
    show zq_G _ _ _ _ _ 3 ([(0, .ref 15), (1, .int (nI k)), (2, .int (zi ((k : Int) - 5 * ((k / 5 + 1 : Nat) : Int))))], [.int (zi ((k : Int) - 5 * ((k / 5 + 1 : Nat) : Int)))], XH tx n (nI P, nI C, nI R, nI L, hs, ss, cs, gs, vs) dr rd (nI D, sm, nI N, nI K, ce, de, ke, se) i0 i1 kp dd tr m)
    refine zq_ifz .lt 26 (((k : Int) - 5 * ((k / 5 + 1 : Nat) : Int)) < 0) (by decide +kernel) (zi_lt0 (by omega) (by omega)) (fun c3 => ?_) (fun c3 => absurd (by omega) c3)
    show zq_G _ _ _ _ _ 26 ([(0, .ref 15), (1, .int (nI k)), (2, .int (zi ((k : Int) - 5 * ((k / 5 + 1 : Nat) : Int))))], [], XH tx n (nI P, nI C, nI R, nI L, hs, ss, cs, gs, vs) dr rd (nI D, sm, nI N, nI K, ce, de, ke, se) i0 i1 kp dd tr m)
    refine zq_b [zq_k 0] [zq_kchk 0] 27 rfl (by decide +kernel) ?_
    show zq_G _ _ _ _ _ 27 ([(0, .ref 15), (1, .int (nI k)), (2, .int (zi ((k : Int) - 5 * ((k / 5 + 1 : Nat) : Int))))], [.int 0], XH tx n (nI P, nI C, nI R, nI L, hs, ss, cs, gs, vs) dr rd (nI D, sm, nI N, nI K, ce, de, ke, se) i0 i1 kp dd tr m)
    exact zq_zret (by decide +kernel) rfl (Or.inl rfl) (zb_r (zb_f (by unfold smk; rw [zany_f hI2]; exact Bool.false_ne_true))) rfl
set_option maxHeartbeats 4000000 in
set_option maxRecDepth 100000 in
theorem c_isAhead {a : Nat} {b : Nat} (ha : a ≤ 26) (hb : b < 25) : zq_P l mX5_isAhead 1 [.int (nI a), .int (nI b)] (h) (some (.int (zb (aheadB a b = true)))) (h) := by
  refine zq_start (by decide +kernel) rfl (Nat.le_of_ble_eq_true rfl) ?_
  show zq_G _ _ _ _ _ 0 ([(0, .int (nI a)), (1, .int (nI b))], [], h)
  refine zq_b [zq_il 0] [zq_ilchk 0] 1 rfl (by decide +kernel) ?_
  show zq_G _ _ _ _ _ 1 ([(0, .int (nI a)), (1, .int (nI b))], [.int (nI a)], h)
  refine zq_callN (av := [.int (nI a)]) (rest := []) (by decide +kernel) k5_84 (c_isInSquare (a := a) (by omega)) rfl rfl ?_
  show zq_G _ _ _ _ _ 4 ([(0, .int (nI a)), (1, .int (nI b))], [.int (zb (a < 25))], h)
  refine zq_ifz .eq 25 (¬ (a < 25)) (by decide +kernel) (zb_eq _) (fun c4 => ?_) (fun c4 => ?_)
  · show zq_G _ _ _ _ _ 25 ([(0, .int (nI a)), (1, .int (nI b))], [], h)
    refine zq_b [zq_k 0] [zq_kchk 0] 26 rfl (by decide +kernel) ?_
    show zq_G _ _ _ _ _ 26 ([(0, .int (nI a)), (1, .int (nI b))], [.int 0], h)
    exact zq_zret (by decide +kernel) rfl (Or.inl rfl) (zb_r (zb_f (by unfold aheadB; simp; omega))) rfl
  · show zq_G _ _ _ _ _ 7 ([(0, .int (nI a)), (1, .int (nI b))], [], h)
    refine zq_b [zq_il 0, zq_il 1] [zq_ilchk 0, zq_ilchk 1] 9 rfl (by decide +kernel) ?_
    show zq_G _ _ _ _ _ 9 ([(0, .int (nI a)), (1, .int (nI b))], [.int (nI b), .int (nI a)], h)
    refine zq_if .ge 25 (b ≤ a) (by decide +kernel) (zq_cge (a := a) (b := b) (by omega) (by omega)) (fun c9 => ?_) (fun c9 => ?_)
    · show zq_G _ _ _ _ _ 25 ([(0, .int (nI a)), (1, .int (nI b))], [], h)
      refine zq_b [zq_k 0] [zq_kchk 0] 26 rfl (by decide +kernel) ?_
      show zq_G _ _ _ _ _ 26 ([(0, .int (nI a)), (1, .int (nI b))], [.int 0], h)
      exact zq_zret (by decide +kernel) rfl (Or.inl rfl) (zb_r (zb_f (by unfold aheadB; simp; omega))) rfl
    · show zq_G _ _ _ _ _ 12 ([(0, .int (nI a)), (1, .int (nI b))], [], h)
      refine zq_b [zq_il 0, zq_k 5, zq_irem (nI (a % 5)), zq_il 1, zq_k 5, zq_irem (nI (b % 5))] [zq_ilchk 0, zq_kchk 5, zq_is .irem 1, zq_ilchk 1, zq_kchk 5, zq_is .irem 1] 18 rfl (by decide +kernel) ?_
      refine ⟨(by decide), (zq_rem (a := a) (b := 5) (by omega) (by omega) (by omega)), (by decide), (zq_rem (a := b) (b := 5) (by omega) (by omega) (by omega)), ?_⟩
      show zq_G _ _ _ _ _ 18 ([(0, .int (nI a)), (1, .int (nI b))], [.int (nI (b % 5)), .int (nI (a % 5))], h)
      refine zq_if .ne 25 (¬ (a % 5) = (b % 5)) (by decide +kernel) (zq_cne (a := a % 5) (b := b % 5) (by omega) (by omega)) (fun c18 => ?_) (fun c18 => ?_)
      · show zq_G _ _ _ _ _ 25 ([(0, .int (nI a)), (1, .int (nI b))], [], h)
        refine zq_b [zq_k 0] [zq_kchk 0] 26 rfl (by decide +kernel) ?_
        show zq_G _ _ _ _ _ 26 ([(0, .int (nI a)), (1, .int (nI b))], [.int 0], h)
        exact zq_zret (by decide +kernel) rfl (Or.inl rfl) (zb_r (zb_f (by unfold aheadB; simp; omega))) rfl
      · show zq_G _ _ _ _ _ 21 ([(0, .int (nI a)), (1, .int (nI b))], [], h)
        refine zq_b [zq_k 1, zq_go] [zq_kchk 1, zq_gochk] 26 rfl (by decide +kernel) ?_
        show zq_G _ _ _ _ _ 26 ([(0, .int (nI a)), (1, .int (nI b))], [.int 1], h)
        exact zq_zret (by decide +kernel) rfl (Or.inr rfl) (zb_r (zb_t (by unfold aheadB; simp; omega))) rfl
end XV1
end
section
section XV2
variable {l : Launch} {tx : Nat → Int32} {n : Int32} {t dr : zT} {rd : zR} {w i0 i1 : zN} {kp : Nat → Int32} {dd : Int32} {tr : Int64} {m : Nat → zq_C} {h : zq_H}
variable {P C R L D N K Z : Nat} {hs ss cs gs vs ce de ke se : Nat → Int32} {sm : Int32} {cn ga va : Nat → Nat}
theorem zcm_le {mv : Int32} {wc q : Nat} {cn : Nat → Nat} (h1 : wc ≤ 26) (h2 : cn q ≤ 26) : zcm mv wc cn q ≤ 26 := by unfold zcm; split <;> assumption
theorem bareB_c {P : Nat} {hs : Nat → Int32} {sm : Int32} {cc ck : Nat → Nat} {p : Nat} (hp : p < P) (h : ∀ q, q < P → cc q = ck q) : bareB P hs sm cc p = bareB P hs sm ck p := by
  unfold bareB
  rw [h p hp, zany_c (fun q hq => by rw [h q hq])]
theorem nI_m1 {q : Nat} (h : q < 100) : ¬ nI q = -1 := by
  intro e
  have := congrArg Int32.toInt e
  rw [nI_toInt (by omega)] at this
  have e2 : (-1 : Int32).toInt = -1 := by decide
  omega
def zseen (C : Nat) (cs : Nat → Int32) (D P : Nat) (hs : Nat → Int32) (sm : Int32) (cn : Nat → Nat) : Int32 := if zany (fun i => decide (cs i = nI D)) C = true then 0 else orB (bareB P hs sm cn) P
def nearN (f : Nat → Bool) (cn : Nat → Nat) : Nat → Nat
  | 0 => 5
  | n + 1 => if f n = true then min (nearN f cn n) (cn n / 5) else nearN f cn n
def farN (f : Nat → Bool) (cn : Nat → Nat) : Nat → Nat
  | 0 => 0
  | n + 1 => if f n = true then max (farN f cn n) (cn n / 5 + 1) else farN f cn n
theorem nearN_t {f : Nat → Bool} {cn : Nat → Nat} {n : Nat} (h : f n = true) : nearN f cn (n + 1) = min (nearN f cn n) (cn n / 5) := by rw [nearN, if_pos h]
theorem nearN_f {f : Nat → Bool} {cn : Nat → Nat} {n : Nat} (h : f n = false) : nearN f cn (n + 1) = nearN f cn n := by rw [nearN, if_neg (by rw [h]; exact Bool.false_ne_true)]
theorem farN_t {f : Nat → Bool} {cn : Nat → Nat} {n : Nat} (h : f n = true) : farN f cn (n + 1) = max (farN f cn n) (cn n / 5 + 1) := by rw [farN, if_pos h]
theorem farN_f {f : Nat → Bool} {cn : Nat → Nat} {n : Nat} (h : f n = false) : farN f cn (n + 1) = farN f cn n := by rw [farN, if_neg (by rw [h]; exact Bool.false_ne_true)]
theorem nearN_le (f : Nat → Bool) (cn : Nat → Nat) (n : Nat) : nearN f cn n ≤ 5 := by
  induction n with
  | zero => exact Nat.le_refl 5
  | succ n ih => rw [nearN]; split <;> omega
theorem farN_le {f : Nat → Bool} {cn : Nat → Nat} {n : Nat} (h : ∀ q, q < n → cn q ≤ 26) : farN f cn n ≤ 6 := by
  induction n with
  | zero => exact Nat.zero_le _
  | succ n ih =>
    have h1 := ih (fun q hq => h q (by omega))
    have h2 := h n (by omega)
    rw [farN]; split <;> omega
def colB (b : Int32) (cn : Nat → Nat) (c : Nat) : Nat → Bool := fun p => decide (zbit b (nI p) = 1) && decide (cn p % 5 = c)
def lsm (nr fr : Nat → Nat) : Nat → Int32
  | 0 => 0
  | n + 1 => if nr n < 5 then lsm nr fr n ||| ((1 : Int32) <<< (nI (fr n * 5 + n) &&& 31)) else lsm nr fr n
theorem lsm_t {nr fr : Nat → Nat} {n : Nat} (h : nr n < 5) : lsm nr fr (n + 1) = lsm nr fr n ||| ((1 : Int32) <<< (nI (fr n * 5 + n) &&& 31)) := by rw [lsm, if_pos h]
theorem lsm_f {nr fr : Nat → Nat} {n : Nat} (h : ¬ nr n < 5) : lsm nr fr (n + 1) = lsm nr fr n := by rw [lsm, if_neg h]
def zleast (nr fr : Nat → Nat) : Int32 := if zany (fun c => decide (nr c < 5) && decide (nr c < fr c)) 5 = true then -9 else lsm nr fr 5
theorem nI_min (a b : Nat) (ha : a < 2147483648) (hb : b < 2147483648) : (if nI b < nI a then nI b else nI a) = nI (min a b) := by
  by_cases h : b < a
  · rw [if_pos ((nI_ltI hb ha).mpr h), Nat.min_eq_right (by omega)]
  · rw [if_neg (fun q => h ((nI_ltI hb ha).mp q)), Nat.min_eq_left (by omega)]
theorem zi_max (a b : Nat) (ha : a < 1000) (hb : b < 1000) : (if zi ((a : Int) - 1) < nI b then nI b else zi ((a : Int) - 1)) = zi (((max a (b + 1) : Nat) : Int) - 1) := by
  have e : zi ((a : Int) - 1) < nI b ↔ (a : Int) - 1 < b := by rw [Int32.lt_iff_toInt_lt, zi_toInt (by omega) (by omega), nI_toInt (by omega)]
  by_cases h : (a : Int) - 1 < b
  · rw [if_pos (e.mpr h), Nat.max_eq_right (by omega), zi_nat (z := ((b + 1 : Nat) : Int) - 1) (n := b) (by omega)]
  · rw [if_neg (fun q => h (e.mp q)), Nat.max_eq_left (by omega)]
def zk9 (K : Nat) : Nat := if K < 10 then K else 9
def zsh (K : Nat) (se : Nat → Int32) : Nat → Int32 := if K < 10 then se else va_cpy se se 3 0 27
theorem zk9_t {K : Nat} (h : K < 10) : zk9 K = K := by unfold zk9; rw [if_pos h]
theorem zk9_f {K : Nat} (h : ¬ K < 10) : zk9 K = 9 := by unfold zk9; rw [if_neg h]
theorem zk9_lt (K : Nat) : zk9 K < 10 := by unfold zk9; split <;> omega
theorem zsh_t {K : Nat} {se : Nat → Int32} (h : K < 10) : zsh K se = se := by unfold zsh; rw [if_pos h]
theorem zsh_f {K : Nat} {se : Nat → Int32} (h : ¬ K < 10) : zsh K se = va_cpy se se 3 0 27 := by unfold zsh; rw [if_neg h]
def zse (K : Nat) (se : Nat → Int32) (x y z : Int32) : Nat → Int32 := upd (upd (upd (zsh K se) (zk9 K * 3) x) (zk9 K * 3 + 1) y) (zk9 K * 3 + 2) z
def zde (N : Nat) (de : Nat → Int32) (x0 x1 x2 x3 x4 : Int32) : Nat → Int32 := upd (upd (upd (upd (upd de (N * 5 + 0) x0) (N * 5 + 1) x1) (N * 5 + 2) x2) (N * 5 + 3) x3) (N * 5 + 4) x4
def zbc (x : Int32) : Int32 :=
  let u (x y : Int32) : Int32 := (Int32.toUInt32 x >>> (Int32.toUInt32 y &&& Int32.toUInt32 31)).toInt32
  let a := x - (u x 1 &&& 1431655765)
  let b := (a &&& 858993459) + (u a 2 &&& 858993459)
  let c := (b + u b 4) &&& 252645135
  let d := c + u c 8
  let e := d + u d 16
  e &&& 63
def zac (acts : Int32) (nr fr : Nat → Int32) : Nat → Int32
  | 0 => 0
  | n + 1 => if zbit acts (nr n) = 1 then zac acts nr fr n ||| ((1 : Int32) <<< (fr n &&& 31)) else zac acts nr fr n
theorem zac_t {acts : Int32} {nr fr : Nat → Int32} {n : Nat} (h : zbit acts (nr n) = 1) : zac acts nr fr (n + 1) = zac acts nr fr n ||| ((1 : Int32) <<< (fr n &&& 31)) := by rw [zac, if_pos h]
theorem zac_f {acts : Int32} {nr fr : Nat → Int32} {n : Nat} (h : ¬ zbit acts (nr n) = 1) : zac acts nr fr (n + 1) = zac acts nr fr n := by rw [zac, if_neg h]
def ownF (de : Nat → Int32) (act day late : Int32) : Nat → Bool := fun i => decide (de (i * 5 + 4) = 1) && decide (de (i * 5 + 2) + late ≤ day) && decide (de (i * 5 + 1) = act)
def zown (de : Nat → Int32) (N : Nat) (act day late : Int32) : Int32 := zls (ownF de act day late) (fun i => de (i * 5 + 0)) N
def zlad (own : Nat → Int32) (acts : Int32) : Int32 := zfs (fun a => decide (zbit acts (nI a) = 1) && decide (¬ own a = -9)) own 8
def zrg (f : Int32 → Int32) (a : Int32) : Nat → Int32 × Int32
  | 0 => (a, a)
  | n + 1 => (f (zrg f a n).1 &&& ((zrg f a n).2 ^^^ -1), (zrg f a n).2 ||| (f (zrg f a n).1 &&& ((zrg f a n).2 ^^^ -1)))
def zwho (f : Int32 → Int32) (own : Nat → Int32) (a : Int32) : Int32 := zfs (fun i => decide (¬ zlad own (zrg f a i).1 = -9)) (fun i => zlad own (zrg f a i).1) 8
def zrc (f : Int32 → Int32) (x : Int32) : Nat → Int32
  | 0 => x
  | n + 1 => zrc f x n ||| f (zrc f x n)
theorem zi_dn2 {N i : Nat} (h : i < N) : nI (N - 1 - i) + Int32.ofInt (-1) = zi ((N : Int) - 1 - ((i + 1 : Nat) : Int)) := by
  rw [← zi_nat (z := (N : Int) - 1 - (i : Int)) (by omega)]
  exact zi_dn N i
set_option maxHeartbeats 4000000 in
set_option maxRecDepth 100000 in
theorem c_shows {p : Nat} {mv : Int32} {wc : Nat} (hp : p < P) (hwc : wc ≤ 26) (hP : P ≤ 6) (hce : ∀ j, j < P → ce j = nI (cn j) ∧ cn j ≤ 26) : zq_P l mX5_shows 2 [.ref 15, .int (nI p), .int mv, .int (nI wc)] (XH tx n (nI P, nI C, nI R, nI L, hs, ss, cs, gs, vs) dr rd (nI D, sm, nI N, nI K, ce, de, ke, se) i0 i1 kp dd tr m) (some (.int (zb (bareB P hs sm (zcm mv wc cn) p = true)))) (XH tx n (nI P, nI C, nI R, nI L, hs, ss, cs, gs, vs) dr rd (nI D, sm, nI N, nI K, ce, de, ke, se) i0 i1 kp dd tr m) := by
  refine zq_start (by decide +kernel) rfl (Nat.le_of_ble_eq_true rfl) ?_
  show zq_G _ _ _ _ _ 0 ([(0, .ref 15), (1, .int (nI p)), (2, .int mv), (3, .int (nI wc))], [], XH tx n (nI P, nI C, nI R, nI L, hs, ss, cs, gs, vs) dr rd (nI D, sm, nI N, nI K, ce, de, ke, se) i0 i1 kp dd tr m)
  have hz : ∀ q, q < P → zcm mv wc cn q ≤ 26 := fun q hq => zcm_le hwc (hce q hq).2
  have hzp := hz p hp
  refine zq_b [zq_il 1, zq_il 2] [zq_ilchk 1, zq_ilchk 2] 2 rfl (by decide +kernel) ?_
  show zq_G _ _ _ _ _ 2 ([(0, .ref 15), (1, .int (nI p)), (2, .int mv), (3, .int (nI wc))], [.int mv, .int (nI p)], XH tx n (nI P, nI C, nI R, nI L, hs, ss, cs, gs, vs) dr rd (nI D, sm, nI N, nI K, ce, de, ke, se) i0 i1 kp dd tr m)
  refine zq_if .ne 9 (¬ (nI p) = mv) (by decide +kernel) (Iff.rfl) (fun c2 => ?_) (fun c2 => ?_)
  · show zq_G _ _ _ _ _ 9 ([(0, .ref 15), (1, .int (nI p)), (2, .int mv), (3, .int (nI wc))], [], XH tx n (nI P, nI C, nI R, nI L, hs, ss, cs, gs, vs) dr rd (nI D, sm, nI N, nI K, ce, de, ke, se) i0 i1 kp dd tr m)
    refine zq_b [zq_al 0, zq_get 5 5, zq_il 1, zq_iald p (nI (cn p))] [zq_alchk 0, zq_getchk 5 5, zq_ilchk 1, zq_is .iaload 1] 15 rfl (by decide +kernel) ?_
    refine ⟨rfl, (by omega), (by omega), (hce _ hp).1, ?_⟩
    show zq_G _ _ _ _ _ 15 ([(0, .ref 15), (1, .int (nI p)), (2, .int mv), (3, .int (nI wc))], [.int (nI (cn p))], XH tx n (nI P, nI C, nI R, nI L, hs, ss, cs, gs, vs) dr rd (nI D, sm, nI N, nI K, ce, de, ke, se) i0 i1 kp dd tr m)
    refine zq_eq (σ2 := ([(0, .ref 15), (1, .int (nI p)), (2, .int mv), (3, .int (nI wc))], [.int (nI (zcm mv wc cn p))], XH tx n (nI P, nI C, nI R, nI L, hs, ss, cs, gs, vs) dr rd (nI D, sm, nI N, nI K, ce, de, ke, se) i0 i1 kp dd tr m)) (by rw [zcm_f c2]) ?_
    refine zq_b [zq_is1 4, zq_il 4] [zq_is1chk 4, zq_ilchk 4] 19 rfl (by decide +kernel) ?_
    show zq_G _ _ _ _ _ 19 ([(0, .ref 15), (1, .int (nI p)), (2, .int mv), (3, .int (nI wc)), (4, .int (nI (zcm mv wc cn p)))], [.int (nI (zcm mv wc cn p))], XH tx n (nI P, nI C, nI R, nI L, hs, ss, cs, gs, vs) dr rd (nI D, sm, nI N, nI K, ce, de, ke, se) i0 i1 kp dd tr m)
    refine zq_callN (av := [.int (nI (zcm mv wc cn p))]) (rest := []) (by decide +kernel) k5_84 (c_isInSquare (a := (zcm mv wc cn p)) (by omega)) rfl rfl ?_
    show zq_G _ _ _ _ _ 22 ([(0, .ref 15), (1, .int (nI p)), (2, .int mv), (3, .int (nI wc)), (4, .int (nI (zcm mv wc cn p)))], [.int (zb ((zcm mv wc cn p) < 25))], XH tx n (nI P, nI C, nI R, nI L, hs, ss, cs, gs, vs) dr rd (nI D, sm, nI N, nI K, ce, de, ke, se) i0 i1 kp dd tr m)
    refine zq_ifz .eq 34 (¬ ((zcm mv wc cn p) < 25)) (by decide +kernel) (zb_eq _) (fun c22 => ?_) (fun c22 => ?_)
    · show zq_G _ _ _ _ _ 34 ([(0, .ref 15), (1, .int (nI p)), (2, .int mv), (3, .int (nI wc)), (4, .int (nI (zcm mv wc cn p)))], [], XH tx n (nI P, nI C, nI R, nI L, hs, ss, cs, gs, vs) dr rd (nI D, sm, nI N, nI K, ce, de, ke, se) i0 i1 kp dd tr m)
      refine zq_b [zq_k 0] [zq_kchk 0] 35 rfl (by decide +kernel) ?_
      show zq_G _ _ _ _ _ 35 ([(0, .ref 15), (1, .int (nI p)), (2, .int mv), (3, .int (nI wc)), (4, .int (nI (zcm mv wc cn p)))], [.int 0], XH tx n (nI P, nI C, nI R, nI L, hs, ss, cs, gs, vs) dr rd (nI D, sm, nI N, nI K, ce, de, ke, se) i0 i1 kp dd tr m)
      exact zq_zret (by decide +kernel) rfl (Or.inl rfl) (zb_r (zb_f (by unfold bareB; rw [decide_eq_false c22]; simp))) rfl
    · show zq_G _ _ _ _ _ 25 ([(0, .ref 15), (1, .int (nI p)), (2, .int mv), (3, .int (nI wc)), (4, .int (nI (zcm mv wc cn p)))], [], XH tx n (nI P, nI C, nI R, nI L, hs, ss, cs, gs, vs) dr rd (nI D, sm, nI N, nI K, ce, de, ke, se) i0 i1 kp dd tr m)
      refine zq_b [zq_al 0, zq_il 4] [zq_alchk 0, zq_ilchk 4] 28 rfl (by decide +kernel) ?_
      show zq_G _ _ _ _ _ 28 ([(0, .ref 15), (1, .int (nI p)), (2, .int mv), (3, .int (nI wc)), (4, .int (nI (zcm mv wc cn p)))], [.int (nI (zcm mv wc cn p)), .ref 15], XH tx n (nI P, nI C, nI R, nI L, hs, ss, cs, gs, vs) dr rd (nI D, sm, nI N, nI K, ce, de, ke, se) i0 i1 kp dd tr m)
      refine zq_callV (av := [.int (nI (zcm mv wc cn p))]) (rest := []) (by decide +kernel) k5_87 (c_isInSmoke (k := (zcm mv wc cn p)) (by omega)) rfl rfl rfl rfl ?_
      show zq_G _ _ _ _ _ 31 ([(0, .ref 15), (1, .int (nI p)), (2, .int mv), (3, .int (nI wc)), (4, .int (nI (zcm mv wc cn p)))], [.int (zb (smk sm (zcm mv wc cn p) = true))], XH tx n (nI P, nI C, nI R, nI L, hs, ss, cs, gs, vs) dr rd (nI D, sm, nI N, nI K, ce, de, ke, se) i0 i1 kp dd tr m)
      refine zq_ifz .eq 36 (¬ (smk sm (zcm mv wc cn p) = true)) (by decide +kernel) (zb_eq _) (fun c31 => ?_) (fun c31 => ?_)
      · show zq_G _ _ _ _ _ 36 ([(0, .ref 15), (1, .int (nI p)), (2, .int mv), (3, .int (nI wc)), (4, .int (nI (zcm mv wc cn p)))], [], XH tx n (nI P, nI C, nI R, nI L, hs, ss, cs, gs, vs) dr rd (nI D, sm, nI N, nI K, ce, de, ke, se) i0 i1 kp dd tr m)
        refine zq_b [zq_k 0, zq_is1 5] [zq_kchk 0, zq_is1chk 5] 39 rfl (by decide +kernel) ?_
        show zq_G _ _ _ _ _ 39 ([(0, .ref 15), (1, .int (nI p)), (2, .int mv), (3, .int (nI wc)), (4, .int (nI (zcm mv wc cn p))), (5, .int 0)], [], XH tx n (nI P, nI C, nI R, nI L, hs, ss, cs, gs, vs) dr rd (nI D, sm, nI N, nI K, ce, de, ke, se) i0 i1 kp dd tr m)
        refine zq_loop (fun i => ([(0, .ref 15), (1, .int (nI p)), (2, .int mv), (3, .int (nI wc)), (4, .int (nI (zcm mv wc cn p))), (5, .int (nI i))], [], XH tx n (nI P, nI C, nI R, nI L, hs, ss, cs, gs, vs) dr rd (nI D, sm, nI N, nI K, ce, de, ke, se) i0 i1 kp dd tr m)) (fun i => ∀ j, j < i → (decide (hs p ≤ hs j) && aheadB (zcm mv wc cn j) (zcm mv wc cn p)) = false) (P) (0) (by omega) ((fun j hj => absurd hj (by omega))) (fun i hl39 hi39 hI39 ih39 => ?_) (fun hI39 => ?_)
        · show zq_G _ _ _ _ _ 39 ([(0, .ref 15), (1, .int (nI p)), (2, .int mv), (3, .int (nI wc)), (4, .int (nI (zcm mv wc cn p))), (5, .int (nI i))], [], XH tx n (nI P, nI C, nI R, nI L, hs, ss, cs, gs, vs) dr rd (nI D, sm, nI N, nI K, ce, de, ke, se) i0 i1 kp dd tr m)
          have hzi := hz i hi39
          refine zq_b [zq_il 5, zq_al 0, zq_get 5 0, zq_get 9 0] [zq_ilchk 5, zq_alchk 0, zq_getchk 5 0, zq_getchk 9 0] 48 rfl (by decide +kernel) ?_
          show zq_G _ _ _ _ _ 48 ([(0, .ref 15), (1, .int (nI p)), (2, .int mv), (3, .int (nI wc)), (4, .int (nI (zcm mv wc cn p))), (5, .int (nI i))], [.int (nI P), .int (nI i)], XH tx n (nI P, nI C, nI R, nI L, hs, ss, cs, gs, vs) dr rd (nI D, sm, nI N, nI K, ce, de, ke, se) i0 i1 kp dd tr m)
          refine zq_if .ge 110 (P ≤ i) (by decide +kernel) (zq_cge (a := i) (b := P) (by omega) (by omega)) (fun c48 => absurd c48 (by omega)) (fun c48 => ?_)
          show zq_G _ _ _ _ _ 51 ([(0, .ref 15), (1, .int (nI p)), (2, .int mv), (3, .int (nI wc)), (4, .int (nI (zcm mv wc cn p))), (5, .int (nI i))], [], XH tx n (nI P, nI C, nI R, nI L, hs, ss, cs, gs, vs) dr rd (nI D, sm, nI N, nI K, ce, de, ke, se) i0 i1 kp dd tr m)
          refine zq_b [zq_il 5, zq_il 2] [zq_ilchk 5, zq_ilchk 2] 54 rfl (by decide +kernel) ?_
          show zq_G _ _ _ _ _ 54 ([(0, .ref 15), (1, .int (nI p)), (2, .int mv), (3, .int (nI wc)), (4, .int (nI (zcm mv wc cn p))), (5, .int (nI i))], [.int mv, .int (nI i)], XH tx n (nI P, nI C, nI R, nI L, hs, ss, cs, gs, vs) dr rd (nI D, sm, nI N, nI K, ce, de, ke, se) i0 i1 kp dd tr m)
          refine zq_if .ne 61 (¬ (nI i) = mv) (by decide +kernel) (Iff.rfl) (fun c54 => ?_) (fun c54 => ?_)
          · show zq_G _ _ _ _ _ 61 ([(0, .ref 15), (1, .int (nI p)), (2, .int mv), (3, .int (nI wc)), (4, .int (nI (zcm mv wc cn p))), (5, .int (nI i))], [], XH tx n (nI P, nI C, nI R, nI L, hs, ss, cs, gs, vs) dr rd (nI D, sm, nI N, nI K, ce, de, ke, se) i0 i1 kp dd tr m)
            refine zq_b [zq_al 0, zq_get 5 5, zq_il 5, zq_iald i (nI (cn i))] [zq_alchk 0, zq_getchk 5 5, zq_ilchk 5, zq_is .iaload 1] 68 rfl (by decide +kernel) ?_
            refine ⟨rfl, (by omega), (by omega), (hce _ hi39).1, ?_⟩
            show zq_G _ _ _ _ _ 68 ([(0, .ref 15), (1, .int (nI p)), (2, .int mv), (3, .int (nI wc)), (4, .int (nI (zcm mv wc cn p))), (5, .int (nI i))], [.int (nI (cn i))], XH tx n (nI P, nI C, nI R, nI L, hs, ss, cs, gs, vs) dr rd (nI D, sm, nI N, nI K, ce, de, ke, se) i0 i1 kp dd tr m)
            refine zq_eq (σ2 := ([(0, .ref 15), (1, .int (nI p)), (2, .int mv), (3, .int (nI wc)), (4, .int (nI (zcm mv wc cn p))), (5, .int (nI i))], [.int (nI (zcm mv wc cn i))], XH tx n (nI P, nI C, nI R, nI L, hs, ss, cs, gs, vs) dr rd (nI D, sm, nI N, nI K, ce, de, ke, se) i0 i1 kp dd tr m)) (by rw [zcm_f c54]) ?_
            refine zq_b [zq_is1 6, zq_al 0, zq_get 5 0, zq_get 9 4, zq_il 5, zq_iald i (hs i), zq_al 0, zq_get 5 0, zq_get 9 4, zq_il 1, zq_iald p (hs p)] [zq_is1chk 6, zq_alchk 0, zq_getchk 5 0, zq_getchk 9 4, zq_ilchk 5, zq_is .iaload 1, zq_alchk 0, zq_getchk 5 0, zq_getchk 9 4, zq_ilchk 1, zq_is .iaload 1] 89 rfl (by decide +kernel) ?_
            refine ⟨rfl, (by omega), (by omega), rfl, rfl, (by omega), (by omega), rfl, ?_⟩
            show zq_G _ _ _ _ _ 89 ([(0, .ref 15), (1, .int (nI p)), (2, .int mv), (3, .int (nI wc)), (4, .int (nI (zcm mv wc cn p))), (5, .int (nI i)), (6, .int (nI (zcm mv wc cn i)))], [.int (hs p), .int (hs i)], XH tx n (nI P, nI C, nI R, nI L, hs, ss, cs, gs, vs) dr rd (nI D, sm, nI N, nI K, ce, de, ke, se) i0 i1 kp dd tr m)
            refine zq_if .lt 104 ((hs i) < (hs p)) (by decide +kernel) (Iff.rfl) (fun c89 => ?_) (fun c89 => ?_)
            · show zq_G _ _ _ _ _ 104 ([(0, .ref 15), (1, .int (nI p)), (2, .int mv), (3, .int (nI wc)), (4, .int (nI (zcm mv wc cn p))), (5, .int (nI i)), (6, .int (nI (zcm mv wc cn i)))], [], XH tx n (nI P, nI C, nI R, nI L, hs, ss, cs, gs, vs) dr rd (nI D, sm, nI N, nI K, ce, de, ke, se) i0 i1 kp dd tr m)
              refine zq_b [zq_inc 5 1 (nI (i + 1)), zq_go] [zq_incchk 5 1, zq_gochk] 39 rfl (by decide +kernel) ?_
              refine ⟨nI_add i 1, ?_⟩
              show zq_G _ _ _ _ _ 39 ([(0, .ref 15), (1, .int (nI p)), (2, .int mv), (3, .int (nI wc)), (4, .int (nI (zcm mv wc cn p))), (5, .int (nI (i + 1))), (6, .int (nI (zcm mv wc cn i)))], [], XH tx n (nI P, nI C, nI R, nI L, hs, ss, cs, gs, vs) dr rd (nI D, sm, nI N, nI K, ce, de, ke, se) i0 i1 kp dd tr m)
              refine zq_pick [0, 1, 2, 3, 4, 5] rfl ?_
              show zq_G _ _ _ _ _ 39 ([(0, .ref 15), (1, .int (nI p)), (2, .int mv), (3, .int (nI wc)), (4, .int (nI (zcm mv wc cn p))), (5, .int (nI (i + 1)))], [], XH tx n (nI P, nI C, nI R, nI L, hs, ss, cs, gs, vs) dr rd (nI D, sm, nI N, nI K, ce, de, ke, se) i0 i1 kp dd tr m)
              exact ih39 (lt_ext hI39 (by rw [decide_eq_false (Int32.not_le.mpr c89), Bool.false_and]))
            · show zq_G _ _ _ _ _ 92 ([(0, .ref 15), (1, .int (nI p)), (2, .int mv), (3, .int (nI wc)), (4, .int (nI (zcm mv wc cn p))), (5, .int (nI i)), (6, .int (nI (zcm mv wc cn i)))], [], XH tx n (nI P, nI C, nI R, nI L, hs, ss, cs, gs, vs) dr rd (nI D, sm, nI N, nI K, ce, de, ke, se) i0 i1 kp dd tr m)
              refine zq_b [zq_il 6, zq_il 4] [zq_ilchk 6, zq_ilchk 4] 96 rfl (by decide +kernel) ?_
              show zq_G _ _ _ _ _ 96 ([(0, .ref 15), (1, .int (nI p)), (2, .int mv), (3, .int (nI wc)), (4, .int (nI (zcm mv wc cn p))), (5, .int (nI i)), (6, .int (nI (zcm mv wc cn i)))], [.int (nI (zcm mv wc cn p)), .int (nI (zcm mv wc cn i))], XH tx n (nI P, nI C, nI R, nI L, hs, ss, cs, gs, vs) dr rd (nI D, sm, nI N, nI K, ce, de, ke, se) i0 i1 kp dd tr m)
              refine zq_callS (av := [.int (nI (zcm mv wc cn i)), .int (nI (zcm mv wc cn p))]) (rest := []) (by decide +kernel) k5_93 (c_isAhead (a := (zcm mv wc cn i)) (b := (zcm mv wc cn p)) (by omega) (by omega)) rfl rfl ?_
              show zq_G _ _ _ _ _ 99 ([(0, .ref 15), (1, .int (nI p)), (2, .int mv), (3, .int (nI wc)), (4, .int (nI (zcm mv wc cn p))), (5, .int (nI i)), (6, .int (nI (zcm mv wc cn i)))], [.int (zb (aheadB (zcm mv wc cn i) (zcm mv wc cn p) = true))], XH tx n (nI P, nI C, nI R, nI L, hs, ss, cs, gs, vs) dr rd (nI D, sm, nI N, nI K, ce, de, ke, se) i0 i1 kp dd tr m)
              refine zq_ifz .eq 104 (¬ (aheadB (zcm mv wc cn i) (zcm mv wc cn p) = true)) (by decide +kernel) (zb_eq _) (fun c99 => ?_) (fun c99 => ?_)
              · show zq_G _ _ _ _ _ 104 ([(0, .ref 15), (1, .int (nI p)), (2, .int mv), (3, .int (nI wc)), (4, .int (nI (zcm mv wc cn p))), (5, .int (nI i)), (6, .int (nI (zcm mv wc cn i)))], [], XH tx n (nI P, nI C, nI R, nI L, hs, ss, cs, gs, vs) dr rd (nI D, sm, nI N, nI K, ce, de, ke, se) i0 i1 kp dd tr m)
                refine zq_b [zq_inc 5 1 (nI (i + 1)), zq_go] [zq_incchk 5 1, zq_gochk] 39 rfl (by decide +kernel) ?_
                refine ⟨nI_add i 1, ?_⟩
                show zq_G _ _ _ _ _ 39 ([(0, .ref 15), (1, .int (nI p)), (2, .int mv), (3, .int (nI wc)), (4, .int (nI (zcm mv wc cn p))), (5, .int (nI (i + 1))), (6, .int (nI (zcm mv wc cn i)))], [], XH tx n (nI P, nI C, nI R, nI L, hs, ss, cs, gs, vs) dr rd (nI D, sm, nI N, nI K, ce, de, ke, se) i0 i1 kp dd tr m)
                refine zq_pick [0, 1, 2, 3, 4, 5] rfl ?_
                show zq_G _ _ _ _ _ 39 ([(0, .ref 15), (1, .int (nI p)), (2, .int mv), (3, .int (nI wc)), (4, .int (nI (zcm mv wc cn p))), (5, .int (nI (i + 1)))], [], XH tx n (nI P, nI C, nI R, nI L, hs, ss, cs, gs, vs) dr rd (nI D, sm, nI N, nI K, ce, de, ke, se) i0 i1 kp dd tr m)
                exact ih39 (lt_ext hI39 (by rw [eq_false_of_ne_true c99, Bool.and_false]))
              · show zq_G _ _ _ _ _ 102 ([(0, .ref 15), (1, .int (nI p)), (2, .int mv), (3, .int (nI wc)), (4, .int (nI (zcm mv wc cn p))), (5, .int (nI i)), (6, .int (nI (zcm mv wc cn i)))], [], XH tx n (nI P, nI C, nI R, nI L, hs, ss, cs, gs, vs) dr rd (nI D, sm, nI N, nI K, ce, de, ke, se) i0 i1 kp dd tr m)
                refine zq_b [zq_k 0] [zq_kchk 0] 103 rfl (by decide +kernel) ?_
                show zq_G _ _ _ _ _ 103 ([(0, .ref 15), (1, .int (nI p)), (2, .int mv), (3, .int (nI wc)), (4, .int (nI (zcm mv wc cn p))), (5, .int (nI i)), (6, .int (nI (zcm mv wc cn i)))], [.int 0], XH tx n (nI P, nI C, nI R, nI L, hs, ss, cs, gs, vs) dr rd (nI D, sm, nI N, nI K, ce, de, ke, se) i0 i1 kp dd tr m)
                exact zq_zret (by decide +kernel) rfl (Or.inl rfl) (zb_r (zb_f (by unfold bareB; rw [zany_i (f := (fun q => decide (hs p ≤ hs q) && aheadB (zcm mv wc cn q) (zcm mv wc cn p))) hi39 (by rw [decide_eq_true (Int32.not_lt.mp c89), Decidable.not_not.mp c99]; rfl)]; simp))) rfl
          · show zq_G _ _ _ _ _ 57 ([(0, .ref 15), (1, .int (nI p)), (2, .int mv), (3, .int (nI wc)), (4, .int (nI (zcm mv wc cn p))), (5, .int (nI i))], [], XH tx n (nI P, nI C, nI R, nI L, hs, ss, cs, gs, vs) dr rd (nI D, sm, nI N, nI K, ce, de, ke, se) i0 i1 kp dd tr m)
            refine zq_b [zq_il 3, zq_go] [zq_ilchk 3, zq_gochk] 68 rfl (by decide +kernel) ?_
            show zq_G _ _ _ _ _ 68 ([(0, .ref 15), (1, .int (nI p)), (2, .int mv), (3, .int (nI wc)), (4, .int (nI (zcm mv wc cn p))), (5, .int (nI i))], [.int (nI wc)], XH tx n (nI P, nI C, nI R, nI L, hs, ss, cs, gs, vs) dr rd (nI D, sm, nI N, nI K, ce, de, ke, se) i0 i1 kp dd tr m)
            refine zq_eq (σ2 := ([(0, .ref 15), (1, .int (nI p)), (2, .int mv), (3, .int (nI wc)), (4, .int (nI (zcm mv wc cn p))), (5, .int (nI i))], [.int (nI (zcm mv wc cn i))], XH tx n (nI P, nI C, nI R, nI L, hs, ss, cs, gs, vs) dr rd (nI D, sm, nI N, nI K, ce, de, ke, se) i0 i1 kp dd tr m)) (by rw [zcm_t (Decidable.not_not.mp c54)]) ?_
            refine zq_b [zq_is1 6, zq_al 0, zq_get 5 0, zq_get 9 4, zq_il 5, zq_iald i (hs i), zq_al 0, zq_get 5 0, zq_get 9 4, zq_il 1, zq_iald p (hs p)] [zq_is1chk 6, zq_alchk 0, zq_getchk 5 0, zq_getchk 9 4, zq_ilchk 5, zq_is .iaload 1, zq_alchk 0, zq_getchk 5 0, zq_getchk 9 4, zq_ilchk 1, zq_is .iaload 1] 89 rfl (by decide +kernel) ?_
            refine ⟨rfl, (by omega), (by omega), rfl, rfl, (by omega), (by omega), rfl, ?_⟩
            show zq_G _ _ _ _ _ 89 ([(0, .ref 15), (1, .int (nI p)), (2, .int mv), (3, .int (nI wc)), (4, .int (nI (zcm mv wc cn p))), (5, .int (nI i)), (6, .int (nI (zcm mv wc cn i)))], [.int (hs p), .int (hs i)], XH tx n (nI P, nI C, nI R, nI L, hs, ss, cs, gs, vs) dr rd (nI D, sm, nI N, nI K, ce, de, ke, se) i0 i1 kp dd tr m)
            refine zq_if .lt 104 ((hs i) < (hs p)) (by decide +kernel) (Iff.rfl) (fun c89 => ?_) (fun c89 => ?_)
            · show zq_G _ _ _ _ _ 104 ([(0, .ref 15), (1, .int (nI p)), (2, .int mv), (3, .int (nI wc)), (4, .int (nI (zcm mv wc cn p))), (5, .int (nI i)), (6, .int (nI (zcm mv wc cn i)))], [], XH tx n (nI P, nI C, nI R, nI L, hs, ss, cs, gs, vs) dr rd (nI D, sm, nI N, nI K, ce, de, ke, se) i0 i1 kp dd tr m)
              refine zq_b [zq_inc 5 1 (nI (i + 1)), zq_go] [zq_incchk 5 1, zq_gochk] 39 rfl (by decide +kernel) ?_
              refine ⟨nI_add i 1, ?_⟩
              show zq_G _ _ _ _ _ 39 ([(0, .ref 15), (1, .int (nI p)), (2, .int mv), (3, .int (nI wc)), (4, .int (nI (zcm mv wc cn p))), (5, .int (nI (i + 1))), (6, .int (nI (zcm mv wc cn i)))], [], XH tx n (nI P, nI C, nI R, nI L, hs, ss, cs, gs, vs) dr rd (nI D, sm, nI N, nI K, ce, de, ke, se) i0 i1 kp dd tr m)
              refine zq_pick [0, 1, 2, 3, 4, 5] rfl ?_
              show zq_G _ _ _ _ _ 39 ([(0, .ref 15), (1, .int (nI p)), (2, .int mv), (3, .int (nI wc)), (4, .int (nI (zcm mv wc cn p))), (5, .int (nI (i + 1)))], [], XH tx n (nI P, nI C, nI R, nI L, hs, ss, cs, gs, vs) dr rd (nI D, sm, nI N, nI K, ce, de, ke, se) i0 i1 kp dd tr m)
              exact ih39 (lt_ext hI39 (by rw [decide_eq_false (Int32.not_le.mpr c89), Bool.false_and]))
            · show zq_G _ _ _ _ _ 92 ([(0, .ref 15), (1, .int (nI p)), (2, .int mv), (3, .int (nI wc)), (4, .int (nI (zcm mv wc cn p))), (5, .int (nI i)), (6, .int (nI (zcm mv wc cn i)))], [], XH tx n (nI P, nI C, nI R, nI L, hs, ss, cs, gs, vs) dr rd (nI D, sm, nI N, nI K, ce, de, ke, se) i0 i1 kp dd tr m)
              refine zq_b [zq_il 6, zq_il 4] [zq_ilchk 6, zq_ilchk 4] 96 rfl (by decide +kernel) ?_
              show zq_G _ _ _ _ _ 96 ([(0, .ref 15), (1, .int (nI p)), (2, .int mv), (3, .int (nI wc)), (4, .int (nI (zcm mv wc cn p))), (5, .int (nI i)), (6, .int (nI (zcm mv wc cn i)))], [.int (nI (zcm mv wc cn p)), .int (nI (zcm mv wc cn i))], XH tx n (nI P, nI C, nI R, nI L, hs, ss, cs, gs, vs) dr rd (nI D, sm, nI N, nI K, ce, de, ke, se) i0 i1 kp dd tr m)
              refine zq_callS (av := [.int (nI (zcm mv wc cn i)), .int (nI (zcm mv wc cn p))]) (rest := []) (by decide +kernel) k5_93 (c_isAhead (a := (zcm mv wc cn i)) (b := (zcm mv wc cn p)) (by omega) (by omega)) rfl rfl ?_
              show zq_G _ _ _ _ _ 99 ([(0, .ref 15), (1, .int (nI p)), (2, .int mv), (3, .int (nI wc)), (4, .int (nI (zcm mv wc cn p))), (5, .int (nI i)), (6, .int (nI (zcm mv wc cn i)))], [.int (zb (aheadB (zcm mv wc cn i) (zcm mv wc cn p) = true))], XH tx n (nI P, nI C, nI R, nI L, hs, ss, cs, gs, vs) dr rd (nI D, sm, nI N, nI K, ce, de, ke, se) i0 i1 kp dd tr m)
              refine zq_ifz .eq 104 (¬ (aheadB (zcm mv wc cn i) (zcm mv wc cn p) = true)) (by decide +kernel) (zb_eq _) (fun c99 => ?_) (fun c99 => ?_)
              · show zq_G _ _ _ _ _ 104 ([(0, .ref 15), (1, .int (nI p)), (2, .int mv), (3, .int (nI wc)), (4, .int (nI (zcm mv wc cn p))), (5, .int (nI i)), (6, .int (nI (zcm mv wc cn i)))], [], XH tx n (nI P, nI C, nI R, nI L, hs, ss, cs, gs, vs) dr rd (nI D, sm, nI N, nI K, ce, de, ke, se) i0 i1 kp dd tr m)
                refine zq_b [zq_inc 5 1 (nI (i + 1)), zq_go] [zq_incchk 5 1, zq_gochk] 39 rfl (by decide +kernel) ?_
                refine ⟨nI_add i 1, ?_⟩
                show zq_G _ _ _ _ _ 39 ([(0, .ref 15), (1, .int (nI p)), (2, .int mv), (3, .int (nI wc)), (4, .int (nI (zcm mv wc cn p))), (5, .int (nI (i + 1))), (6, .int (nI (zcm mv wc cn i)))], [], XH tx n (nI P, nI C, nI R, nI L, hs, ss, cs, gs, vs) dr rd (nI D, sm, nI N, nI K, ce, de, ke, se) i0 i1 kp dd tr m)
                refine zq_pick [0, 1, 2, 3, 4, 5] rfl ?_
                show zq_G _ _ _ _ _ 39 ([(0, .ref 15), (1, .int (nI p)), (2, .int mv), (3, .int (nI wc)), (4, .int (nI (zcm mv wc cn p))), (5, .int (nI (i + 1)))], [], XH tx n (nI P, nI C, nI R, nI L, hs, ss, cs, gs, vs) dr rd (nI D, sm, nI N, nI K, ce, de, ke, se) i0 i1 kp dd tr m)
                exact ih39 (lt_ext hI39 (by rw [eq_false_of_ne_true c99, Bool.and_false]))
              · show zq_G _ _ _ _ _ 102 ([(0, .ref 15), (1, .int (nI p)), (2, .int mv), (3, .int (nI wc)), (4, .int (nI (zcm mv wc cn p))), (5, .int (nI i)), (6, .int (nI (zcm mv wc cn i)))], [], XH tx n (nI P, nI C, nI R, nI L, hs, ss, cs, gs, vs) dr rd (nI D, sm, nI N, nI K, ce, de, ke, se) i0 i1 kp dd tr m)
                refine zq_b [zq_k 0] [zq_kchk 0] 103 rfl (by decide +kernel) ?_
                show zq_G _ _ _ _ _ 103 ([(0, .ref 15), (1, .int (nI p)), (2, .int mv), (3, .int (nI wc)), (4, .int (nI (zcm mv wc cn p))), (5, .int (nI i)), (6, .int (nI (zcm mv wc cn i)))], [.int 0], XH tx n (nI P, nI C, nI R, nI L, hs, ss, cs, gs, vs) dr rd (nI D, sm, nI N, nI K, ce, de, ke, se) i0 i1 kp dd tr m)
                exact zq_zret (by decide +kernel) rfl (Or.inl rfl) (zb_r (zb_f (by unfold bareB; rw [zany_i (f := (fun q => decide (hs p ≤ hs q) && aheadB (zcm mv wc cn q) (zcm mv wc cn p))) hi39 (by rw [decide_eq_true (Int32.not_lt.mp c89), Decidable.not_not.mp c99]; rfl)]; simp))) rfl
        · show zq_G _ _ _ _ _ 39 ([(0, .ref 15), (1, .int (nI p)), (2, .int mv), (3, .int (nI wc)), (4, .int (nI (zcm mv wc cn p))), (5, .int (nI P))], [], XH tx n (nI P, nI C, nI R, nI L, hs, ss, cs, gs, vs) dr rd (nI D, sm, nI N, nI K, ce, de, ke, se) i0 i1 kp dd tr m)
          refine zq_b [zq_il 5, zq_al 0, zq_get 5 0, zq_get 9 0] [zq_ilchk 5, zq_alchk 0, zq_getchk 5 0, zq_getchk 9 0] 48 rfl (by decide +kernel) ?_
          show zq_G _ _ _ _ _ 48 ([(0, .ref 15), (1, .int (nI p)), (2, .int mv), (3, .int (nI wc)), (4, .int (nI (zcm mv wc cn p))), (5, .int (nI P))], [.int (nI P), .int (nI P)], XH tx n (nI P, nI C, nI R, nI L, hs, ss, cs, gs, vs) dr rd (nI D, sm, nI N, nI K, ce, de, ke, se) i0 i1 kp dd tr m)
          refine zq_if .ge 110 (P ≤ P) (by decide +kernel) (zq_cge (a := P) (b := P) (by omega) (by omega)) (fun c48 => ?_) (fun c48 => absurd (by omega) c48)
          show zq_G _ _ _ _ _ 110 ([(0, .ref 15), (1, .int (nI p)), (2, .int mv), (3, .int (nI wc)), (4, .int (nI (zcm mv wc cn p))), (5, .int (nI P))], [], XH tx n (nI P, nI C, nI R, nI L, hs, ss, cs, gs, vs) dr rd (nI D, sm, nI N, nI K, ce, de, ke, se) i0 i1 kp dd tr m)
          refine zq_b [zq_k 1] [zq_kchk 1] 111 rfl (by decide +kernel) ?_
          show zq_G _ _ _ _ _ 111 ([(0, .ref 15), (1, .int (nI p)), (2, .int mv), (3, .int (nI wc)), (4, .int (nI (zcm mv wc cn p))), (5, .int (nI P))], [.int 1], XH tx n (nI P, nI C, nI R, nI L, hs, ss, cs, gs, vs) dr rd (nI D, sm, nI N, nI K, ce, de, ke, se) i0 i1 kp dd tr m)
          exact zq_zret (by decide +kernel) rfl (Or.inr rfl) (zb_r (zb_t (by unfold bareB; rw [zany_f hI39]; simp_all))) rfl
      · show zq_G _ _ _ _ _ 34 ([(0, .ref 15), (1, .int (nI p)), (2, .int mv), (3, .int (nI wc)), (4, .int (nI (zcm mv wc cn p)))], [], XH tx n (nI P, nI C, nI R, nI L, hs, ss, cs, gs, vs) dr rd (nI D, sm, nI N, nI K, ce, de, ke, se) i0 i1 kp dd tr m)
        refine zq_b [zq_k 0] [zq_kchk 0] 35 rfl (by decide +kernel) ?_
        show zq_G _ _ _ _ _ 35 ([(0, .ref 15), (1, .int (nI p)), (2, .int mv), (3, .int (nI wc)), (4, .int (nI (zcm mv wc cn p)))], [.int 0], XH tx n (nI P, nI C, nI R, nI L, hs, ss, cs, gs, vs) dr rd (nI D, sm, nI N, nI K, ce, de, ke, se) i0 i1 kp dd tr m)
        exact zq_zret (by decide +kernel) rfl (Or.inl rfl) (zb_r (zb_f (by unfold bareB; rw [Decidable.not_not.mp c31]; simp))) rfl
  · show zq_G _ _ _ _ _ 5 ([(0, .ref 15), (1, .int (nI p)), (2, .int mv), (3, .int (nI wc))], [], XH tx n (nI P, nI C, nI R, nI L, hs, ss, cs, gs, vs) dr rd (nI D, sm, nI N, nI K, ce, de, ke, se) i0 i1 kp dd tr m)
    refine zq_b [zq_il 3, zq_go] [zq_ilchk 3, zq_gochk] 15 rfl (by decide +kernel) ?_
    show zq_G _ _ _ _ _ 15 ([(0, .ref 15), (1, .int (nI p)), (2, .int mv), (3, .int (nI wc))], [.int (nI wc)], XH tx n (nI P, nI C, nI R, nI L, hs, ss, cs, gs, vs) dr rd (nI D, sm, nI N, nI K, ce, de, ke, se) i0 i1 kp dd tr m)
    refine zq_eq (σ2 := ([(0, .ref 15), (1, .int (nI p)), (2, .int mv), (3, .int (nI wc))], [.int (nI (zcm mv wc cn p))], XH tx n (nI P, nI C, nI R, nI L, hs, ss, cs, gs, vs) dr rd (nI D, sm, nI N, nI K, ce, de, ke, se) i0 i1 kp dd tr m)) (by rw [zcm_t (Decidable.not_not.mp c2)]) ?_
    refine zq_b [zq_is1 4, zq_il 4] [zq_is1chk 4, zq_ilchk 4] 19 rfl (by decide +kernel) ?_
    show zq_G _ _ _ _ _ 19 ([(0, .ref 15), (1, .int (nI p)), (2, .int mv), (3, .int (nI wc)), (4, .int (nI (zcm mv wc cn p)))], [.int (nI (zcm mv wc cn p))], XH tx n (nI P, nI C, nI R, nI L, hs, ss, cs, gs, vs) dr rd (nI D, sm, nI N, nI K, ce, de, ke, se) i0 i1 kp dd tr m)
    refine zq_callN (av := [.int (nI (zcm mv wc cn p))]) (rest := []) (by decide +kernel) k5_84 (c_isInSquare (a := (zcm mv wc cn p)) (by omega)) rfl rfl ?_
    show zq_G _ _ _ _ _ 22 ([(0, .ref 15), (1, .int (nI p)), (2, .int mv), (3, .int (nI wc)), (4, .int (nI (zcm mv wc cn p)))], [.int (zb ((zcm mv wc cn p) < 25))], XH tx n (nI P, nI C, nI R, nI L, hs, ss, cs, gs, vs) dr rd (nI D, sm, nI N, nI K, ce, de, ke, se) i0 i1 kp dd tr m)
    refine zq_ifz .eq 34 (¬ ((zcm mv wc cn p) < 25)) (by decide +kernel) (zb_eq _) (fun c22 => ?_) (fun c22 => ?_)
    · show zq_G _ _ _ _ _ 34 ([(0, .ref 15), (1, .int (nI p)), (2, .int mv), (3, .int (nI wc)), (4, .int (nI (zcm mv wc cn p)))], [], XH tx n (nI P, nI C, nI R, nI L, hs, ss, cs, gs, vs) dr rd (nI D, sm, nI N, nI K, ce, de, ke, se) i0 i1 kp dd tr m)
      refine zq_b [zq_k 0] [zq_kchk 0] 35 rfl (by decide +kernel) ?_
      show zq_G _ _ _ _ _ 35 ([(0, .ref 15), (1, .int (nI p)), (2, .int mv), (3, .int (nI wc)), (4, .int (nI (zcm mv wc cn p)))], [.int 0], XH tx n (nI P, nI C, nI R, nI L, hs, ss, cs, gs, vs) dr rd (nI D, sm, nI N, nI K, ce, de, ke, se) i0 i1 kp dd tr m)
      exact zq_zret (by decide +kernel) rfl (Or.inl rfl) (zb_r (zb_f (by unfold bareB; rw [decide_eq_false c22]; simp))) rfl
    · show zq_G _ _ _ _ _ 25 ([(0, .ref 15), (1, .int (nI p)), (2, .int mv), (3, .int (nI wc)), (4, .int (nI (zcm mv wc cn p)))], [], XH tx n (nI P, nI C, nI R, nI L, hs, ss, cs, gs, vs) dr rd (nI D, sm, nI N, nI K, ce, de, ke, se) i0 i1 kp dd tr m)
      refine zq_b [zq_al 0, zq_il 4] [zq_alchk 0, zq_ilchk 4] 28 rfl (by decide +kernel) ?_
      show zq_G _ _ _ _ _ 28 ([(0, .ref 15), (1, .int (nI p)), (2, .int mv), (3, .int (nI wc)), (4, .int (nI (zcm mv wc cn p)))], [.int (nI (zcm mv wc cn p)), .ref 15], XH tx n (nI P, nI C, nI R, nI L, hs, ss, cs, gs, vs) dr rd (nI D, sm, nI N, nI K, ce, de, ke, se) i0 i1 kp dd tr m)
      refine zq_callV (av := [.int (nI (zcm mv wc cn p))]) (rest := []) (by decide +kernel) k5_87 (c_isInSmoke (k := (zcm mv wc cn p)) (by omega)) rfl rfl rfl rfl ?_
      show zq_G _ _ _ _ _ 31 ([(0, .ref 15), (1, .int (nI p)), (2, .int mv), (3, .int (nI wc)), (4, .int (nI (zcm mv wc cn p)))], [.int (zb (smk sm (zcm mv wc cn p) = true))], XH tx n (nI P, nI C, nI R, nI L, hs, ss, cs, gs, vs) dr rd (nI D, sm, nI N, nI K, ce, de, ke, se) i0 i1 kp dd tr m)
      refine zq_ifz .eq 36 (¬ (smk sm (zcm mv wc cn p) = true)) (by decide +kernel) (zb_eq _) (fun c31 => ?_) (fun c31 => ?_)
      · show zq_G _ _ _ _ _ 36 ([(0, .ref 15), (1, .int (nI p)), (2, .int mv), (3, .int (nI wc)), (4, .int (nI (zcm mv wc cn p)))], [], XH tx n (nI P, nI C, nI R, nI L, hs, ss, cs, gs, vs) dr rd (nI D, sm, nI N, nI K, ce, de, ke, se) i0 i1 kp dd tr m)
        refine zq_b [zq_k 0, zq_is1 5] [zq_kchk 0, zq_is1chk 5] 39 rfl (by decide +kernel) ?_
        show zq_G _ _ _ _ _ 39 ([(0, .ref 15), (1, .int (nI p)), (2, .int mv), (3, .int (nI wc)), (4, .int (nI (zcm mv wc cn p))), (5, .int 0)], [], XH tx n (nI P, nI C, nI R, nI L, hs, ss, cs, gs, vs) dr rd (nI D, sm, nI N, nI K, ce, de, ke, se) i0 i1 kp dd tr m)
        refine zq_loop (fun i => ([(0, .ref 15), (1, .int (nI p)), (2, .int mv), (3, .int (nI wc)), (4, .int (nI (zcm mv wc cn p))), (5, .int (nI i))], [], XH tx n (nI P, nI C, nI R, nI L, hs, ss, cs, gs, vs) dr rd (nI D, sm, nI N, nI K, ce, de, ke, se) i0 i1 kp dd tr m)) (fun i => ∀ j, j < i → (decide (hs p ≤ hs j) && aheadB (zcm mv wc cn j) (zcm mv wc cn p)) = false) (P) (0) (by omega) ((fun j hj => absurd hj (by omega))) (fun i hl39 hi39 hI39 ih39 => ?_) (fun hI39 => ?_)
        · show zq_G _ _ _ _ _ 39 ([(0, .ref 15), (1, .int (nI p)), (2, .int mv), (3, .int (nI wc)), (4, .int (nI (zcm mv wc cn p))), (5, .int (nI i))], [], XH tx n (nI P, nI C, nI R, nI L, hs, ss, cs, gs, vs) dr rd (nI D, sm, nI N, nI K, ce, de, ke, se) i0 i1 kp dd tr m)
          have hzi := hz i hi39
          refine zq_b [zq_il 5, zq_al 0, zq_get 5 0, zq_get 9 0] [zq_ilchk 5, zq_alchk 0, zq_getchk 5 0, zq_getchk 9 0] 48 rfl (by decide +kernel) ?_
          show zq_G _ _ _ _ _ 48 ([(0, .ref 15), (1, .int (nI p)), (2, .int mv), (3, .int (nI wc)), (4, .int (nI (zcm mv wc cn p))), (5, .int (nI i))], [.int (nI P), .int (nI i)], XH tx n (nI P, nI C, nI R, nI L, hs, ss, cs, gs, vs) dr rd (nI D, sm, nI N, nI K, ce, de, ke, se) i0 i1 kp dd tr m)
          refine zq_if .ge 110 (P ≤ i) (by decide +kernel) (zq_cge (a := i) (b := P) (by omega) (by omega)) (fun c48 => absurd c48 (by omega)) (fun c48 => ?_)
          show zq_G _ _ _ _ _ 51 ([(0, .ref 15), (1, .int (nI p)), (2, .int mv), (3, .int (nI wc)), (4, .int (nI (zcm mv wc cn p))), (5, .int (nI i))], [], XH tx n (nI P, nI C, nI R, nI L, hs, ss, cs, gs, vs) dr rd (nI D, sm, nI N, nI K, ce, de, ke, se) i0 i1 kp dd tr m)
          refine zq_b [zq_il 5, zq_il 2] [zq_ilchk 5, zq_ilchk 2] 54 rfl (by decide +kernel) ?_
          show zq_G _ _ _ _ _ 54 ([(0, .ref 15), (1, .int (nI p)), (2, .int mv), (3, .int (nI wc)), (4, .int (nI (zcm mv wc cn p))), (5, .int (nI i))], [.int mv, .int (nI i)], XH tx n (nI P, nI C, nI R, nI L, hs, ss, cs, gs, vs) dr rd (nI D, sm, nI N, nI K, ce, de, ke, se) i0 i1 kp dd tr m)
          refine zq_if .ne 61 (¬ (nI i) = mv) (by decide +kernel) (Iff.rfl) (fun c54 => ?_) (fun c54 => ?_)
          · show zq_G _ _ _ _ _ 61 ([(0, .ref 15), (1, .int (nI p)), (2, .int mv), (3, .int (nI wc)), (4, .int (nI (zcm mv wc cn p))), (5, .int (nI i))], [], XH tx n (nI P, nI C, nI R, nI L, hs, ss, cs, gs, vs) dr rd (nI D, sm, nI N, nI K, ce, de, ke, se) i0 i1 kp dd tr m)
            refine zq_b [zq_al 0, zq_get 5 5, zq_il 5, zq_iald i (nI (cn i))] [zq_alchk 0, zq_getchk 5 5, zq_ilchk 5, zq_is .iaload 1] 68 rfl (by decide +kernel) ?_
            refine ⟨rfl, (by omega), (by omega), (hce _ hi39).1, ?_⟩
            show zq_G _ _ _ _ _ 68 ([(0, .ref 15), (1, .int (nI p)), (2, .int mv), (3, .int (nI wc)), (4, .int (nI (zcm mv wc cn p))), (5, .int (nI i))], [.int (nI (cn i))], XH tx n (nI P, nI C, nI R, nI L, hs, ss, cs, gs, vs) dr rd (nI D, sm, nI N, nI K, ce, de, ke, se) i0 i1 kp dd tr m)
            refine zq_eq (σ2 := ([(0, .ref 15), (1, .int (nI p)), (2, .int mv), (3, .int (nI wc)), (4, .int (nI (zcm mv wc cn p))), (5, .int (nI i))], [.int (nI (zcm mv wc cn i))], XH tx n (nI P, nI C, nI R, nI L, hs, ss, cs, gs, vs) dr rd (nI D, sm, nI N, nI K, ce, de, ke, se) i0 i1 kp dd tr m)) (by rw [zcm_f c54]) ?_
            refine zq_b [zq_is1 6, zq_al 0, zq_get 5 0, zq_get 9 4, zq_il 5, zq_iald i (hs i), zq_al 0, zq_get 5 0, zq_get 9 4, zq_il 1, zq_iald p (hs p)] [zq_is1chk 6, zq_alchk 0, zq_getchk 5 0, zq_getchk 9 4, zq_ilchk 5, zq_is .iaload 1, zq_alchk 0, zq_getchk 5 0, zq_getchk 9 4, zq_ilchk 1, zq_is .iaload 1] 89 rfl (by decide +kernel) ?_
            refine ⟨rfl, (by omega), (by omega), rfl, rfl, (by omega), (by omega), rfl, ?_⟩
            show zq_G _ _ _ _ _ 89 ([(0, .ref 15), (1, .int (nI p)), (2, .int mv), (3, .int (nI wc)), (4, .int (nI (zcm mv wc cn p))), (5, .int (nI i)), (6, .int (nI (zcm mv wc cn i)))], [.int (hs p), .int (hs i)], XH tx n (nI P, nI C, nI R, nI L, hs, ss, cs, gs, vs) dr rd (nI D, sm, nI N, nI K, ce, de, ke, se) i0 i1 kp dd tr m)
            refine zq_if .lt 104 ((hs i) < (hs p)) (by decide +kernel) (Iff.rfl) (fun c89 => ?_) (fun c89 => ?_)
            · show zq_G _ _ _ _ _ 104 ([(0, .ref 15), (1, .int (nI p)), (2, .int mv), (3, .int (nI wc)), (4, .int (nI (zcm mv wc cn p))), (5, .int (nI i)), (6, .int (nI (zcm mv wc cn i)))], [], XH tx n (nI P, nI C, nI R, nI L, hs, ss, cs, gs, vs) dr rd (nI D, sm, nI N, nI K, ce, de, ke, se) i0 i1 kp dd tr m)
              refine zq_b [zq_inc 5 1 (nI (i + 1)), zq_go] [zq_incchk 5 1, zq_gochk] 39 rfl (by decide +kernel) ?_
              refine ⟨nI_add i 1, ?_⟩
              show zq_G _ _ _ _ _ 39 ([(0, .ref 15), (1, .int (nI p)), (2, .int mv), (3, .int (nI wc)), (4, .int (nI (zcm mv wc cn p))), (5, .int (nI (i + 1))), (6, .int (nI (zcm mv wc cn i)))], [], XH tx n (nI P, nI C, nI R, nI L, hs, ss, cs, gs, vs) dr rd (nI D, sm, nI N, nI K, ce, de, ke, se) i0 i1 kp dd tr m)
              refine zq_pick [0, 1, 2, 3, 4, 5] rfl ?_
              show zq_G _ _ _ _ _ 39 ([(0, .ref 15), (1, .int (nI p)), (2, .int mv), (3, .int (nI wc)), (4, .int (nI (zcm mv wc cn p))), (5, .int (nI (i + 1)))], [], XH tx n (nI P, nI C, nI R, nI L, hs, ss, cs, gs, vs) dr rd (nI D, sm, nI N, nI K, ce, de, ke, se) i0 i1 kp dd tr m)
              exact ih39 (lt_ext hI39 (by rw [decide_eq_false (Int32.not_le.mpr c89), Bool.false_and]))
            · show zq_G _ _ _ _ _ 92 ([(0, .ref 15), (1, .int (nI p)), (2, .int mv), (3, .int (nI wc)), (4, .int (nI (zcm mv wc cn p))), (5, .int (nI i)), (6, .int (nI (zcm mv wc cn i)))], [], XH tx n (nI P, nI C, nI R, nI L, hs, ss, cs, gs, vs) dr rd (nI D, sm, nI N, nI K, ce, de, ke, se) i0 i1 kp dd tr m)
              refine zq_b [zq_il 6, zq_il 4] [zq_ilchk 6, zq_ilchk 4] 96 rfl (by decide +kernel) ?_
              show zq_G _ _ _ _ _ 96 ([(0, .ref 15), (1, .int (nI p)), (2, .int mv), (3, .int (nI wc)), (4, .int (nI (zcm mv wc cn p))), (5, .int (nI i)), (6, .int (nI (zcm mv wc cn i)))], [.int (nI (zcm mv wc cn p)), .int (nI (zcm mv wc cn i))], XH tx n (nI P, nI C, nI R, nI L, hs, ss, cs, gs, vs) dr rd (nI D, sm, nI N, nI K, ce, de, ke, se) i0 i1 kp dd tr m)
              refine zq_callS (av := [.int (nI (zcm mv wc cn i)), .int (nI (zcm mv wc cn p))]) (rest := []) (by decide +kernel) k5_93 (c_isAhead (a := (zcm mv wc cn i)) (b := (zcm mv wc cn p)) (by omega) (by omega)) rfl rfl ?_
              show zq_G _ _ _ _ _ 99 ([(0, .ref 15), (1, .int (nI p)), (2, .int mv), (3, .int (nI wc)), (4, .int (nI (zcm mv wc cn p))), (5, .int (nI i)), (6, .int (nI (zcm mv wc cn i)))], [.int (zb (aheadB (zcm mv wc cn i) (zcm mv wc cn p) = true))], XH tx n (nI P, nI C, nI R, nI L, hs, ss, cs, gs, vs) dr rd (nI D, sm, nI N, nI K, ce, de, ke, se) i0 i1 kp dd tr m)
              refine zq_ifz .eq 104 (¬ (aheadB (zcm mv wc cn i) (zcm mv wc cn p) = true)) (by decide +kernel) (zb_eq _) (fun c99 => ?_) (fun c99 => ?_)
              · show zq_G _ _ _ _ _ 104 ([(0, .ref 15), (1, .int (nI p)), (2, .int mv), (3, .int (nI wc)), (4, .int (nI (zcm mv wc cn p))), (5, .int (nI i)), (6, .int (nI (zcm mv wc cn i)))], [], XH tx n (nI P, nI C, nI R, nI L, hs, ss, cs, gs, vs) dr rd (nI D, sm, nI N, nI K, ce, de, ke, se) i0 i1 kp dd tr m)
                refine zq_b [zq_inc 5 1 (nI (i + 1)), zq_go] [zq_incchk 5 1, zq_gochk] 39 rfl (by decide +kernel) ?_
                refine ⟨nI_add i 1, ?_⟩
                show zq_G _ _ _ _ _ 39 ([(0, .ref 15), (1, .int (nI p)), (2, .int mv), (3, .int (nI wc)), (4, .int (nI (zcm mv wc cn p))), (5, .int (nI (i + 1))), (6, .int (nI (zcm mv wc cn i)))], [], XH tx n (nI P, nI C, nI R, nI L, hs, ss, cs, gs, vs) dr rd (nI D, sm, nI N, nI K, ce, de, ke, se) i0 i1 kp dd tr m)
                refine zq_pick [0, 1, 2, 3, 4, 5] rfl ?_
                show zq_G _ _ _ _ _ 39 ([(0, .ref 15), (1, .int (nI p)), (2, .int mv), (3, .int (nI wc)), (4, .int (nI (zcm mv wc cn p))), (5, .int (nI (i + 1)))], [], XH tx n (nI P, nI C, nI R, nI L, hs, ss, cs, gs, vs) dr rd (nI D, sm, nI N, nI K, ce, de, ke, se) i0 i1 kp dd tr m)
                exact ih39 (lt_ext hI39 (by rw [eq_false_of_ne_true c99, Bool.and_false]))
              · show zq_G _ _ _ _ _ 102 ([(0, .ref 15), (1, .int (nI p)), (2, .int mv), (3, .int (nI wc)), (4, .int (nI (zcm mv wc cn p))), (5, .int (nI i)), (6, .int (nI (zcm mv wc cn i)))], [], XH tx n (nI P, nI C, nI R, nI L, hs, ss, cs, gs, vs) dr rd (nI D, sm, nI N, nI K, ce, de, ke, se) i0 i1 kp dd tr m)
                refine zq_b [zq_k 0] [zq_kchk 0] 103 rfl (by decide +kernel) ?_
                show zq_G _ _ _ _ _ 103 ([(0, .ref 15), (1, .int (nI p)), (2, .int mv), (3, .int (nI wc)), (4, .int (nI (zcm mv wc cn p))), (5, .int (nI i)), (6, .int (nI (zcm mv wc cn i)))], [.int 0], XH tx n (nI P, nI C, nI R, nI L, hs, ss, cs, gs, vs) dr rd (nI D, sm, nI N, nI K, ce, de, ke, se) i0 i1 kp dd tr m)
                exact zq_zret (by decide +kernel) rfl (Or.inl rfl) (zb_r (zb_f (by unfold bareB; rw [zany_i (f := (fun q => decide (hs p ≤ hs q) && aheadB (zcm mv wc cn q) (zcm mv wc cn p))) hi39 (by rw [decide_eq_true (Int32.not_lt.mp c89), Decidable.not_not.mp c99]; rfl)]; simp))) rfl
          · show zq_G _ _ _ _ _ 57 ([(0, .ref 15), (1, .int (nI p)), (2, .int mv), (3, .int (nI wc)), (4, .int (nI (zcm mv wc cn p))), (5, .int (nI i))], [], XH tx n (nI P, nI C, nI R, nI L, hs, ss, cs, gs, vs) dr rd (nI D, sm, nI N, nI K, ce, de, ke, se) i0 i1 kp dd tr m)
            refine zq_b [zq_il 3, zq_go] [zq_ilchk 3, zq_gochk] 68 rfl (by decide +kernel) ?_
            show zq_G _ _ _ _ _ 68 ([(0, .ref 15), (1, .int (nI p)), (2, .int mv), (3, .int (nI wc)), (4, .int (nI (zcm mv wc cn p))), (5, .int (nI i))], [.int (nI wc)], XH tx n (nI P, nI C, nI R, nI L, hs, ss, cs, gs, vs) dr rd (nI D, sm, nI N, nI K, ce, de, ke, se) i0 i1 kp dd tr m)
            refine zq_eq (σ2 := ([(0, .ref 15), (1, .int (nI p)), (2, .int mv), (3, .int (nI wc)), (4, .int (nI (zcm mv wc cn p))), (5, .int (nI i))], [.int (nI (zcm mv wc cn i))], XH tx n (nI P, nI C, nI R, nI L, hs, ss, cs, gs, vs) dr rd (nI D, sm, nI N, nI K, ce, de, ke, se) i0 i1 kp dd tr m)) (by rw [zcm_t (Decidable.not_not.mp c54)]) ?_
            refine zq_b [zq_is1 6, zq_al 0, zq_get 5 0, zq_get 9 4, zq_il 5, zq_iald i (hs i), zq_al 0, zq_get 5 0, zq_get 9 4, zq_il 1, zq_iald p (hs p)] [zq_is1chk 6, zq_alchk 0, zq_getchk 5 0, zq_getchk 9 4, zq_ilchk 5, zq_is .iaload 1, zq_alchk 0, zq_getchk 5 0, zq_getchk 9 4, zq_ilchk 1, zq_is .iaload 1] 89 rfl (by decide +kernel) ?_
            refine ⟨rfl, (by omega), (by omega), rfl, rfl, (by omega), (by omega), rfl, ?_⟩
            show zq_G _ _ _ _ _ 89 ([(0, .ref 15), (1, .int (nI p)), (2, .int mv), (3, .int (nI wc)), (4, .int (nI (zcm mv wc cn p))), (5, .int (nI i)), (6, .int (nI (zcm mv wc cn i)))], [.int (hs p), .int (hs i)], XH tx n (nI P, nI C, nI R, nI L, hs, ss, cs, gs, vs) dr rd (nI D, sm, nI N, nI K, ce, de, ke, se) i0 i1 kp dd tr m)
            refine zq_if .lt 104 ((hs i) < (hs p)) (by decide +kernel) (Iff.rfl) (fun c89 => ?_) (fun c89 => ?_)
            · show zq_G _ _ _ _ _ 104 ([(0, .ref 15), (1, .int (nI p)), (2, .int mv), (3, .int (nI wc)), (4, .int (nI (zcm mv wc cn p))), (5, .int (nI i)), (6, .int (nI (zcm mv wc cn i)))], [], XH tx n (nI P, nI C, nI R, nI L, hs, ss, cs, gs, vs) dr rd (nI D, sm, nI N, nI K, ce, de, ke, se) i0 i1 kp dd tr m)
              refine zq_b [zq_inc 5 1 (nI (i + 1)), zq_go] [zq_incchk 5 1, zq_gochk] 39 rfl (by decide +kernel) ?_
              refine ⟨nI_add i 1, ?_⟩
              show zq_G _ _ _ _ _ 39 ([(0, .ref 15), (1, .int (nI p)), (2, .int mv), (3, .int (nI wc)), (4, .int (nI (zcm mv wc cn p))), (5, .int (nI (i + 1))), (6, .int (nI (zcm mv wc cn i)))], [], XH tx n (nI P, nI C, nI R, nI L, hs, ss, cs, gs, vs) dr rd (nI D, sm, nI N, nI K, ce, de, ke, se) i0 i1 kp dd tr m)
              refine zq_pick [0, 1, 2, 3, 4, 5] rfl ?_
              show zq_G _ _ _ _ _ 39 ([(0, .ref 15), (1, .int (nI p)), (2, .int mv), (3, .int (nI wc)), (4, .int (nI (zcm mv wc cn p))), (5, .int (nI (i + 1)))], [], XH tx n (nI P, nI C, nI R, nI L, hs, ss, cs, gs, vs) dr rd (nI D, sm, nI N, nI K, ce, de, ke, se) i0 i1 kp dd tr m)
              exact ih39 (lt_ext hI39 (by rw [decide_eq_false (Int32.not_le.mpr c89), Bool.false_and]))
            · show zq_G _ _ _ _ _ 92 ([(0, .ref 15), (1, .int (nI p)), (2, .int mv), (3, .int (nI wc)), (4, .int (nI (zcm mv wc cn p))), (5, .int (nI i)), (6, .int (nI (zcm mv wc cn i)))], [], XH tx n (nI P, nI C, nI R, nI L, hs, ss, cs, gs, vs) dr rd (nI D, sm, nI N, nI K, ce, de, ke, se) i0 i1 kp dd tr m)
              refine zq_b [zq_il 6, zq_il 4] [zq_ilchk 6, zq_ilchk 4] 96 rfl (by decide +kernel) ?_
              show zq_G _ _ _ _ _ 96 ([(0, .ref 15), (1, .int (nI p)), (2, .int mv), (3, .int (nI wc)), (4, .int (nI (zcm mv wc cn p))), (5, .int (nI i)), (6, .int (nI (zcm mv wc cn i)))], [.int (nI (zcm mv wc cn p)), .int (nI (zcm mv wc cn i))], XH tx n (nI P, nI C, nI R, nI L, hs, ss, cs, gs, vs) dr rd (nI D, sm, nI N, nI K, ce, de, ke, se) i0 i1 kp dd tr m)
              refine zq_callS (av := [.int (nI (zcm mv wc cn i)), .int (nI (zcm mv wc cn p))]) (rest := []) (by decide +kernel) k5_93 (c_isAhead (a := (zcm mv wc cn i)) (b := (zcm mv wc cn p)) (by omega) (by omega)) rfl rfl ?_
              show zq_G _ _ _ _ _ 99 ([(0, .ref 15), (1, .int (nI p)), (2, .int mv), (3, .int (nI wc)), (4, .int (nI (zcm mv wc cn p))), (5, .int (nI i)), (6, .int (nI (zcm mv wc cn i)))], [.int (zb (aheadB (zcm mv wc cn i) (zcm mv wc cn p) = true))], XH tx n (nI P, nI C, nI R, nI L, hs, ss, cs, gs, vs) dr rd (nI D, sm, nI N, nI K, ce, de, ke, se) i0 i1 kp dd tr m)
              refine zq_ifz .eq 104 (¬ (aheadB (zcm mv wc cn i) (zcm mv wc cn p) = true)) (by decide +kernel) (zb_eq _) (fun c99 => ?_) (fun c99 => ?_)
              · show zq_G _ _ _ _ _ 104 ([(0, .ref 15), (1, .int (nI p)), (2, .int mv), (3, .int (nI wc)), (4, .int (nI (zcm mv wc cn p))), (5, .int (nI i)), (6, .int (nI (zcm mv wc cn i)))], [], XH tx n (nI P, nI C, nI R, nI L, hs, ss, cs, gs, vs) dr rd (nI D, sm, nI N, nI K, ce, de, ke, se) i0 i1 kp dd tr m)
                refine zq_b [zq_inc 5 1 (nI (i + 1)), zq_go] [zq_incchk 5 1, zq_gochk] 39 rfl (by decide +kernel) ?_
                refine ⟨nI_add i 1, ?_⟩
                show zq_G _ _ _ _ _ 39 ([(0, .ref 15), (1, .int (nI p)), (2, .int mv), (3, .int (nI wc)), (4, .int (nI (zcm mv wc cn p))), (5, .int (nI (i + 1))), (6, .int (nI (zcm mv wc cn i)))], [], XH tx n (nI P, nI C, nI R, nI L, hs, ss, cs, gs, vs) dr rd (nI D, sm, nI N, nI K, ce, de, ke, se) i0 i1 kp dd tr m)
                refine zq_pick [0, 1, 2, 3, 4, 5] rfl ?_
                show zq_G _ _ _ _ _ 39 ([(0, .ref 15), (1, .int (nI p)), (2, .int mv), (3, .int (nI wc)), (4, .int (nI (zcm mv wc cn p))), (5, .int (nI (i + 1)))], [], XH tx n (nI P, nI C, nI R, nI L, hs, ss, cs, gs, vs) dr rd (nI D, sm, nI N, nI K, ce, de, ke, se) i0 i1 kp dd tr m)
                exact ih39 (lt_ext hI39 (by rw [eq_false_of_ne_true c99, Bool.and_false]))
              · show zq_G _ _ _ _ _ 102 ([(0, .ref 15), (1, .int (nI p)), (2, .int mv), (3, .int (nI wc)), (4, .int (nI (zcm mv wc cn p))), (5, .int (nI i)), (6, .int (nI (zcm mv wc cn i)))], [], XH tx n (nI P, nI C, nI R, nI L, hs, ss, cs, gs, vs) dr rd (nI D, sm, nI N, nI K, ce, de, ke, se) i0 i1 kp dd tr m)
                refine zq_b [zq_k 0] [zq_kchk 0] 103 rfl (by decide +kernel) ?_
                show zq_G _ _ _ _ _ 103 ([(0, .ref 15), (1, .int (nI p)), (2, .int mv), (3, .int (nI wc)), (4, .int (nI (zcm mv wc cn p))), (5, .int (nI i)), (6, .int (nI (zcm mv wc cn i)))], [.int 0], XH tx n (nI P, nI C, nI R, nI L, hs, ss, cs, gs, vs) dr rd (nI D, sm, nI N, nI K, ce, de, ke, se) i0 i1 kp dd tr m)
                exact zq_zret (by decide +kernel) rfl (Or.inl rfl) (zb_r (zb_f (by unfold bareB; rw [zany_i (f := (fun q => decide (hs p ≤ hs q) && aheadB (zcm mv wc cn q) (zcm mv wc cn p))) hi39 (by rw [decide_eq_true (Int32.not_lt.mp c89), Decidable.not_not.mp c99]; rfl)]; simp))) rfl
        · show zq_G _ _ _ _ _ 39 ([(0, .ref 15), (1, .int (nI p)), (2, .int mv), (3, .int (nI wc)), (4, .int (nI (zcm mv wc cn p))), (5, .int (nI P))], [], XH tx n (nI P, nI C, nI R, nI L, hs, ss, cs, gs, vs) dr rd (nI D, sm, nI N, nI K, ce, de, ke, se) i0 i1 kp dd tr m)
          refine zq_b [zq_il 5, zq_al 0, zq_get 5 0, zq_get 9 0] [zq_ilchk 5, zq_alchk 0, zq_getchk 5 0, zq_getchk 9 0] 48 rfl (by decide +kernel) ?_
          show zq_G _ _ _ _ _ 48 ([(0, .ref 15), (1, .int (nI p)), (2, .int mv), (3, .int (nI wc)), (4, .int (nI (zcm mv wc cn p))), (5, .int (nI P))], [.int (nI P), .int (nI P)], XH tx n (nI P, nI C, nI R, nI L, hs, ss, cs, gs, vs) dr rd (nI D, sm, nI N, nI K, ce, de, ke, se) i0 i1 kp dd tr m)
          refine zq_if .ge 110 (P ≤ P) (by decide +kernel) (zq_cge (a := P) (b := P) (by omega) (by omega)) (fun c48 => ?_) (fun c48 => absurd (by omega) c48)
          show zq_G _ _ _ _ _ 110 ([(0, .ref 15), (1, .int (nI p)), (2, .int mv), (3, .int (nI wc)), (4, .int (nI (zcm mv wc cn p))), (5, .int (nI P))], [], XH tx n (nI P, nI C, nI R, nI L, hs, ss, cs, gs, vs) dr rd (nI D, sm, nI N, nI K, ce, de, ke, se) i0 i1 kp dd tr m)
          refine zq_b [zq_k 1] [zq_kchk 1] 111 rfl (by decide +kernel) ?_
          show zq_G _ _ _ _ _ 111 ([(0, .ref 15), (1, .int (nI p)), (2, .int mv), (3, .int (nI wc)), (4, .int (nI (zcm mv wc cn p))), (5, .int (nI P))], [.int 1], XH tx n (nI P, nI C, nI R, nI L, hs, ss, cs, gs, vs) dr rd (nI D, sm, nI N, nI K, ce, de, ke, se) i0 i1 kp dd tr m)
          exact zq_zret (by decide +kernel) rfl (Or.inr rfl) (zb_r (zb_t (by unfold bareB; rw [zany_f hI39]; simp_all))) rfl
      · show zq_G _ _ _ _ _ 34 ([(0, .ref 15), (1, .int (nI p)), (2, .int mv), (3, .int (nI wc)), (4, .int (nI (zcm mv wc cn p)))], [], XH tx n (nI P, nI C, nI R, nI L, hs, ss, cs, gs, vs) dr rd (nI D, sm, nI N, nI K, ce, de, ke, se) i0 i1 kp dd tr m)
        refine zq_b [zq_k 0] [zq_kchk 0] 35 rfl (by decide +kernel) ?_
        show zq_G _ _ _ _ _ 35 ([(0, .ref 15), (1, .int (nI p)), (2, .int mv), (3, .int (nI wc)), (4, .int (nI (zcm mv wc cn p)))], [.int 0], XH tx n (nI P, nI C, nI R, nI L, hs, ss, cs, gs, vs) dr rd (nI D, sm, nI N, nI K, ce, de, ke, se) i0 i1 kp dd tr m)
        exact zq_zret (by decide +kernel) rfl (Or.inl rfl) (zb_r (zb_f (by unfold bareB; rw [Decidable.not_not.mp c31]; simp))) rfl
set_option maxHeartbeats 4000000 in
set_option maxRecDepth 100000 in
theorem c_shownIf {mv : Int32} {wc : Nat} (hwc : wc ≤ 26) (hP : P ≤ 6) (hce : ∀ j, j < P → ce j = nI (cn j) ∧ cn j ≤ 26) : zq_P l mX5_shownIf 3 [.ref 15, .int mv, .int (nI wc)] (XH tx n (nI P, nI C, nI R, nI L, hs, ss, cs, gs, vs) dr rd (nI D, sm, nI N, nI K, ce, de, ke, se) i0 i1 kp dd tr m) (some (.int (orB (bareB P hs sm (zcm mv wc cn)) P))) (XH tx n (nI P, nI C, nI R, nI L, hs, ss, cs, gs, vs) dr rd (nI D, sm, nI N, nI K, ce, de, ke, se) i0 i1 kp dd tr m) := by
  refine zq_start (by decide +kernel) rfl (Nat.le_of_ble_eq_true rfl) ?_
  show zq_G _ _ _ _ _ 0 ([(0, .ref 15), (1, .int mv), (2, .int (nI wc))], [], XH tx n (nI P, nI C, nI R, nI L, hs, ss, cs, gs, vs) dr rd (nI D, sm, nI N, nI K, ce, de, ke, se) i0 i1 kp dd tr m)
  refine zq_b [zq_k 0, zq_is1 3, zq_k 0, zq_is1 4] [zq_kchk 0, zq_is1chk 3, zq_kchk 0, zq_is1chk 4] 5 rfl (by decide +kernel) ?_
  show zq_G _ _ _ _ _ 5 ([(0, .ref 15), (1, .int mv), (2, .int (nI wc)), (3, .int 0), (4, .int 0)], [], XH tx n (nI P, nI C, nI R, nI L, hs, ss, cs, gs, vs) dr rd (nI D, sm, nI N, nI K, ce, de, ke, se) i0 i1 kp dd tr m)
  refine zq_loop (fun i => ([(0, .ref 15), (1, .int mv), (2, .int (nI wc)), (3, .int (orB (bareB P hs sm (zcm mv wc cn)) i)), (4, .int (nI i))], [], XH tx n (nI P, nI C, nI R, nI L, hs, ss, cs, gs, vs) dr rd (nI D, sm, nI N, nI K, ce, de, ke, se) i0 i1 kp dd tr m)) (fun i => True) (P) (0) (by omega) (trivial) (fun i hl5 hi5 hI5 ih5 => ?_) (fun hI5 => ?_)
  · show zq_G _ _ _ _ _ 5 ([(0, .ref 15), (1, .int mv), (2, .int (nI wc)), (3, .int (orB (bareB P hs sm (zcm mv wc cn)) i)), (4, .int (nI i))], [], XH tx n (nI P, nI C, nI R, nI L, hs, ss, cs, gs, vs) dr rd (nI D, sm, nI N, nI K, ce, de, ke, se) i0 i1 kp dd tr m)
    refine zq_b [zq_il 4, zq_al 0, zq_get 5 0, zq_get 9 0] [zq_ilchk 4, zq_alchk 0, zq_getchk 5 0, zq_getchk 9 0] 14 rfl (by decide +kernel) ?_
    show zq_G _ _ _ _ _ 14 ([(0, .ref 15), (1, .int mv), (2, .int (nI wc)), (3, .int (orB (bareB P hs sm (zcm mv wc cn)) i)), (4, .int (nI i))], [.int (nI P), .int (nI i)], XH tx n (nI P, nI C, nI R, nI L, hs, ss, cs, gs, vs) dr rd (nI D, sm, nI N, nI K, ce, de, ke, se) i0 i1 kp dd tr m)
    refine zq_if .ge 41 (P ≤ i) (by decide +kernel) (zq_cge (a := i) (b := P) (by omega) (by omega)) (fun c14 => absurd c14 (by omega)) (fun c14 => ?_)
    show zq_G _ _ _ _ _ 17 ([(0, .ref 15), (1, .int mv), (2, .int (nI wc)), (3, .int (orB (bareB P hs sm (zcm mv wc cn)) i)), (4, .int (nI i))], [], XH tx n (nI P, nI C, nI R, nI L, hs, ss, cs, gs, vs) dr rd (nI D, sm, nI N, nI K, ce, de, ke, se) i0 i1 kp dd tr m)
    refine zq_b [zq_al 0, zq_il 4, zq_il 1, zq_il 2] [zq_alchk 0, zq_ilchk 4, zq_ilchk 1, zq_ilchk 2] 22 rfl (by decide +kernel) ?_
    show zq_G _ _ _ _ _ 22 ([(0, .ref 15), (1, .int mv), (2, .int (nI wc)), (3, .int (orB (bareB P hs sm (zcm mv wc cn)) i)), (4, .int (nI i))], [.int (nI wc), .int mv, .int (nI i), .ref 15], XH tx n (nI P, nI C, nI R, nI L, hs, ss, cs, gs, vs) dr rd (nI D, sm, nI N, nI K, ce, de, ke, se) i0 i1 kp dd tr m)
    refine zq_callV (av := [.int (nI i), .int mv, .int (nI wc)]) (rest := []) (by decide +kernel) k5_80 (c_shows (p := i) (mv := mv) (wc := wc) (by omega) (by omega) hP hce) rfl rfl rfl rfl ?_
    show zq_G _ _ _ _ _ 25 ([(0, .ref 15), (1, .int mv), (2, .int (nI wc)), (3, .int (orB (bareB P hs sm (zcm mv wc cn)) i)), (4, .int (nI i))], [.int (zb (bareB P hs sm (zcm mv wc cn) i = true))], XH tx n (nI P, nI C, nI R, nI L, hs, ss, cs, gs, vs) dr rd (nI D, sm, nI N, nI K, ce, de, ke, se) i0 i1 kp dd tr m)
    refine zq_ifz .eq 35 (¬ (bareB P hs sm (zcm mv wc cn) i = true)) (by decide +kernel) (zb_eq _) (fun c25 => ?_) (fun c25 => ?_)
    · show zq_G _ _ _ _ _ 35 ([(0, .ref 15), (1, .int mv), (2, .int (nI wc)), (3, .int (orB (bareB P hs sm (zcm mv wc cn)) i)), (4, .int (nI i))], [], XH tx n (nI P, nI C, nI R, nI L, hs, ss, cs, gs, vs) dr rd (nI D, sm, nI N, nI K, ce, de, ke, se) i0 i1 kp dd tr m)
      refine zq_b [zq_inc 4 1 (nI (i + 1)), zq_go] [zq_incchk 4 1, zq_gochk] 5 rfl (by decide +kernel) ?_
      refine ⟨nI_add i 1, ?_⟩
      show zq_G _ _ _ _ _ 5 ([(0, .ref 15), (1, .int mv), (2, .int (nI wc)), (3, .int (orB (bareB P hs sm (zcm mv wc cn)) i)), (4, .int (nI (i + 1)))], [], XH tx n (nI P, nI C, nI R, nI L, hs, ss, cs, gs, vs) dr rd (nI D, sm, nI N, nI K, ce, de, ke, se) i0 i1 kp dd tr m)
      exact zq_eq (by rw [orB_f (by simpa using c25)]) (ih5 trivial)
    · show zq_G _ _ _ _ _ 28 ([(0, .ref 15), (1, .int mv), (2, .int (nI wc)), (3, .int (orB (bareB P hs sm (zcm mv wc cn)) i)), (4, .int (nI i))], [], XH tx n (nI P, nI C, nI R, nI L, hs, ss, cs, gs, vs) dr rd (nI D, sm, nI N, nI K, ce, de, ke, se) i0 i1 kp dd tr m)
      refine zq_b [zq_il 3, zq_k 1, zq_il 4, zq_ishl (1 <<< (nI i &&& 31)), zq_ior ((orB (bareB P hs sm (zcm mv wc cn)) i) ||| (1 <<< (nI i &&& 31))), zq_is1 3, zq_inc 4 1 (nI (i + 1)), zq_go] [zq_ilchk 3, zq_kchk 1, zq_ilchk 4, zq_is .ishl 1, zq_is .ior 1, zq_is1chk 3, zq_incchk 4 1, zq_gochk] 5 rfl (by decide +kernel) ?_
      refine ⟨rfl, rfl, nI_add i 1, ?_⟩
      show zq_G _ _ _ _ _ 5 ([(0, .ref 15), (1, .int mv), (2, .int (nI wc)), (3, .int ((orB (bareB P hs sm (zcm mv wc cn)) i) ||| (1 <<< (nI i &&& 31)))), (4, .int (nI (i + 1)))], [], XH tx n (nI P, nI C, nI R, nI L, hs, ss, cs, gs, vs) dr rd (nI D, sm, nI N, nI K, ce, de, ke, se) i0 i1 kp dd tr m)
      exact zq_eq (by rw [orB_t (by simpa using c25)]) (ih5 trivial)
  · show zq_G _ _ _ _ _ 5 ([(0, .ref 15), (1, .int mv), (2, .int (nI wc)), (3, .int (orB (bareB P hs sm (zcm mv wc cn)) P)), (4, .int (nI P))], [], XH tx n (nI P, nI C, nI R, nI L, hs, ss, cs, gs, vs) dr rd (nI D, sm, nI N, nI K, ce, de, ke, se) i0 i1 kp dd tr m)
    refine zq_b [zq_il 4, zq_al 0, zq_get 5 0, zq_get 9 0] [zq_ilchk 4, zq_alchk 0, zq_getchk 5 0, zq_getchk 9 0] 14 rfl (by decide +kernel) ?_
    show zq_G _ _ _ _ _ 14 ([(0, .ref 15), (1, .int mv), (2, .int (nI wc)), (3, .int (orB (bareB P hs sm (zcm mv wc cn)) P)), (4, .int (nI P))], [.int (nI P), .int (nI P)], XH tx n (nI P, nI C, nI R, nI L, hs, ss, cs, gs, vs) dr rd (nI D, sm, nI N, nI K, ce, de, ke, se) i0 i1 kp dd tr m)
    refine zq_if .ge 41 (P ≤ P) (by decide +kernel) (zq_cge (a := P) (b := P) (by omega) (by omega)) (fun c14 => ?_) (fun c14 => absurd (by omega) c14)
    show zq_G _ _ _ _ _ 41 ([(0, .ref 15), (1, .int mv), (2, .int (nI wc)), (3, .int (orB (bareB P hs sm (zcm mv wc cn)) P)), (4, .int (nI P))], [], XH tx n (nI P, nI C, nI R, nI L, hs, ss, cs, gs, vs) dr rd (nI D, sm, nI N, nI K, ce, de, ke, se) i0 i1 kp dd tr m)
    refine zq_b [zq_il 3] [zq_ilchk 3] 42 rfl (by decide +kernel) ?_
    show zq_G _ _ _ _ _ 42 ([(0, .ref 15), (1, .int mv), (2, .int (nI wc)), (3, .int (orB (bareB P hs sm (zcm mv wc cn)) P)), (4, .int (nI P))], [.int (orB (bareB P hs sm (zcm mv wc cn)) P)], XH tx n (nI P, nI C, nI R, nI L, hs, ss, cs, gs, vs) dr rd (nI D, sm, nI N, nI K, ce, de, ke, se) i0 i1 kp dd tr m)
    exact zq_iret (by decide +kernel) rfl rfl rfl
set_option maxHeartbeats 4000000 in
set_option maxRecDepth 100000 in
theorem c_shown  (hP : P ≤ 6) (hce : ∀ j, j < P → ce j = nI (cn j) ∧ cn j ≤ 26) : zq_P l mX5_shown 4 [.ref 15] (XH tx n (nI P, nI C, nI R, nI L, hs, ss, cs, gs, vs) dr rd (nI D, sm, nI N, nI K, ce, de, ke, se) i0 i1 kp dd tr m) (some (.int (orB (bareB P hs sm cn) P))) (XH tx n (nI P, nI C, nI R, nI L, hs, ss, cs, gs, vs) dr rd (nI D, sm, nI N, nI K, ce, de, ke, se) i0 i1 kp dd tr m) := by
  refine zq_start (by decide +kernel) rfl (Nat.le_of_ble_eq_true rfl) ?_
  show zq_G _ _ _ _ _ 0 ([(0, .ref 15)], [], XH tx n (nI P, nI C, nI R, nI L, hs, ss, cs, gs, vs) dr rd (nI D, sm, nI N, nI K, ce, de, ke, se) i0 i1 kp dd tr m)
  refine zq_b [zq_al 0, zq_k (-1), zq_k 25] [zq_alchk 0, zq_kchk (-1), zq_kchk 25] 4 rfl (by decide +kernel) ?_
  show zq_G _ _ _ _ _ 4 ([(0, .ref 15)], [.int 25, .int (-1), .ref 15], XH tx n (nI P, nI C, nI R, nI L, hs, ss, cs, gs, vs) dr rd (nI D, sm, nI N, nI K, ce, de, ke, se) i0 i1 kp dd tr m)
  refine zq_callV (av := [.int (-1), .int 25]) (rest := []) (by decide +kernel) k5_77 (c_shownIf (mv := (-1)) (wc := 25) (by omega) hP hce) rfl rfl rfl rfl ?_
  show zq_G _ _ _ _ _ 7 ([(0, .ref 15)], [.int (orB (bareB P hs sm (zcm (-1) 25 cn)) P)], XH tx n (nI P, nI C, nI R, nI L, hs, ss, cs, gs, vs) dr rd (nI D, sm, nI N, nI K, ce, de, ke, se) i0 i1 kp dd tr m)
  exact zq_iret (by decide +kernel) rfl (by rw [orB_c (fun p hp => bareB_c hp (fun q hq => zcm_f (mv := -1) (wc := 25) (nI_m1 (q := q) (by omega))))]) rfl
set_option maxHeartbeats 4000000 in
set_option maxRecDepth 100000 in
theorem c_seen  (hP : P ≤ 6) (hC : C ≤ 8) (hce : ∀ j, j < P → ce j = nI (cn j) ∧ cn j ≤ 26) : zq_P l mX5_seen 5 [.ref 15] (XH tx n (nI P, nI C, nI R, nI L, hs, ss, cs, gs, vs) dr rd (nI D, sm, nI N, nI K, ce, de, ke, se) i0 i1 kp dd tr m) (some (.int (zseen C cs D P hs sm cn))) (XH tx n (nI P, nI C, nI R, nI L, hs, ss, cs, gs, vs) dr rd (nI D, sm, nI N, nI K, ce, de, ke, se) i0 i1 kp dd tr m) := by
  refine zq_start (by decide +kernel) rfl (Nat.le_of_ble_eq_true rfl) ?_
  show zq_G _ _ _ _ _ 0 ([(0, .ref 15)], [], XH tx n (nI P, nI C, nI R, nI L, hs, ss, cs, gs, vs) dr rd (nI D, sm, nI N, nI K, ce, de, ke, se) i0 i1 kp dd tr m)
  refine zq_b [zq_al 0, zq_get 5 0, zq_al 0, zq_get 5 1] [zq_alchk 0, zq_getchk 5 0, zq_alchk 0, zq_getchk 5 1] 8 rfl (by decide +kernel) ?_
  show zq_G _ _ _ _ _ 8 ([(0, .ref 15)], [.int (nI D), .ref 2], XH tx n (nI P, nI C, nI R, nI L, hs, ss, cs, gs, vs) dr rd (nI D, sm, nI N, nI K, ce, de, ke, se) i0 i1 kp dd tr m)
  refine zq_callV (av := [.int (nI D)]) (rest := []) (by decide +kernel) k5_70 (c_hasCloud (day := (nI D)) hC) rfl rfl rfl rfl ?_
  show zq_G _ _ _ _ _ 11 ([(0, .ref 15)], [.int (zb (zany (fun i => decide (cs i = (nI D))) C = true))], XH tx n (nI P, nI C, nI R, nI L, hs, ss, cs, gs, vs) dr rd (nI D, sm, nI N, nI K, ce, de, ke, se) i0 i1 kp dd tr m)
  refine zq_ifz .eq 18 (¬ (zany (fun i => decide (cs i = (nI D))) C = true)) (by decide +kernel) (zb_eq _) (fun c11 => ?_) (fun c11 => ?_)
  · show zq_G _ _ _ _ _ 18 ([(0, .ref 15)], [], XH tx n (nI P, nI C, nI R, nI L, hs, ss, cs, gs, vs) dr rd (nI D, sm, nI N, nI K, ce, de, ke, se) i0 i1 kp dd tr m)
    refine zq_b [zq_al 0] [zq_alchk 0] 19 rfl (by decide +kernel) ?_
    show zq_G _ _ _ _ _ 19 ([(0, .ref 15)], [.ref 15], XH tx n (nI P, nI C, nI R, nI L, hs, ss, cs, gs, vs) dr rd (nI D, sm, nI N, nI K, ce, de, ke, se) i0 i1 kp dd tr m)
    refine zq_callV (av := []) (rest := []) (by decide +kernel) k5_74 (c_shown hP hce) rfl rfl rfl rfl ?_
    show zq_G _ _ _ _ _ 22 ([(0, .ref 15)], [.int (orB (bareB P hs sm cn) P)], XH tx n (nI P, nI C, nI R, nI L, hs, ss, cs, gs, vs) dr rd (nI D, sm, nI N, nI K, ce, de, ke, se) i0 i1 kp dd tr m)
    exact zq_iret (by decide +kernel) rfl (by unfold zseen; rw [if_neg c11]) rfl
  · show zq_G _ _ _ _ _ 14 ([(0, .ref 15)], [], XH tx n (nI P, nI C, nI R, nI L, hs, ss, cs, gs, vs) dr rd (nI D, sm, nI N, nI K, ce, de, ke, se) i0 i1 kp dd tr m)
    refine zq_b [zq_k 0, zq_go] [zq_kchk 0, zq_gochk] 22 rfl (by decide +kernel) ?_
    show zq_G _ _ _ _ _ 22 ([(0, .ref 15)], [.int 0], XH tx n (nI P, nI C, nI R, nI L, hs, ss, cs, gs, vs) dr rd (nI D, sm, nI N, nI K, ce, de, ke, se) i0 i1 kp dd tr m)
    exact zq_iret (by decide +kernel) rfl (by unfold zseen; rw [if_pos (Decidable.not_not.mp c11)]) rfl
set_option maxHeartbeats 4000000 in
set_option maxRecDepth 100000 in
theorem c_bitCount {x : Int32}  : zq_P l mJ6_bitCount_0f7a4 0 [.int x] (h) (some (.int (zbc x))) (h) := by
  refine zq_start (by decide +kernel) rfl (Nat.le_of_ble_eq_true rfl) ?_
  show zq_G _ _ _ _ _ 0 ([(0, .int x)], [], h)
  refine zq_b [zq_il 0, zq_il 0, zq_k 1, zq_iushr ((Int32.toUInt32 x >>> (Int32.toUInt32 1 &&& Int32.toUInt32 31)).toInt32), zq_k 1431655765, zq_iand (((Int32.toUInt32 x >>> (Int32.toUInt32 1 &&& Int32.toUInt32 31)).toInt32) &&& 1431655765), zq_isub (x - (((Int32.toUInt32 x >>> (Int32.toUInt32 1 &&& Int32.toUInt32 31)).toInt32) &&& 1431655765)), zq_is1 0, zq_il 0, zq_k 858993459, zq_iand ((x - (((Int32.toUInt32 x >>> (Int32.toUInt32 1 &&& Int32.toUInt32 31)).toInt32) &&& 1431655765)) &&& 858993459), zq_il 0, zq_k 2, zq_iushr ((Int32.toUInt32 (x - (((Int32.toUInt32 x >>> (Int32.toUInt32 1 &&& Int32.toUInt32 31)).toInt32) &&& 1431655765)) >>> (Int32.toUInt32 2 &&& Int32.toUInt32 31)).toInt32), zq_k 858993459, zq_iand (((Int32.toUInt32 (x - (((Int32.toUInt32 x >>> (Int32.toUInt32 1 &&& Int32.toUInt32 31)).toInt32) &&& 1431655765)) >>> (Int32.toUInt32 2 &&& Int32.toUInt32 31)).toInt32) &&& 858993459), zq_iadd (((x - (((Int32.toUInt32 x >>> (Int32.toUInt32 1 &&& Int32.toUInt32 31)).toInt32) &&& 1431655765)) &&& 858993459) + (((Int32.toUInt32 (x - (((Int32.toUInt32 x >>> (Int32.toUInt32 1 &&& Int32.toUInt32 31)).toInt32) &&& 1431655765)) >>> (Int32.toUInt32 2 &&& Int32.toUInt32 31)).toInt32) &&& 858993459)), zq_is1 0, zq_il 0, zq_il 0, zq_k 4, zq_iushr ((Int32.toUInt32 (((x - (((Int32.toUInt32 x >>> (Int32.toUInt32 1 &&& Int32.toUInt32 31)).toInt32) &&& 1431655765)) &&& 858993459) + (((Int32.toUInt32 (x - (((Int32.toUInt32 x >>> (Int32.toUInt32 1 &&& Int32.toUInt32 31)).toInt32) &&& 1431655765)) >>> (Int32.toUInt32 2 &&& Int32.toUInt32 31)).toInt32) &&& 858993459)) >>> (Int32.toUInt32 4 &&& Int32.toUInt32 31)).toInt32), zq_iadd ((((x - (((Int32.toUInt32 x >>> (Int32.toUInt32 1 &&& Int32.toUInt32 31)).toInt32) &&& 1431655765)) &&& 858993459) + (((Int32.toUInt32 (x - (((Int32.toUInt32 x >>> (Int32.toUInt32 1 &&& Int32.toUInt32 31)).toInt32) &&& 1431655765)) >>> (Int32.toUInt32 2 &&& Int32.toUInt32 31)).toInt32) &&& 858993459)) + ((Int32.toUInt32 (((x - (((Int32.toUInt32 x >>> (Int32.toUInt32 1 &&& Int32.toUInt32 31)).toInt32) &&& 1431655765)) &&& 858993459) + (((Int32.toUInt32 (x - (((Int32.toUInt32 x >>> (Int32.toUInt32 1 &&& Int32.toUInt32 31)).toInt32) &&& 1431655765)) >>> (Int32.toUInt32 2 &&& Int32.toUInt32 31)).toInt32) &&& 858993459)) >>> (Int32.toUInt32 4 &&& Int32.toUInt32 31)).toInt32)), zq_k 252645135, zq_iand (((((x - (((Int32.toUInt32 x >>> (Int32.toUInt32 1 &&& Int32.toUInt32 31)).toInt32) &&& 1431655765)) &&& 858993459) + (((Int32.toUInt32 (x - (((Int32.toUInt32 x >>> (Int32.toUInt32 1 &&& Int32.toUInt32 31)).toInt32) &&& 1431655765)) >>> (Int32.toUInt32 2 &&& Int32.toUInt32 31)).toInt32) &&& 858993459)) + ((Int32.toUInt32 (((x - (((Int32.toUInt32 x >>> (Int32.toUInt32 1 &&& Int32.toUInt32 31)).toInt32) &&& 1431655765)) &&& 858993459) + (((Int32.toUInt32 (x - (((Int32.toUInt32 x >>> (Int32.toUInt32 1 &&& Int32.toUInt32 31)).toInt32) &&& 1431655765)) >>> (Int32.toUInt32 2 &&& Int32.toUInt32 31)).toInt32) &&& 858993459)) >>> (Int32.toUInt32 4 &&& Int32.toUInt32 31)).toInt32)) &&& 252645135), zq_is1 0, zq_il 0, zq_il 0, zq_k 8, zq_iushr ((Int32.toUInt32 (((((x - (((Int32.toUInt32 x >>> (Int32.toUInt32 1 &&& Int32.toUInt32 31)).toInt32) &&& 1431655765)) &&& 858993459) + (((Int32.toUInt32 (x - (((Int32.toUInt32 x >>> (Int32.toUInt32 1 &&& Int32.toUInt32 31)).toInt32) &&& 1431655765)) >>> (Int32.toUInt32 2 &&& Int32.toUInt32 31)).toInt32) &&& 858993459)) + ((Int32.toUInt32 (((x - (((Int32.toUInt32 x >>> (Int32.toUInt32 1 &&& Int32.toUInt32 31)).toInt32) &&& 1431655765)) &&& 858993459) + (((Int32.toUInt32 (x - (((Int32.toUInt32 x >>> (Int32.toUInt32 1 &&& Int32.toUInt32 31)).toInt32) &&& 1431655765)) >>> (Int32.toUInt32 2 &&& Int32.toUInt32 31)).toInt32) &&& 858993459)) >>> (Int32.toUInt32 4 &&& Int32.toUInt32 31)).toInt32)) &&& 252645135) >>> (Int32.toUInt32 8 &&& Int32.toUInt32 31)).toInt32), zq_iadd ((((((x - (((Int32.toUInt32 x >>> (Int32.toUInt32 1 &&& Int32.toUInt32 31)).toInt32) &&& 1431655765)) &&& 858993459) + (((Int32.toUInt32 (x - (((Int32.toUInt32 x >>> (Int32.toUInt32 1 &&& Int32.toUInt32 31)).toInt32) &&& 1431655765)) >>> (Int32.toUInt32 2 &&& Int32.toUInt32 31)).toInt32) &&& 858993459)) + ((Int32.toUInt32 (((x - (((Int32.toUInt32 x >>> (Int32.toUInt32 1 &&& Int32.toUInt32 31)).toInt32) &&& 1431655765)) &&& 858993459) + (((Int32.toUInt32 (x - (((Int32.toUInt32 x >>> (Int32.toUInt32 1 &&& Int32.toUInt32 31)).toInt32) &&& 1431655765)) >>> (Int32.toUInt32 2 &&& Int32.toUInt32 31)).toInt32) &&& 858993459)) >>> (Int32.toUInt32 4 &&& Int32.toUInt32 31)).toInt32)) &&& 252645135) + ((Int32.toUInt32 (((((x - (((Int32.toUInt32 x >>> (Int32.toUInt32 1 &&& Int32.toUInt32 31)).toInt32) &&& 1431655765)) &&& 858993459) + (((Int32.toUInt32 (x - (((Int32.toUInt32 x >>> (Int32.toUInt32 1 &&& Int32.toUInt32 31)).toInt32) &&& 1431655765)) >>> (Int32.toUInt32 2 &&& Int32.toUInt32 31)).toInt32) &&& 858993459)) + ((Int32.toUInt32 (((x - (((Int32.toUInt32 x >>> (Int32.toUInt32 1 &&& Int32.toUInt32 31)).toInt32) &&& 1431655765)) &&& 858993459) + (((Int32.toUInt32 (x - (((Int32.toUInt32 x >>> (Int32.toUInt32 1 &&& Int32.toUInt32 31)).toInt32) &&& 1431655765)) >>> (Int32.toUInt32 2 &&& Int32.toUInt32 31)).toInt32) &&& 858993459)) >>> (Int32.toUInt32 4 &&& Int32.toUInt32 31)).toInt32)) &&& 252645135) >>> (Int32.toUInt32 8 &&& Int32.toUInt32 31)).toInt32)), zq_is1 0, zq_il 0, zq_il 0, zq_k 16, zq_iushr ((Int32.toUInt32 ((((((x - (((Int32.toUInt32 x >>> (Int32.toUInt32 1 &&& Int32.toUInt32 31)).toInt32) &&& 1431655765)) &&& 858993459) + (((Int32.toUInt32 (x - (((Int32.toUInt32 x >>> (Int32.toUInt32 1 &&& Int32.toUInt32 31)).toInt32) &&& 1431655765)) >>> (Int32.toUInt32 2 &&& Int32.toUInt32 31)).toInt32) &&& 858993459)) + ((Int32.toUInt32 (((x - (((Int32.toUInt32 x >>> (Int32.toUInt32 1 &&& Int32.toUInt32 31)).toInt32) &&& 1431655765)) &&& 858993459) + (((Int32.toUInt32 (x - (((Int32.toUInt32 x >>> (Int32.toUInt32 1 &&& Int32.toUInt32 31)).toInt32) &&& 1431655765)) >>> (Int32.toUInt32 2 &&& Int32.toUInt32 31)).toInt32) &&& 858993459)) >>> (Int32.toUInt32 4 &&& Int32.toUInt32 31)).toInt32)) &&& 252645135) + ((Int32.toUInt32 (((((x - (((Int32.toUInt32 x >>> (Int32.toUInt32 1 &&& Int32.toUInt32 31)).toInt32) &&& 1431655765)) &&& 858993459) + (((Int32.toUInt32 (x - (((Int32.toUInt32 x >>> (Int32.toUInt32 1 &&& Int32.toUInt32 31)).toInt32) &&& 1431655765)) >>> (Int32.toUInt32 2 &&& Int32.toUInt32 31)).toInt32) &&& 858993459)) + ((Int32.toUInt32 (((x - (((Int32.toUInt32 x >>> (Int32.toUInt32 1 &&& Int32.toUInt32 31)).toInt32) &&& 1431655765)) &&& 858993459) + (((Int32.toUInt32 (x - (((Int32.toUInt32 x >>> (Int32.toUInt32 1 &&& Int32.toUInt32 31)).toInt32) &&& 1431655765)) >>> (Int32.toUInt32 2 &&& Int32.toUInt32 31)).toInt32) &&& 858993459)) >>> (Int32.toUInt32 4 &&& Int32.toUInt32 31)).toInt32)) &&& 252645135) >>> (Int32.toUInt32 8 &&& Int32.toUInt32 31)).toInt32)) >>> (Int32.toUInt32 16 &&& Int32.toUInt32 31)).toInt32), zq_iadd (((((((x - (((Int32.toUInt32 x >>> (Int32.toUInt32 1 &&& Int32.toUInt32 31)).toInt32) &&& 1431655765)) &&& 858993459) + (((Int32.toUInt32 (x - (((Int32.toUInt32 x >>> (Int32.toUInt32 1 &&& Int32.toUInt32 31)).toInt32) &&& 1431655765)) >>> (Int32.toUInt32 2 &&& Int32.toUInt32 31)).toInt32) &&& 858993459)) + ((Int32.toUInt32 (((x - (((Int32.toUInt32 x >>> (Int32.toUInt32 1 &&& Int32.toUInt32 31)).toInt32) &&& 1431655765)) &&& 858993459) + (((Int32.toUInt32 (x - (((Int32.toUInt32 x >>> (Int32.toUInt32 1 &&& Int32.toUInt32 31)).toInt32) &&& 1431655765)) >>> (Int32.toUInt32 2 &&& Int32.toUInt32 31)).toInt32) &&& 858993459)) >>> (Int32.toUInt32 4 &&& Int32.toUInt32 31)).toInt32)) &&& 252645135) + ((Int32.toUInt32 (((((x - (((Int32.toUInt32 x >>> (Int32.toUInt32 1 &&& Int32.toUInt32 31)).toInt32) &&& 1431655765)) &&& 858993459) + (((Int32.toUInt32 (x - (((Int32.toUInt32 x >>> (Int32.toUInt32 1 &&& Int32.toUInt32 31)).toInt32) &&& 1431655765)) >>> (Int32.toUInt32 2 &&& Int32.toUInt32 31)).toInt32) &&& 858993459)) + ((Int32.toUInt32 (((x - (((Int32.toUInt32 x >>> (Int32.toUInt32 1 &&& Int32.toUInt32 31)).toInt32) &&& 1431655765)) &&& 858993459) + (((Int32.toUInt32 (x - (((Int32.toUInt32 x >>> (Int32.toUInt32 1 &&& Int32.toUInt32 31)).toInt32) &&& 1431655765)) >>> (Int32.toUInt32 2 &&& Int32.toUInt32 31)).toInt32) &&& 858993459)) >>> (Int32.toUInt32 4 &&& Int32.toUInt32 31)).toInt32)) &&& 252645135) >>> (Int32.toUInt32 8 &&& Int32.toUInt32 31)).toInt32)) + ((Int32.toUInt32 ((((((x - (((Int32.toUInt32 x >>> (Int32.toUInt32 1 &&& Int32.toUInt32 31)).toInt32) &&& 1431655765)) &&& 858993459) + (((Int32.toUInt32 (x - (((Int32.toUInt32 x >>> (Int32.toUInt32 1 &&& Int32.toUInt32 31)).toInt32) &&& 1431655765)) >>> (Int32.toUInt32 2 &&& Int32.toUInt32 31)).toInt32) &&& 858993459)) + ((Int32.toUInt32 (((x - (((Int32.toUInt32 x >>> (Int32.toUInt32 1 &&& Int32.toUInt32 31)).toInt32) &&& 1431655765)) &&& 858993459) + (((Int32.toUInt32 (x - (((Int32.toUInt32 x >>> (Int32.toUInt32 1 &&& Int32.toUInt32 31)).toInt32) &&& 1431655765)) >>> (Int32.toUInt32 2 &&& Int32.toUInt32 31)).toInt32) &&& 858993459)) >>> (Int32.toUInt32 4 &&& Int32.toUInt32 31)).toInt32)) &&& 252645135) + ((Int32.toUInt32 (((((x - (((Int32.toUInt32 x >>> (Int32.toUInt32 1 &&& Int32.toUInt32 31)).toInt32) &&& 1431655765)) &&& 858993459) + (((Int32.toUInt32 (x - (((Int32.toUInt32 x >>> (Int32.toUInt32 1 &&& Int32.toUInt32 31)).toInt32) &&& 1431655765)) >>> (Int32.toUInt32 2 &&& Int32.toUInt32 31)).toInt32) &&& 858993459)) + ((Int32.toUInt32 (((x - (((Int32.toUInt32 x >>> (Int32.toUInt32 1 &&& Int32.toUInt32 31)).toInt32) &&& 1431655765)) &&& 858993459) + (((Int32.toUInt32 (x - (((Int32.toUInt32 x >>> (Int32.toUInt32 1 &&& Int32.toUInt32 31)).toInt32) &&& 1431655765)) >>> (Int32.toUInt32 2 &&& Int32.toUInt32 31)).toInt32) &&& 858993459)) >>> (Int32.toUInt32 4 &&& Int32.toUInt32 31)).toInt32)) &&& 252645135) >>> (Int32.toUInt32 8 &&& Int32.toUInt32 31)).toInt32)) >>> (Int32.toUInt32 16 &&& Int32.toUInt32 31)).toInt32)), zq_is1 0, zq_il 0, zq_k 63, zq_iand ((((((((x - (((Int32.toUInt32 x >>> (Int32.toUInt32 1 &&& Int32.toUInt32 31)).toInt32) &&& 1431655765)) &&& 858993459) + (((Int32.toUInt32 (x - (((Int32.toUInt32 x >>> (Int32.toUInt32 1 &&& Int32.toUInt32 31)).toInt32) &&& 1431655765)) >>> (Int32.toUInt32 2 &&& Int32.toUInt32 31)).toInt32) &&& 858993459)) + ((Int32.toUInt32 (((x - (((Int32.toUInt32 x >>> (Int32.toUInt32 1 &&& Int32.toUInt32 31)).toInt32) &&& 1431655765)) &&& 858993459) + (((Int32.toUInt32 (x - (((Int32.toUInt32 x >>> (Int32.toUInt32 1 &&& Int32.toUInt32 31)).toInt32) &&& 1431655765)) >>> (Int32.toUInt32 2 &&& Int32.toUInt32 31)).toInt32) &&& 858993459)) >>> (Int32.toUInt32 4 &&& Int32.toUInt32 31)).toInt32)) &&& 252645135) + ((Int32.toUInt32 (((((x - (((Int32.toUInt32 x >>> (Int32.toUInt32 1 &&& Int32.toUInt32 31)).toInt32) &&& 1431655765)) &&& 858993459) + (((Int32.toUInt32 (x - (((Int32.toUInt32 x >>> (Int32.toUInt32 1 &&& Int32.toUInt32 31)).toInt32) &&& 1431655765)) >>> (Int32.toUInt32 2 &&& Int32.toUInt32 31)).toInt32) &&& 858993459)) + ((Int32.toUInt32 (((x - (((Int32.toUInt32 x >>> (Int32.toUInt32 1 &&& Int32.toUInt32 31)).toInt32) &&& 1431655765)) &&& 858993459) + (((Int32.toUInt32 (x - (((Int32.toUInt32 x >>> (Int32.toUInt32 1 &&& Int32.toUInt32 31)).toInt32) &&& 1431655765)) >>> (Int32.toUInt32 2 &&& Int32.toUInt32 31)).toInt32) &&& 858993459)) >>> (Int32.toUInt32 4 &&& Int32.toUInt32 31)).toInt32)) &&& 252645135) >>> (Int32.toUInt32 8 &&& Int32.toUInt32 31)).toInt32)) + ((Int32.toUInt32 ((((((x - (((Int32.toUInt32 x >>> (Int32.toUInt32 1 &&& Int32.toUInt32 31)).toInt32) &&& 1431655765)) &&& 858993459) + (((Int32.toUInt32 (x - (((Int32.toUInt32 x >>> (Int32.toUInt32 1 &&& Int32.toUInt32 31)).toInt32) &&& 1431655765)) >>> (Int32.toUInt32 2 &&& Int32.toUInt32 31)).toInt32) &&& 858993459)) + ((Int32.toUInt32 (((x - (((Int32.toUInt32 x >>> (Int32.toUInt32 1 &&& Int32.toUInt32 31)).toInt32) &&& 1431655765)) &&& 858993459) + (((Int32.toUInt32 (x - (((Int32.toUInt32 x >>> (Int32.toUInt32 1 &&& Int32.toUInt32 31)).toInt32) &&& 1431655765)) >>> (Int32.toUInt32 2 &&& Int32.toUInt32 31)).toInt32) &&& 858993459)) >>> (Int32.toUInt32 4 &&& Int32.toUInt32 31)).toInt32)) &&& 252645135) + ((Int32.toUInt32 (((((x - (((Int32.toUInt32 x >>> (Int32.toUInt32 1 &&& Int32.toUInt32 31)).toInt32) &&& 1431655765)) &&& 858993459) + (((Int32.toUInt32 (x - (((Int32.toUInt32 x >>> (Int32.toUInt32 1 &&& Int32.toUInt32 31)).toInt32) &&& 1431655765)) >>> (Int32.toUInt32 2 &&& Int32.toUInt32 31)).toInt32) &&& 858993459)) + ((Int32.toUInt32 (((x - (((Int32.toUInt32 x >>> (Int32.toUInt32 1 &&& Int32.toUInt32 31)).toInt32) &&& 1431655765)) &&& 858993459) + (((Int32.toUInt32 (x - (((Int32.toUInt32 x >>> (Int32.toUInt32 1 &&& Int32.toUInt32 31)).toInt32) &&& 1431655765)) >>> (Int32.toUInt32 2 &&& Int32.toUInt32 31)).toInt32) &&& 858993459)) >>> (Int32.toUInt32 4 &&& Int32.toUInt32 31)).toInt32)) &&& 252645135) >>> (Int32.toUInt32 8 &&& Int32.toUInt32 31)).toInt32)) >>> (Int32.toUInt32 16 &&& Int32.toUInt32 31)).toInt32)) &&& 63)] [zq_ilchk 0, zq_ilchk 0, zq_kchk 1, zq_is .iushr 1, zq_kchk 1431655765, zq_is .iand 1, zq_is .isub 1, zq_is1chk 0, zq_ilchk 0, zq_kchk 858993459, zq_is .iand 1, zq_ilchk 0, zq_kchk 2, zq_is .iushr 1, zq_kchk 858993459, zq_is .iand 1, zq_is .iadd 1, zq_is1chk 0, zq_ilchk 0, zq_ilchk 0, zq_kchk 4, zq_is .iushr 1, zq_is .iadd 1, zq_kchk 252645135, zq_is .iand 1, zq_is1chk 0, zq_ilchk 0, zq_ilchk 0, zq_kchk 8, zq_is .iushr 1, zq_is .iadd 1, zq_is1chk 0, zq_ilchk 0, zq_ilchk 0, zq_kchk 16, zq_is .iushr 1, zq_is .iadd 1, zq_is1chk 0, zq_ilchk 0, zq_kchk 63, zq_is .iand 1] 52 rfl (by decide +kernel) ?_
  refine ⟨rfl, rfl, rfl, rfl, rfl, rfl, rfl, rfl, rfl, rfl, rfl, rfl, rfl, rfl, rfl, ?_⟩
  show zq_G _ _ _ _ _ 52 ([(0, .int (((((((x - (((Int32.toUInt32 x >>> (Int32.toUInt32 1 &&& Int32.toUInt32 31)).toInt32) &&& 1431655765)) &&& 858993459) + (((Int32.toUInt32 (x - (((Int32.toUInt32 x >>> (Int32.toUInt32 1 &&& Int32.toUInt32 31)).toInt32) &&& 1431655765)) >>> (Int32.toUInt32 2 &&& Int32.toUInt32 31)).toInt32) &&& 858993459)) + ((Int32.toUInt32 (((x - (((Int32.toUInt32 x >>> (Int32.toUInt32 1 &&& Int32.toUInt32 31)).toInt32) &&& 1431655765)) &&& 858993459) + (((Int32.toUInt32 (x - (((Int32.toUInt32 x >>> (Int32.toUInt32 1 &&& Int32.toUInt32 31)).toInt32) &&& 1431655765)) >>> (Int32.toUInt32 2 &&& Int32.toUInt32 31)).toInt32) &&& 858993459)) >>> (Int32.toUInt32 4 &&& Int32.toUInt32 31)).toInt32)) &&& 252645135) + ((Int32.toUInt32 (((((x - (((Int32.toUInt32 x >>> (Int32.toUInt32 1 &&& Int32.toUInt32 31)).toInt32) &&& 1431655765)) &&& 858993459) + (((Int32.toUInt32 (x - (((Int32.toUInt32 x >>> (Int32.toUInt32 1 &&& Int32.toUInt32 31)).toInt32) &&& 1431655765)) >>> (Int32.toUInt32 2 &&& Int32.toUInt32 31)).toInt32) &&& 858993459)) + ((Int32.toUInt32 (((x - (((Int32.toUInt32 x >>> (Int32.toUInt32 1 &&& Int32.toUInt32 31)).toInt32) &&& 1431655765)) &&& 858993459) + (((Int32.toUInt32 (x - (((Int32.toUInt32 x >>> (Int32.toUInt32 1 &&& Int32.toUInt32 31)).toInt32) &&& 1431655765)) >>> (Int32.toUInt32 2 &&& Int32.toUInt32 31)).toInt32) &&& 858993459)) >>> (Int32.toUInt32 4 &&& Int32.toUInt32 31)).toInt32)) &&& 252645135) >>> (Int32.toUInt32 8 &&& Int32.toUInt32 31)).toInt32)) + ((Int32.toUInt32 ((((((x - (((Int32.toUInt32 x >>> (Int32.toUInt32 1 &&& Int32.toUInt32 31)).toInt32) &&& 1431655765)) &&& 858993459) + (((Int32.toUInt32 (x - (((Int32.toUInt32 x >>> (Int32.toUInt32 1 &&& Int32.toUInt32 31)).toInt32) &&& 1431655765)) >>> (Int32.toUInt32 2 &&& Int32.toUInt32 31)).toInt32) &&& 858993459)) + ((Int32.toUInt32 (((x - (((Int32.toUInt32 x >>> (Int32.toUInt32 1 &&& Int32.toUInt32 31)).toInt32) &&& 1431655765)) &&& 858993459) + (((Int32.toUInt32 (x - (((Int32.toUInt32 x >>> (Int32.toUInt32 1 &&& Int32.toUInt32 31)).toInt32) &&& 1431655765)) >>> (Int32.toUInt32 2 &&& Int32.toUInt32 31)).toInt32) &&& 858993459)) >>> (Int32.toUInt32 4 &&& Int32.toUInt32 31)).toInt32)) &&& 252645135) + ((Int32.toUInt32 (((((x - (((Int32.toUInt32 x >>> (Int32.toUInt32 1 &&& Int32.toUInt32 31)).toInt32) &&& 1431655765)) &&& 858993459) + (((Int32.toUInt32 (x - (((Int32.toUInt32 x >>> (Int32.toUInt32 1 &&& Int32.toUInt32 31)).toInt32) &&& 1431655765)) >>> (Int32.toUInt32 2 &&& Int32.toUInt32 31)).toInt32) &&& 858993459)) + ((Int32.toUInt32 (((x - (((Int32.toUInt32 x >>> (Int32.toUInt32 1 &&& Int32.toUInt32 31)).toInt32) &&& 1431655765)) &&& 858993459) + (((Int32.toUInt32 (x - (((Int32.toUInt32 x >>> (Int32.toUInt32 1 &&& Int32.toUInt32 31)).toInt32) &&& 1431655765)) >>> (Int32.toUInt32 2 &&& Int32.toUInt32 31)).toInt32) &&& 858993459)) >>> (Int32.toUInt32 4 &&& Int32.toUInt32 31)).toInt32)) &&& 252645135) >>> (Int32.toUInt32 8 &&& Int32.toUInt32 31)).toInt32)) >>> (Int32.toUInt32 16 &&& Int32.toUInt32 31)).toInt32)))], [.int ((((((((x - (((Int32.toUInt32 x >>> (Int32.toUInt32 1 &&& Int32.toUInt32 31)).toInt32) &&& 1431655765)) &&& 858993459) + (((Int32.toUInt32 (x - (((Int32.toUInt32 x >>> (Int32.toUInt32 1 &&& Int32.toUInt32 31)).toInt32) &&& 1431655765)) >>> (Int32.toUInt32 2 &&& Int32.toUInt32 31)).toInt32) &&& 858993459)) + ((Int32.toUInt32 (((x - (((Int32.toUInt32 x >>> (Int32.toUInt32 1 &&& Int32.toUInt32 31)).toInt32) &&& 1431655765)) &&& 858993459) + (((Int32.toUInt32 (x - (((Int32.toUInt32 x >>> (Int32.toUInt32 1 &&& Int32.toUInt32 31)).toInt32) &&& 1431655765)) >>> (Int32.toUInt32 2 &&& Int32.toUInt32 31)).toInt32) &&& 858993459)) >>> (Int32.toUInt32 4 &&& Int32.toUInt32 31)).toInt32)) &&& 252645135) + ((Int32.toUInt32 (((((x - (((Int32.toUInt32 x >>> (Int32.toUInt32 1 &&& Int32.toUInt32 31)).toInt32) &&& 1431655765)) &&& 858993459) + (((Int32.toUInt32 (x - (((Int32.toUInt32 x >>> (Int32.toUInt32 1 &&& Int32.toUInt32 31)).toInt32) &&& 1431655765)) >>> (Int32.toUInt32 2 &&& Int32.toUInt32 31)).toInt32) &&& 858993459)) + ((Int32.toUInt32 (((x - (((Int32.toUInt32 x >>> (Int32.toUInt32 1 &&& Int32.toUInt32 31)).toInt32) &&& 1431655765)) &&& 858993459) + (((Int32.toUInt32 (x - (((Int32.toUInt32 x >>> (Int32.toUInt32 1 &&& Int32.toUInt32 31)).toInt32) &&& 1431655765)) >>> (Int32.toUInt32 2 &&& Int32.toUInt32 31)).toInt32) &&& 858993459)) >>> (Int32.toUInt32 4 &&& Int32.toUInt32 31)).toInt32)) &&& 252645135) >>> (Int32.toUInt32 8 &&& Int32.toUInt32 31)).toInt32)) + ((Int32.toUInt32 ((((((x - (((Int32.toUInt32 x >>> (Int32.toUInt32 1 &&& Int32.toUInt32 31)).toInt32) &&& 1431655765)) &&& 858993459) + (((Int32.toUInt32 (x - (((Int32.toUInt32 x >>> (Int32.toUInt32 1 &&& Int32.toUInt32 31)).toInt32) &&& 1431655765)) >>> (Int32.toUInt32 2 &&& Int32.toUInt32 31)).toInt32) &&& 858993459)) + ((Int32.toUInt32 (((x - (((Int32.toUInt32 x >>> (Int32.toUInt32 1 &&& Int32.toUInt32 31)).toInt32) &&& 1431655765)) &&& 858993459) + (((Int32.toUInt32 (x - (((Int32.toUInt32 x >>> (Int32.toUInt32 1 &&& Int32.toUInt32 31)).toInt32) &&& 1431655765)) >>> (Int32.toUInt32 2 &&& Int32.toUInt32 31)).toInt32) &&& 858993459)) >>> (Int32.toUInt32 4 &&& Int32.toUInt32 31)).toInt32)) &&& 252645135) + ((Int32.toUInt32 (((((x - (((Int32.toUInt32 x >>> (Int32.toUInt32 1 &&& Int32.toUInt32 31)).toInt32) &&& 1431655765)) &&& 858993459) + (((Int32.toUInt32 (x - (((Int32.toUInt32 x >>> (Int32.toUInt32 1 &&& Int32.toUInt32 31)).toInt32) &&& 1431655765)) >>> (Int32.toUInt32 2 &&& Int32.toUInt32 31)).toInt32) &&& 858993459)) + ((Int32.toUInt32 (((x - (((Int32.toUInt32 x >>> (Int32.toUInt32 1 &&& Int32.toUInt32 31)).toInt32) &&& 1431655765)) &&& 858993459) + (((Int32.toUInt32 (x - (((Int32.toUInt32 x >>> (Int32.toUInt32 1 &&& Int32.toUInt32 31)).toInt32) &&& 1431655765)) >>> (Int32.toUInt32 2 &&& Int32.toUInt32 31)).toInt32) &&& 858993459)) >>> (Int32.toUInt32 4 &&& Int32.toUInt32 31)).toInt32)) &&& 252645135) >>> (Int32.toUInt32 8 &&& Int32.toUInt32 31)).toInt32)) >>> (Int32.toUInt32 16 &&& Int32.toUInt32 31)).toInt32)) &&& 63)], h)
  exact zq_iret (by decide +kernel) rfl rfl rfl
set_option maxHeartbeats 4000000 in
set_option maxRecDepth 100000 in
theorem c_nearestRow {b : Int32} {c : Nat} (hc : c < 5) (hP : P ≤ 6) (hce : ∀ j, j < P → ce j = nI (cn j) ∧ cn j ≤ 26) : zq_P l mX5_nearestRow 1 [.ref 15, .int b, .int (nI c)] (XH tx n (nI P, nI C, nI R, nI L, hs, ss, cs, gs, vs) dr rd (nI D, sm, nI N, nI K, ce, de, ke, se) i0 i1 kp dd tr m) (some (.int (nI (nearN (colB b cn c) cn P)))) (XH tx n (nI P, nI C, nI R, nI L, hs, ss, cs, gs, vs) dr rd (nI D, sm, nI N, nI K, ce, de, ke, se) i0 i1 kp dd tr m) := by
  refine zq_start (by decide +kernel) rfl (Nat.le_of_ble_eq_true rfl) ?_
  show zq_G _ _ _ _ _ 0 ([(0, .ref 15), (1, .int b), (2, .int (nI c))], [], XH tx n (nI P, nI C, nI R, nI L, hs, ss, cs, gs, vs) dr rd (nI D, sm, nI N, nI K, ce, de, ke, se) i0 i1 kp dd tr m)
  refine zq_b [zq_k 5, zq_is1 3, zq_k 0, zq_is1 4] [zq_kchk 5, zq_is1chk 3, zq_kchk 0, zq_is1chk 4] 5 rfl (by decide +kernel) ?_
  show zq_G _ _ _ _ _ 5 ([(0, .ref 15), (1, .int b), (2, .int (nI c)), (3, .int 5), (4, .int 0)], [], XH tx n (nI P, nI C, nI R, nI L, hs, ss, cs, gs, vs) dr rd (nI D, sm, nI N, nI K, ce, de, ke, se) i0 i1 kp dd tr m)
  refine zq_loop (fun i => ([(0, .ref 15), (1, .int b), (2, .int (nI c)), (3, .int (nI (nearN (colB b cn c) cn i))), (4, .int (nI i))], [], XH tx n (nI P, nI C, nI R, nI L, hs, ss, cs, gs, vs) dr rd (nI D, sm, nI N, nI K, ce, de, ke, se) i0 i1 kp dd tr m)) (fun i => True) (P) (0) (by omega) (trivial) (fun i hl5 hi5 hI5 ih5 => ?_) (fun hI5 => ?_)
  · show zq_G _ _ _ _ _ 5 ([(0, .ref 15), (1, .int b), (2, .int (nI c)), (3, .int (nI (nearN (colB b cn c) cn i))), (4, .int (nI i))], [], XH tx n (nI P, nI C, nI R, nI L, hs, ss, cs, gs, vs) dr rd (nI D, sm, nI N, nI K, ce, de, ke, se) i0 i1 kp dd tr m)
    have hci := (hce i hi5).2
    refine zq_b [zq_il 4, zq_al 0, zq_get 5 0, zq_get 9 0] [zq_ilchk 4, zq_alchk 0, zq_getchk 5 0, zq_getchk 9 0] 14 rfl (by decide +kernel) ?_
    show zq_G _ _ _ _ _ 14 ([(0, .ref 15), (1, .int b), (2, .int (nI c)), (3, .int (nI (nearN (colB b cn c) cn i))), (4, .int (nI i))], [.int (nI P), .int (nI i)], XH tx n (nI P, nI C, nI R, nI L, hs, ss, cs, gs, vs) dr rd (nI D, sm, nI N, nI K, ce, de, ke, se) i0 i1 kp dd tr m)
    refine zq_if .ge 60 (P ≤ i) (by decide +kernel) (zq_cge (a := i) (b := P) (by omega) (by omega)) (fun c14 => absurd c14 (by omega)) (fun c14 => ?_)
    show zq_G _ _ _ _ _ 17 ([(0, .ref 15), (1, .int b), (2, .int (nI c)), (3, .int (nI (nearN (colB b cn c) cn i))), (4, .int (nI i))], [], XH tx n (nI P, nI C, nI R, nI L, hs, ss, cs, gs, vs) dr rd (nI D, sm, nI N, nI K, ce, de, ke, se) i0 i1 kp dd tr m)
    refine zq_b [zq_il 1, zq_il 4] [zq_ilchk 1, zq_ilchk 4] 20 rfl (by decide +kernel) ?_
    show zq_G _ _ _ _ _ 20 ([(0, .ref 15), (1, .int b), (2, .int (nI c)), (3, .int (nI (nearN (colB b cn c) cn i))), (4, .int (nI i))], [.int (nI i), .int b], XH tx n (nI P, nI C, nI R, nI L, hs, ss, cs, gs, vs) dr rd (nI D, sm, nI N, nI K, ce, de, ke, se) i0 i1 kp dd tr m)
    refine zq_callN (av := [.int b, .int (nI i)]) (rest := []) (by decide +kernel) k5_60 (c_bit (x := b) (p := (nI i))) rfl rfl ?_
    show zq_G _ _ _ _ _ 23 ([(0, .ref 15), (1, .int b), (2, .int (nI c)), (3, .int (nI (nearN (colB b cn c) cn i))), (4, .int (nI i))], [.int (zbit b (nI i))], XH tx n (nI P, nI C, nI R, nI L, hs, ss, cs, gs, vs) dr rd (nI D, sm, nI N, nI K, ce, de, ke, se) i0 i1 kp dd tr m)
    refine zq_b [zq_k 1] [zq_kchk 1] 24 rfl (by decide +kernel) ?_
    show zq_G _ _ _ _ _ 24 ([(0, .ref 15), (1, .int b), (2, .int (nI c)), (3, .int (nI (nearN (colB b cn c) cn i))), (4, .int (nI i))], [.int 1, .int (zbit b (nI i))], XH tx n (nI P, nI C, nI R, nI L, hs, ss, cs, gs, vs) dr rd (nI D, sm, nI N, nI K, ce, de, ke, se) i0 i1 kp dd tr m)
    refine zq_if .ne 54 (¬ (zbit b (nI i)) = 1) (by decide +kernel) (Iff.rfl) (fun c24 => ?_) (fun c24 => ?_)
    · show zq_G _ _ _ _ _ 54 ([(0, .ref 15), (1, .int b), (2, .int (nI c)), (3, .int (nI (nearN (colB b cn c) cn i))), (4, .int (nI i))], [], XH tx n (nI P, nI C, nI R, nI L, hs, ss, cs, gs, vs) dr rd (nI D, sm, nI N, nI K, ce, de, ke, se) i0 i1 kp dd tr m)
      refine zq_b [zq_inc 4 1 (nI (i + 1)), zq_go] [zq_incchk 4 1, zq_gochk] 5 rfl (by decide +kernel) ?_
      refine ⟨nI_add i 1, ?_⟩
      show zq_G _ _ _ _ _ 5 ([(0, .ref 15), (1, .int b), (2, .int (nI c)), (3, .int (nI (nearN (colB b cn c) cn i))), (4, .int (nI (i + 1)))], [], XH tx n (nI P, nI C, nI R, nI L, hs, ss, cs, gs, vs) dr rd (nI D, sm, nI N, nI K, ce, de, ke, se) i0 i1 kp dd tr m)
      exact zq_eq (by rw [nearN_f (by unfold colB; rw [decide_eq_false c24, Bool.false_and])]) (ih5 trivial)
    · show zq_G _ _ _ _ _ 27 ([(0, .ref 15), (1, .int b), (2, .int (nI c)), (3, .int (nI (nearN (colB b cn c) cn i))), (4, .int (nI i))], [], XH tx n (nI P, nI C, nI R, nI L, hs, ss, cs, gs, vs) dr rd (nI D, sm, nI N, nI K, ce, de, ke, se) i0 i1 kp dd tr m)
      refine zq_b [zq_al 0, zq_get 5 5, zq_il 4, zq_iald i (nI (cn i)), zq_k 5, zq_irem (nI ((cn i) % 5)), zq_il 2] [zq_alchk 0, zq_getchk 5 5, zq_ilchk 4, zq_is .iaload 1, zq_kchk 5, zq_is .irem 1, zq_ilchk 2] 37 rfl (by decide +kernel) ?_
      refine ⟨rfl, (by omega), (by omega), (hce _ hi5).1, (by decide), (zq_rem (a := cn i) (b := 5) (by omega) (by omega) (by omega)), ?_⟩
      show zq_G _ _ _ _ _ 37 ([(0, .ref 15), (1, .int b), (2, .int (nI c)), (3, .int (nI (nearN (colB b cn c) cn i))), (4, .int (nI i))], [.int (nI c), .int (nI ((cn i) % 5))], XH tx n (nI P, nI C, nI R, nI L, hs, ss, cs, gs, vs) dr rd (nI D, sm, nI N, nI K, ce, de, ke, se) i0 i1 kp dd tr m)
      refine zq_if .ne 54 (¬ ((cn i) % 5) = c) (by decide +kernel) (zq_cne (a := (cn i) % 5) (b := c) (by omega) (by omega)) (fun c37 => ?_) (fun c37 => ?_)
      · show zq_G _ _ _ _ _ 54 ([(0, .ref 15), (1, .int b), (2, .int (nI c)), (3, .int (nI (nearN (colB b cn c) cn i))), (4, .int (nI i))], [], XH tx n (nI P, nI C, nI R, nI L, hs, ss, cs, gs, vs) dr rd (nI D, sm, nI N, nI K, ce, de, ke, se) i0 i1 kp dd tr m)
        refine zq_b [zq_inc 4 1 (nI (i + 1)), zq_go] [zq_incchk 4 1, zq_gochk] 5 rfl (by decide +kernel) ?_
        refine ⟨nI_add i 1, ?_⟩
        show zq_G _ _ _ _ _ 5 ([(0, .ref 15), (1, .int b), (2, .int (nI c)), (3, .int (nI (nearN (colB b cn c) cn i))), (4, .int (nI (i + 1)))], [], XH tx n (nI P, nI C, nI R, nI L, hs, ss, cs, gs, vs) dr rd (nI D, sm, nI N, nI K, ce, de, ke, se) i0 i1 kp dd tr m)
        exact zq_eq (by rw [nearN_f (by unfold colB; rw [decide_eq_false c37, Bool.and_false])]) (ih5 trivial)
      · show zq_G _ _ _ _ _ 40 ([(0, .ref 15), (1, .int b), (2, .int (nI c)), (3, .int (nI (nearN (colB b cn c) cn i))), (4, .int (nI i))], [], XH tx n (nI P, nI C, nI R, nI L, hs, ss, cs, gs, vs) dr rd (nI D, sm, nI N, nI K, ce, de, ke, se) i0 i1 kp dd tr m)
        refine zq_b [zq_il 3, zq_al 0, zq_get 5 5, zq_il 4, zq_iald i (nI (cn i)), zq_k 5, zq_idiv (nI ((cn i) / 5))] [zq_ilchk 3, zq_alchk 0, zq_getchk 5 5, zq_ilchk 4, zq_is .iaload 1, zq_kchk 5, zq_is .idiv 1] 50 rfl (by decide +kernel) ?_
        refine ⟨rfl, (by omega), (by omega), (hce _ hi5).1, (by decide), (zq_div (a := cn i) (b := 5) (by omega) (by omega) (by omega)), ?_⟩
        show zq_G _ _ _ _ _ 50 ([(0, .ref 15), (1, .int b), (2, .int (nI c)), (3, .int (nI (nearN (colB b cn c) cn i))), (4, .int (nI i))], [.int (nI ((cn i) / 5)), .int (nI (nearN (colB b cn c) cn i))], XH tx n (nI P, nI C, nI R, nI L, hs, ss, cs, gs, vs) dr rd (nI D, sm, nI N, nI K, ce, de, ke, se) i0 i1 kp dd tr m)
        refine zq_mmin (rest := []) (by decide +kernel) k5_103 rfl ?_
        show zq_G _ _ _ _ _ 53 ([(0, .ref 15), (1, .int b), (2, .int (nI c)), (3, .int (nI (nearN (colB b cn c) cn i))), (4, .int (nI i))], [.int (if (nI ((cn i) / 5)) < (nI (nearN (colB b cn c) cn i)) then (nI ((cn i) / 5)) else (nI (nearN (colB b cn c) cn i)))], XH tx n (nI P, nI C, nI R, nI L, hs, ss, cs, gs, vs) dr rd (nI D, sm, nI N, nI K, ce, de, ke, se) i0 i1 kp dd tr m)
        refine zq_eq (σ2 := ([(0, .ref 15), (1, .int b), (2, .int (nI c)), (3, .int (nI (nearN (colB b cn c) cn i))), (4, .int (nI i))], [.int (nI (min (nearN (colB b cn c) cn i) (cn i / 5)))], XH tx n (nI P, nI C, nI R, nI L, hs, ss, cs, gs, vs) dr rd (nI D, sm, nI N, nI K, ce, de, ke, se) i0 i1 kp dd tr m)) (by rw [nI_min _ _ (by have := nearN_le (colB b cn c) cn i; omega) (by omega)]) ?_
        refine zq_b [zq_is1 3, zq_inc 4 1 (nI (i + 1)), zq_go] [zq_is1chk 3, zq_incchk 4 1, zq_gochk] 5 rfl (by decide +kernel) ?_
        refine ⟨nI_add i 1, ?_⟩
        show zq_G _ _ _ _ _ 5 ([(0, .ref 15), (1, .int b), (2, .int (nI c)), (3, .int (nI (min (nearN (colB b cn c) cn i) (cn i / 5)))), (4, .int (nI (i + 1)))], [], XH tx n (nI P, nI C, nI R, nI L, hs, ss, cs, gs, vs) dr rd (nI D, sm, nI N, nI K, ce, de, ke, se) i0 i1 kp dd tr m)
        exact zq_eq (by rw [nearN_t (by unfold colB; rw [decide_eq_true (Decidable.not_not.mp c24), decide_eq_true (Decidable.not_not.mp c37)]; rfl)]) (ih5 trivial)
  · show zq_G _ _ _ _ _ 5 ([(0, .ref 15), (1, .int b), (2, .int (nI c)), (3, .int (nI (nearN (colB b cn c) cn P))), (4, .int (nI P))], [], XH tx n (nI P, nI C, nI R, nI L, hs, ss, cs, gs, vs) dr rd (nI D, sm, nI N, nI K, ce, de, ke, se) i0 i1 kp dd tr m)
    refine zq_b [zq_il 4, zq_al 0, zq_get 5 0, zq_get 9 0] [zq_ilchk 4, zq_alchk 0, zq_getchk 5 0, zq_getchk 9 0] 14 rfl (by decide +kernel) ?_
    show zq_G _ _ _ _ _ 14 ([(0, .ref 15), (1, .int b), (2, .int (nI c)), (3, .int (nI (nearN (colB b cn c) cn P))), (4, .int (nI P))], [.int (nI P), .int (nI P)], XH tx n (nI P, nI C, nI R, nI L, hs, ss, cs, gs, vs) dr rd (nI D, sm, nI N, nI K, ce, de, ke, se) i0 i1 kp dd tr m)
    refine zq_if .ge 60 (P ≤ P) (by decide +kernel) (zq_cge (a := P) (b := P) (by omega) (by omega)) (fun c14 => ?_) (fun c14 => absurd (by omega) c14)
    show zq_G _ _ _ _ _ 60 ([(0, .ref 15), (1, .int b), (2, .int (nI c)), (3, .int (nI (nearN (colB b cn c) cn P))), (4, .int (nI P))], [], XH tx n (nI P, nI C, nI R, nI L, hs, ss, cs, gs, vs) dr rd (nI D, sm, nI N, nI K, ce, de, ke, se) i0 i1 kp dd tr m)
    refine zq_b [zq_il 3] [zq_ilchk 3] 61 rfl (by decide +kernel) ?_
    show zq_G _ _ _ _ _ 61 ([(0, .ref 15), (1, .int b), (2, .int (nI c)), (3, .int (nI (nearN (colB b cn c) cn P))), (4, .int (nI P))], [.int (nI (nearN (colB b cn c) cn P))], XH tx n (nI P, nI C, nI R, nI L, hs, ss, cs, gs, vs) dr rd (nI D, sm, nI N, nI K, ce, de, ke, se) i0 i1 kp dd tr m)
    exact zq_iret (by decide +kernel) rfl rfl rfl
set_option maxHeartbeats 4000000 in
set_option maxRecDepth 100000 in
theorem c_farthestRow {b : Int32} {c : Nat} (hc : c < 5) (hP : P ≤ 6) (hce : ∀ j, j < P → ce j = nI (cn j) ∧ cn j ≤ 26) : zq_P l mX5_farthestRow 1 [.ref 15, .int b, .int (nI c)] (XH tx n (nI P, nI C, nI R, nI L, hs, ss, cs, gs, vs) dr rd (nI D, sm, nI N, nI K, ce, de, ke, se) i0 i1 kp dd tr m) (some (.int (zi (((farN (colB b cn c) cn P : Nat) : Int) - 1)))) (XH tx n (nI P, nI C, nI R, nI L, hs, ss, cs, gs, vs) dr rd (nI D, sm, nI N, nI K, ce, de, ke, se) i0 i1 kp dd tr m) := by
  refine zq_start (by decide +kernel) rfl (Nat.le_of_ble_eq_true rfl) ?_
  show zq_G _ _ _ _ _ 0 ([(0, .ref 15), (1, .int b), (2, .int (nI c))], [], XH tx n (nI P, nI C, nI R, nI L, hs, ss, cs, gs, vs) dr rd (nI D, sm, nI N, nI K, ce, de, ke, se) i0 i1 kp dd tr m)
  refine zq_b [zq_k (-1), zq_is1 3, zq_k 0, zq_is1 4] [zq_kchk (-1), zq_is1chk 3, zq_kchk 0, zq_is1chk 4] 5 rfl (by decide +kernel) ?_
  show zq_G _ _ _ _ _ 5 ([(0, .ref 15), (1, .int b), (2, .int (nI c)), (3, .int (-1)), (4, .int 0)], [], XH tx n (nI P, nI C, nI R, nI L, hs, ss, cs, gs, vs) dr rd (nI D, sm, nI N, nI K, ce, de, ke, se) i0 i1 kp dd tr m)
  refine zq_eq (σ2 := ([(0, .ref 15), (1, .int b), (2, .int (nI c)), (3, .int (zi (((farN (colB b cn c) cn (0 : Nat) : Nat) : Int) - 1))), (4, .int (nI (0 : Nat)))], [], XH tx n (nI P, nI C, nI R, nI L, hs, ss, cs, gs, vs) dr rd (nI D, sm, nI N, nI K, ce, de, ke, se) i0 i1 kp dd tr m)) (rfl) ?_
  refine zq_loop (fun i => ([(0, .ref 15), (1, .int b), (2, .int (nI c)), (3, .int (zi (((farN (colB b cn c) cn i : Nat) : Int) - 1))), (4, .int (nI i))], [], XH tx n (nI P, nI C, nI R, nI L, hs, ss, cs, gs, vs) dr rd (nI D, sm, nI N, nI K, ce, de, ke, se) i0 i1 kp dd tr m)) (fun i => True) (P) (0) (by omega) (trivial) (fun i hl5 hi5 hI5 ih5 => ?_) (fun hI5 => ?_)
  · show zq_G _ _ _ _ _ 5 ([(0, .ref 15), (1, .int b), (2, .int (nI c)), (3, .int (zi (((farN (colB b cn c) cn i : Nat) : Int) - 1))), (4, .int (nI i))], [], XH tx n (nI P, nI C, nI R, nI L, hs, ss, cs, gs, vs) dr rd (nI D, sm, nI N, nI K, ce, de, ke, se) i0 i1 kp dd tr m)
    have hci := (hce i hi5).2
    have hfi := farN_le (f := colB b cn c) (n := i) (fun q hq => (hce q (by omega)).2)
    refine zq_b [zq_il 4, zq_al 0, zq_get 5 0, zq_get 9 0] [zq_ilchk 4, zq_alchk 0, zq_getchk 5 0, zq_getchk 9 0] 14 rfl (by decide +kernel) ?_
    show zq_G _ _ _ _ _ 14 ([(0, .ref 15), (1, .int b), (2, .int (nI c)), (3, .int (zi (((farN (colB b cn c) cn i : Nat) : Int) - 1))), (4, .int (nI i))], [.int (nI P), .int (nI i)], XH tx n (nI P, nI C, nI R, nI L, hs, ss, cs, gs, vs) dr rd (nI D, sm, nI N, nI K, ce, de, ke, se) i0 i1 kp dd tr m)
    refine zq_if .ge 60 (P ≤ i) (by decide +kernel) (zq_cge (a := i) (b := P) (by omega) (by omega)) (fun c14 => absurd c14 (by omega)) (fun c14 => ?_)
    show zq_G _ _ _ _ _ 17 ([(0, .ref 15), (1, .int b), (2, .int (nI c)), (3, .int (zi (((farN (colB b cn c) cn i : Nat) : Int) - 1))), (4, .int (nI i))], [], XH tx n (nI P, nI C, nI R, nI L, hs, ss, cs, gs, vs) dr rd (nI D, sm, nI N, nI K, ce, de, ke, se) i0 i1 kp dd tr m)
    refine zq_b [zq_il 1, zq_il 4] [zq_ilchk 1, zq_ilchk 4] 20 rfl (by decide +kernel) ?_
    show zq_G _ _ _ _ _ 20 ([(0, .ref 15), (1, .int b), (2, .int (nI c)), (3, .int (zi (((farN (colB b cn c) cn i : Nat) : Int) - 1))), (4, .int (nI i))], [.int (nI i), .int b], XH tx n (nI P, nI C, nI R, nI L, hs, ss, cs, gs, vs) dr rd (nI D, sm, nI N, nI K, ce, de, ke, se) i0 i1 kp dd tr m)
    refine zq_callN (av := [.int b, .int (nI i)]) (rest := []) (by decide +kernel) k5_60 (c_bit (x := b) (p := (nI i))) rfl rfl ?_
    show zq_G _ _ _ _ _ 23 ([(0, .ref 15), (1, .int b), (2, .int (nI c)), (3, .int (zi (((farN (colB b cn c) cn i : Nat) : Int) - 1))), (4, .int (nI i))], [.int (zbit b (nI i))], XH tx n (nI P, nI C, nI R, nI L, hs, ss, cs, gs, vs) dr rd (nI D, sm, nI N, nI K, ce, de, ke, se) i0 i1 kp dd tr m)
    refine zq_b [zq_k 1] [zq_kchk 1] 24 rfl (by decide +kernel) ?_
    show zq_G _ _ _ _ _ 24 ([(0, .ref 15), (1, .int b), (2, .int (nI c)), (3, .int (zi (((farN (colB b cn c) cn i : Nat) : Int) - 1))), (4, .int (nI i))], [.int 1, .int (zbit b (nI i))], XH tx n (nI P, nI C, nI R, nI L, hs, ss, cs, gs, vs) dr rd (nI D, sm, nI N, nI K, ce, de, ke, se) i0 i1 kp dd tr m)
    refine zq_if .ne 54 (¬ (zbit b (nI i)) = 1) (by decide +kernel) (Iff.rfl) (fun c24 => ?_) (fun c24 => ?_)
    · show zq_G _ _ _ _ _ 54 ([(0, .ref 15), (1, .int b), (2, .int (nI c)), (3, .int (zi (((farN (colB b cn c) cn i : Nat) : Int) - 1))), (4, .int (nI i))], [], XH tx n (nI P, nI C, nI R, nI L, hs, ss, cs, gs, vs) dr rd (nI D, sm, nI N, nI K, ce, de, ke, se) i0 i1 kp dd tr m)
      refine zq_b [zq_inc 4 1 (nI (i + 1)), zq_go] [zq_incchk 4 1, zq_gochk] 5 rfl (by decide +kernel) ?_
      refine ⟨nI_add i 1, ?_⟩
      show zq_G _ _ _ _ _ 5 ([(0, .ref 15), (1, .int b), (2, .int (nI c)), (3, .int (zi (((farN (colB b cn c) cn i : Nat) : Int) - 1))), (4, .int (nI (i + 1)))], [], XH tx n (nI P, nI C, nI R, nI L, hs, ss, cs, gs, vs) dr rd (nI D, sm, nI N, nI K, ce, de, ke, se) i0 i1 kp dd tr m)
      exact zq_eq (by rw [farN_f (by unfold colB; rw [decide_eq_false c24, Bool.false_and])]) (ih5 trivial)
    · show zq_G _ _ _ _ _ 27 ([(0, .ref 15), (1, .int b), (2, .int (nI c)), (3, .int (zi (((farN (colB b cn c) cn i : Nat) : Int) - 1))), (4, .int (nI i))], [], XH tx n (nI P, nI C, nI R, nI L, hs, ss, cs, gs, vs) dr rd (nI D, sm, nI N, nI K, ce, de, ke, se) i0 i1 kp dd tr m)
      refine zq_b [zq_al 0, zq_get 5 5, zq_il 4, zq_iald i (nI (cn i)), zq_k 5, zq_irem (nI ((cn i) % 5)), zq_il 2] [zq_alchk 0, zq_getchk 5 5, zq_ilchk 4, zq_is .iaload 1, zq_kchk 5, zq_is .irem 1, zq_ilchk 2] 37 rfl (by decide +kernel) ?_
      refine ⟨rfl, (by omega), (by omega), (hce _ hi5).1, (by decide), (zq_rem (a := cn i) (b := 5) (by omega) (by omega) (by omega)), ?_⟩
      show zq_G _ _ _ _ _ 37 ([(0, .ref 15), (1, .int b), (2, .int (nI c)), (3, .int (zi (((farN (colB b cn c) cn i : Nat) : Int) - 1))), (4, .int (nI i))], [.int (nI c), .int (nI ((cn i) % 5))], XH tx n (nI P, nI C, nI R, nI L, hs, ss, cs, gs, vs) dr rd (nI D, sm, nI N, nI K, ce, de, ke, se) i0 i1 kp dd tr m)
      refine zq_if .ne 54 (¬ ((cn i) % 5) = c) (by decide +kernel) (zq_cne (a := (cn i) % 5) (b := c) (by omega) (by omega)) (fun c37 => ?_) (fun c37 => ?_)
      · show zq_G _ _ _ _ _ 54 ([(0, .ref 15), (1, .int b), (2, .int (nI c)), (3, .int (zi (((farN (colB b cn c) cn i : Nat) : Int) - 1))), (4, .int (nI i))], [], XH tx n (nI P, nI C, nI R, nI L, hs, ss, cs, gs, vs) dr rd (nI D, sm, nI N, nI K, ce, de, ke, se) i0 i1 kp dd tr m)
        refine zq_b [zq_inc 4 1 (nI (i + 1)), zq_go] [zq_incchk 4 1, zq_gochk] 5 rfl (by decide +kernel) ?_
        refine ⟨nI_add i 1, ?_⟩
        show zq_G _ _ _ _ _ 5 ([(0, .ref 15), (1, .int b), (2, .int (nI c)), (3, .int (zi (((farN (colB b cn c) cn i : Nat) : Int) - 1))), (4, .int (nI (i + 1)))], [], XH tx n (nI P, nI C, nI R, nI L, hs, ss, cs, gs, vs) dr rd (nI D, sm, nI N, nI K, ce, de, ke, se) i0 i1 kp dd tr m)
        exact zq_eq (by rw [farN_f (by unfold colB; rw [decide_eq_false c37, Bool.and_false])]) (ih5 trivial)
      · show zq_G _ _ _ _ _ 40 ([(0, .ref 15), (1, .int b), (2, .int (nI c)), (3, .int (zi (((farN (colB b cn c) cn i : Nat) : Int) - 1))), (4, .int (nI i))], [], XH tx n (nI P, nI C, nI R, nI L, hs, ss, cs, gs, vs) dr rd (nI D, sm, nI N, nI K, ce, de, ke, se) i0 i1 kp dd tr m)
        refine zq_b [zq_il 3, zq_al 0, zq_get 5 5, zq_il 4, zq_iald i (nI (cn i)), zq_k 5, zq_idiv (nI ((cn i) / 5))] [zq_ilchk 3, zq_alchk 0, zq_getchk 5 5, zq_ilchk 4, zq_is .iaload 1, zq_kchk 5, zq_is .idiv 1] 50 rfl (by decide +kernel) ?_
        refine ⟨rfl, (by omega), (by omega), (hce _ hi5).1, (by decide), (zq_div (a := cn i) (b := 5) (by omega) (by omega) (by omega)), ?_⟩
        show zq_G _ _ _ _ _ 50 ([(0, .ref 15), (1, .int b), (2, .int (nI c)), (3, .int (zi (((farN (colB b cn c) cn i : Nat) : Int) - 1))), (4, .int (nI i))], [.int (nI ((cn i) / 5)), .int (zi (((farN (colB b cn c) cn i : Nat) : Int) - 1))], XH tx n (nI P, nI C, nI R, nI L, hs, ss, cs, gs, vs) dr rd (nI D, sm, nI N, nI K, ce, de, ke, se) i0 i1 kp dd tr m)
        refine zq_mmax (rest := []) (by decide +kernel) k5_108 rfl ?_
        show zq_G _ _ _ _ _ 53 ([(0, .ref 15), (1, .int b), (2, .int (nI c)), (3, .int (zi (((farN (colB b cn c) cn i : Nat) : Int) - 1))), (4, .int (nI i))], [.int (if (zi (((farN (colB b cn c) cn i : Nat) : Int) - 1)) < (nI ((cn i) / 5)) then (nI ((cn i) / 5)) else (zi (((farN (colB b cn c) cn i : Nat) : Int) - 1)))], XH tx n (nI P, nI C, nI R, nI L, hs, ss, cs, gs, vs) dr rd (nI D, sm, nI N, nI K, ce, de, ke, se) i0 i1 kp dd tr m)
        refine zq_eq (σ2 := ([(0, .ref 15), (1, .int b), (2, .int (nI c)), (3, .int (zi (((farN (colB b cn c) cn i : Nat) : Int) - 1))), (4, .int (nI i))], [.int (zi (((max (farN (colB b cn c) cn i) (cn i / 5 + 1) : Nat) : Int) - 1))], XH tx n (nI P, nI C, nI R, nI L, hs, ss, cs, gs, vs) dr rd (nI D, sm, nI N, nI K, ce, de, ke, se) i0 i1 kp dd tr m)) (by rw [zi_max _ _ (by omega) (by omega)]) ?_
        refine zq_b [zq_is1 3, zq_inc 4 1 (nI (i + 1)), zq_go] [zq_is1chk 3, zq_incchk 4 1, zq_gochk] 5 rfl (by decide +kernel) ?_
        refine ⟨nI_add i 1, ?_⟩
        show zq_G _ _ _ _ _ 5 ([(0, .ref 15), (1, .int b), (2, .int (nI c)), (3, .int (zi (((max (farN (colB b cn c) cn i) (cn i / 5 + 1) : Nat) : Int) - 1))), (4, .int (nI (i + 1)))], [], XH tx n (nI P, nI C, nI R, nI L, hs, ss, cs, gs, vs) dr rd (nI D, sm, nI N, nI K, ce, de, ke, se) i0 i1 kp dd tr m)
        exact zq_eq (by rw [farN_t (by unfold colB; rw [decide_eq_true (Decidable.not_not.mp c24), decide_eq_true (Decidable.not_not.mp c37)]; rfl)]) (ih5 trivial)
  · show zq_G _ _ _ _ _ 5 ([(0, .ref 15), (1, .int b), (2, .int (nI c)), (3, .int (zi (((farN (colB b cn c) cn P : Nat) : Int) - 1))), (4, .int (nI P))], [], XH tx n (nI P, nI C, nI R, nI L, hs, ss, cs, gs, vs) dr rd (nI D, sm, nI N, nI K, ce, de, ke, se) i0 i1 kp dd tr m)
    refine zq_b [zq_il 4, zq_al 0, zq_get 5 0, zq_get 9 0] [zq_ilchk 4, zq_alchk 0, zq_getchk 5 0, zq_getchk 9 0] 14 rfl (by decide +kernel) ?_
    show zq_G _ _ _ _ _ 14 ([(0, .ref 15), (1, .int b), (2, .int (nI c)), (3, .int (zi (((farN (colB b cn c) cn P : Nat) : Int) - 1))), (4, .int (nI P))], [.int (nI P), .int (nI P)], XH tx n (nI P, nI C, nI R, nI L, hs, ss, cs, gs, vs) dr rd (nI D, sm, nI N, nI K, ce, de, ke, se) i0 i1 kp dd tr m)
    refine zq_if .ge 60 (P ≤ P) (by decide +kernel) (zq_cge (a := P) (b := P) (by omega) (by omega)) (fun c14 => ?_) (fun c14 => absurd (by omega) c14)
    show zq_G _ _ _ _ _ 60 ([(0, .ref 15), (1, .int b), (2, .int (nI c)), (3, .int (zi (((farN (colB b cn c) cn P : Nat) : Int) - 1))), (4, .int (nI P))], [], XH tx n (nI P, nI C, nI R, nI L, hs, ss, cs, gs, vs) dr rd (nI D, sm, nI N, nI K, ce, de, ke, se) i0 i1 kp dd tr m)
    refine zq_b [zq_il 3] [zq_ilchk 3] 61 rfl (by decide +kernel) ?_
    show zq_G _ _ _ _ _ 61 ([(0, .ref 15), (1, .int b), (2, .int (nI c)), (3, .int (zi (((farN (colB b cn c) cn P : Nat) : Int) - 1))), (4, .int (nI P))], [.int (zi (((farN (colB b cn c) cn P : Nat) : Int) - 1))], XH tx n (nI P, nI C, nI R, nI L, hs, ss, cs, gs, vs) dr rd (nI D, sm, nI N, nI K, ce, de, ke, se) i0 i1 kp dd tr m)
    exact zq_iret (by decide +kernel) rfl rfl rfl
set_option maxHeartbeats 4000000 in
set_option maxRecDepth 100000 in
theorem c_leastSmoke {x : Int32} {y : Int32} (hP : P ≤ 6) (hce : ∀ j, j < P → ce j = nI (cn j) ∧ cn j ≤ 26) : zq_P l mX5_leastSmoke 5 [.ref 15, .int x, .int y] (XH tx n (nI P, nI C, nI R, nI L, hs, ss, cs, gs, vs) dr rd (nI D, sm, nI N, nI K, ce, de, ke, se) i0 i1 kp dd tr m) (some (.int (zleast (fun c => nearN (colB (x &&& orB (bareB P hs sm cn) P) cn c) cn P) (fun c => farN (colB (y &&& orB (bareB P hs sm cn) P) cn c) cn P)))) (XH tx n (nI P, nI C, nI R, nI L, hs, ss, cs, gs, vs) dr rd (nI D, sm, nI N, nI K, ce, de, ke, se) i0 i1 kp dd tr m) := by
  refine zq_start (by decide +kernel) rfl (Nat.le_of_ble_eq_true rfl) ?_
  show zq_G _ _ _ _ _ 0 ([(0, .ref 15), (1, .int x), (2, .int y)], [], XH tx n (nI P, nI C, nI R, nI L, hs, ss, cs, gs, vs) dr rd (nI D, sm, nI N, nI K, ce, de, ke, se) i0 i1 kp dd tr m)
  refine zq_b [zq_al 0] [zq_alchk 0] 1 rfl (by decide +kernel) ?_
  show zq_G _ _ _ _ _ 1 ([(0, .ref 15), (1, .int x), (2, .int y)], [.ref 15], XH tx n (nI P, nI C, nI R, nI L, hs, ss, cs, gs, vs) dr rd (nI D, sm, nI N, nI K, ce, de, ke, se) i0 i1 kp dd tr m)
  refine zq_callV (av := []) (rest := []) (by decide +kernel) k5_74 (c_shown hP hce) rfl rfl rfl rfl ?_
  show zq_G _ _ _ _ _ 4 ([(0, .ref 15), (1, .int x), (2, .int y)], [.int (orB (bareB P hs sm cn) P)], XH tx n (nI P, nI C, nI R, nI L, hs, ss, cs, gs, vs) dr rd (nI D, sm, nI N, nI K, ce, de, ke, se) i0 i1 kp dd tr m)
  refine zq_b [zq_is1 3, zq_k 0, zq_is1 4, zq_k 0, zq_is1 5] [zq_is1chk 3, zq_kchk 0, zq_is1chk 4, zq_kchk 0, zq_is1chk 5] 11 rfl (by decide +kernel) ?_
  show zq_G _ _ _ _ _ 11 ([(0, .ref 15), (1, .int x), (2, .int y), (3, .int (orB (bareB P hs sm cn) P)), (4, .int 0), (5, .int 0)], [], XH tx n (nI P, nI C, nI R, nI L, hs, ss, cs, gs, vs) dr rd (nI D, sm, nI N, nI K, ce, de, ke, se) i0 i1 kp dd tr m)
  refine zq_loop (fun i => ([(0, .ref 15), (1, .int x), (2, .int y), (3, .int (orB (bareB P hs sm cn) P)), (4, .int (lsm (fun c => nearN (colB (x &&& orB (bareB P hs sm cn) P) cn c) cn P) (fun c => farN (colB (y &&& orB (bareB P hs sm cn) P) cn c) cn P) i)), (5, .int (nI i))], [], XH tx n (nI P, nI C, nI R, nI L, hs, ss, cs, gs, vs) dr rd (nI D, sm, nI N, nI K, ce, de, ke, se) i0 i1 kp dd tr m)) (fun i => ∀ c, c < i → (decide (nearN (colB (x &&& orB (bareB P hs sm cn) P) cn c) cn P < 5) && decide (nearN (colB (x &&& orB (bareB P hs sm cn) P) cn c) cn P < farN (colB (y &&& orB (bareB P hs sm cn) P) cn c) cn P)) = false) (5) (0) (by omega) ((fun j hj => absurd hj (by omega))) (fun i hl11 hi11 hI11 ih11 => ?_) (fun hI11 => ?_)
  · show zq_G _ _ _ _ _ 11 ([(0, .ref 15), (1, .int x), (2, .int y), (3, .int (orB (bareB P hs sm cn) P)), (4, .int (lsm (fun c => nearN (colB (x &&& orB (bareB P hs sm cn) P) cn c) cn P) (fun c => farN (colB (y &&& orB (bareB P hs sm cn) P) cn c) cn P) i)), (5, .int (nI i))], [], XH tx n (nI P, nI C, nI R, nI L, hs, ss, cs, gs, vs) dr rd (nI D, sm, nI N, nI K, ce, de, ke, se) i0 i1 kp dd tr m)
    have hn1 := nearN_le (colB (x &&& orB (bareB P hs sm cn) P) cn i) cn P
    have hf1 := farN_le (f := colB (y &&& orB (bareB P hs sm cn) P) cn i) (n := P) (fun q hq => (hce q hq).2)
    refine zq_b [zq_il 5, zq_k 5] [zq_ilchk 5, zq_kchk 5] 14 rfl (by decide +kernel) ?_
    show zq_G _ _ _ _ _ 14 ([(0, .ref 15), (1, .int x), (2, .int y), (3, .int (orB (bareB P hs sm cn) P)), (4, .int (lsm (fun c => nearN (colB (x &&& orB (bareB P hs sm cn) P) cn c) cn P) (fun c => farN (colB (y &&& orB (bareB P hs sm cn) P) cn c) cn P) i)), (5, .int (nI i))], [.int 5, .int (nI i)], XH tx n (nI P, nI C, nI R, nI L, hs, ss, cs, gs, vs) dr rd (nI D, sm, nI N, nI K, ce, de, ke, se) i0 i1 kp dd tr m)
    refine zq_if .ge 83 (5 ≤ i) (by decide +kernel) (zq_cge (a := i) (b := 5) (by omega) (by omega)) (fun c14 => absurd c14 (by omega)) (fun c14 => ?_)
    show zq_G _ _ _ _ _ 17 ([(0, .ref 15), (1, .int x), (2, .int y), (3, .int (orB (bareB P hs sm cn) P)), (4, .int (lsm (fun c => nearN (colB (x &&& orB (bareB P hs sm cn) P) cn c) cn P) (fun c => farN (colB (y &&& orB (bareB P hs sm cn) P) cn c) cn P) i)), (5, .int (nI i))], [], XH tx n (nI P, nI C, nI R, nI L, hs, ss, cs, gs, vs) dr rd (nI D, sm, nI N, nI K, ce, de, ke, se) i0 i1 kp dd tr m)
    refine zq_b [zq_al 0, zq_il 1, zq_il 3, zq_iand (x &&& (orB (bareB P hs sm cn) P)), zq_il 5] [zq_alchk 0, zq_ilchk 1, zq_ilchk 3, zq_is .iand 1, zq_ilchk 5] 23 rfl (by decide +kernel) ?_
    refine ⟨rfl, ?_⟩
    show zq_G _ _ _ _ _ 23 ([(0, .ref 15), (1, .int x), (2, .int y), (3, .int (orB (bareB P hs sm cn) P)), (4, .int (lsm (fun c => nearN (colB (x &&& orB (bareB P hs sm cn) P) cn c) cn P) (fun c => farN (colB (y &&& orB (bareB P hs sm cn) P) cn c) cn P) i)), (5, .int (nI i))], [.int (nI i), .int (x &&& (orB (bareB P hs sm cn) P)), .ref 15], XH tx n (nI P, nI C, nI R, nI L, hs, ss, cs, gs, vs) dr rd (nI D, sm, nI N, nI K, ce, de, ke, se) i0 i1 kp dd tr m)
    refine zq_callV (av := [.int (x &&& (orB (bareB P hs sm cn) P)), .int (nI i)]) (rest := []) (by decide +kernel) k5_97 (c_nearestRow (b := (x &&& (orB (bareB P hs sm cn) P))) (c := i) (by omega) hP hce) rfl rfl rfl rfl ?_
    show zq_G _ _ _ _ _ 26 ([(0, .ref 15), (1, .int x), (2, .int y), (3, .int (orB (bareB P hs sm cn) P)), (4, .int (lsm (fun c => nearN (colB (x &&& orB (bareB P hs sm cn) P) cn c) cn P) (fun c => farN (colB (y &&& orB (bareB P hs sm cn) P) cn c) cn P) i)), (5, .int (nI i))], [.int (nI (nearN (colB (x &&& (orB (bareB P hs sm cn) P)) cn i) cn P))], XH tx n (nI P, nI C, nI R, nI L, hs, ss, cs, gs, vs) dr rd (nI D, sm, nI N, nI K, ce, de, ke, se) i0 i1 kp dd tr m)
    refine zq_b [zq_is1 6, zq_al 0, zq_il 2, zq_il 3, zq_iand (y &&& (orB (bareB P hs sm cn) P)), zq_il 5] [zq_is1chk 6, zq_alchk 0, zq_ilchk 2, zq_ilchk 3, zq_is .iand 1, zq_ilchk 5] 34 rfl (by decide +kernel) ?_
    refine ⟨rfl, ?_⟩
    show zq_G _ _ _ _ _ 34 ([(0, .ref 15), (1, .int x), (2, .int y), (3, .int (orB (bareB P hs sm cn) P)), (4, .int (lsm (fun c => nearN (colB (x &&& orB (bareB P hs sm cn) P) cn c) cn P) (fun c => farN (colB (y &&& orB (bareB P hs sm cn) P) cn c) cn P) i)), (5, .int (nI i)), (6, .int (nI (nearN (colB (x &&& (orB (bareB P hs sm cn) P)) cn i) cn P)))], [.int (nI i), .int (y &&& (orB (bareB P hs sm cn) P)), .ref 15], XH tx n (nI P, nI C, nI R, nI L, hs, ss, cs, gs, vs) dr rd (nI D, sm, nI N, nI K, ce, de, ke, se) i0 i1 kp dd tr m)
    refine zq_callV (av := [.int (y &&& (orB (bareB P hs sm cn) P)), .int (nI i)]) (rest := []) (by decide +kernel) k5_100 (c_farthestRow (b := (y &&& (orB (bareB P hs sm cn) P))) (c := i) (by omega) hP hce) rfl rfl rfl rfl ?_
    show zq_G _ _ _ _ _ 37 ([(0, .ref 15), (1, .int x), (2, .int y), (3, .int (orB (bareB P hs sm cn) P)), (4, .int (lsm (fun c => nearN (colB (x &&& orB (bareB P hs sm cn) P) cn c) cn P) (fun c => farN (colB (y &&& orB (bareB P hs sm cn) P) cn c) cn P) i)), (5, .int (nI i)), (6, .int (nI (nearN (colB (x &&& (orB (bareB P hs sm cn) P)) cn i) cn P)))], [.int (zi (((farN (colB (y &&& (orB (bareB P hs sm cn) P)) cn i) cn P : Nat) : Int) - 1))], XH tx n (nI P, nI C, nI R, nI L, hs, ss, cs, gs, vs) dr rd (nI D, sm, nI N, nI K, ce, de, ke, se) i0 i1 kp dd tr m)
    refine zq_b [zq_k 1, zq_iadd (nI (farN (colB (y &&& orB (bareB P hs sm cn) P) cn i) cn P)), zq_is1 7, zq_il 6, zq_k 5] [zq_kchk 1, zq_is .iadd 1, zq_is1chk 7, zq_ilchk 6, zq_kchk 5] 44 rfl (by decide +kernel) ?_
    refine ⟨((zi_add _ 1).trans (zi_nat (by omega))), ?_⟩
    show zq_G _ _ _ _ _ 44 ([(0, .ref 15), (1, .int x), (2, .int y), (3, .int (orB (bareB P hs sm cn) P)), (4, .int (lsm (fun c => nearN (colB (x &&& orB (bareB P hs sm cn) P) cn c) cn P) (fun c => farN (colB (y &&& orB (bareB P hs sm cn) P) cn c) cn P) i)), (5, .int (nI i)), (6, .int (nI (nearN (colB (x &&& (orB (bareB P hs sm cn) P)) cn i) cn P))), (7, .int (nI (farN (colB (y &&& orB (bareB P hs sm cn) P) cn i) cn P)))], [.int 5, .int (nI (nearN (colB (x &&& (orB (bareB P hs sm cn) P)) cn i) cn P))], XH tx n (nI P, nI C, nI R, nI L, hs, ss, cs, gs, vs) dr rd (nI D, sm, nI N, nI K, ce, de, ke, se) i0 i1 kp dd tr m)
    refine zq_if .ge 57 (5 ≤ (nearN (colB (x &&& (orB (bareB P hs sm cn) P)) cn i) cn P)) (by decide +kernel) (zq_cge (a := nearN (colB (x &&& (orB (bareB P hs sm cn) P)) cn i) cn P) (b := 5) (by omega) (by omega)) (fun c44 => ?_) (fun c44 => ?_)
    · show zq_G _ _ _ _ _ 57 ([(0, .ref 15), (1, .int x), (2, .int y), (3, .int (orB (bareB P hs sm cn) P)), (4, .int (lsm (fun c => nearN (colB (x &&& orB (bareB P hs sm cn) P) cn c) cn P) (fun c => farN (colB (y &&& orB (bareB P hs sm cn) P) cn c) cn P) i)), (5, .int (nI i)), (6, .int (nI (nearN (colB (x &&& (orB (bareB P hs sm cn) P)) cn i) cn P))), (7, .int (nI (farN (colB (y &&& orB (bareB P hs sm cn) P) cn i) cn P)))], [], XH tx n (nI P, nI C, nI R, nI L, hs, ss, cs, gs, vs) dr rd (nI D, sm, nI N, nI K, ce, de, ke, se) i0 i1 kp dd tr m)
      refine zq_b [zq_il 6, zq_k 5] [zq_ilchk 6, zq_kchk 5] 60 rfl (by decide +kernel) ?_
      show zq_G _ _ _ _ _ 60 ([(0, .ref 15), (1, .int x), (2, .int y), (3, .int (orB (bareB P hs sm cn) P)), (4, .int (lsm (fun c => nearN (colB (x &&& orB (bareB P hs sm cn) P) cn c) cn P) (fun c => farN (colB (y &&& orB (bareB P hs sm cn) P) cn c) cn P) i)), (5, .int (nI i)), (6, .int (nI (nearN (colB (x &&& (orB (bareB P hs sm cn) P)) cn i) cn P))), (7, .int (nI (farN (colB (y &&& orB (bareB P hs sm cn) P) cn i) cn P)))], [.int 5, .int (nI (nearN (colB (x &&& (orB (bareB P hs sm cn) P)) cn i) cn P))], XH tx n (nI P, nI C, nI R, nI L, hs, ss, cs, gs, vs) dr rd (nI D, sm, nI N, nI K, ce, de, ke, se) i0 i1 kp dd tr m)
      refine zq_if .ge 77 (5 ≤ (nearN (colB (x &&& (orB (bareB P hs sm cn) P)) cn i) cn P)) (by decide +kernel) (zq_cge (a := nearN (colB (x &&& (orB (bareB P hs sm cn) P)) cn i) cn P) (b := 5) (by omega) (by omega)) (fun c60 => ?_) (fun c60 => ?_)
      · show zq_G _ _ _ _ _ 77 ([(0, .ref 15), (1, .int x), (2, .int y), (3, .int (orB (bareB P hs sm cn) P)), (4, .int (lsm (fun c => nearN (colB (x &&& orB (bareB P hs sm cn) P) cn c) cn P) (fun c => farN (colB (y &&& orB (bareB P hs sm cn) P) cn c) cn P) i)), (5, .int (nI i)), (6, .int (nI (nearN (colB (x &&& (orB (bareB P hs sm cn) P)) cn i) cn P))), (7, .int (nI (farN (colB (y &&& orB (bareB P hs sm cn) P) cn i) cn P)))], [], XH tx n (nI P, nI C, nI R, nI L, hs, ss, cs, gs, vs) dr rd (nI D, sm, nI N, nI K, ce, de, ke, se) i0 i1 kp dd tr m)
        refine zq_b [zq_inc 5 1 (nI (i + 1)), zq_go] [zq_incchk 5 1, zq_gochk] 11 rfl (by decide +kernel) ?_
        refine ⟨nI_add i 1, ?_⟩
        show zq_G _ _ _ _ _ 11 ([(0, .ref 15), (1, .int x), (2, .int y), (3, .int (orB (bareB P hs sm cn) P)), (4, .int (lsm (fun c => nearN (colB (x &&& orB (bareB P hs sm cn) P) cn c) cn P) (fun c => farN (colB (y &&& orB (bareB P hs sm cn) P) cn c) cn P) i)), (5, .int (nI (i + 1))), (6, .int (nI (nearN (colB (x &&& (orB (bareB P hs sm cn) P)) cn i) cn P))), (7, .int (nI (farN (colB (y &&& orB (bareB P hs sm cn) P) cn i) cn P)))], [], XH tx n (nI P, nI C, nI R, nI L, hs, ss, cs, gs, vs) dr rd (nI D, sm, nI N, nI K, ce, de, ke, se) i0 i1 kp dd tr m)
        refine zq_pick [0, 1, 2, 3, 4, 5] rfl ?_
        show zq_G _ _ _ _ _ 11 ([(0, .ref 15), (1, .int x), (2, .int y), (3, .int (orB (bareB P hs sm cn) P)), (4, .int (lsm (fun c => nearN (colB (x &&& orB (bareB P hs sm cn) P) cn c) cn P) (fun c => farN (colB (y &&& orB (bareB P hs sm cn) P) cn c) cn P) i)), (5, .int (nI (i + 1)))], [], XH tx n (nI P, nI C, nI R, nI L, hs, ss, cs, gs, vs) dr rd (nI D, sm, nI N, nI K, ce, de, ke, se) i0 i1 kp dd tr m)
        exact zq_eq (by rw [lsm_f (nr := (fun c => nearN (colB (x &&& orB (bareB P hs sm cn) P) cn c) cn P)) (fr := (fun c => farN (colB (y &&& orB (bareB P hs sm cn) P) cn c) cn P)) (by omega)]) (ih11 (lt_ext hI11 (by rw [decide_eq_false (by omega), Bool.false_and])))
      · show zq_G _ _ _ _ _ 63 ([(0, .ref 15), (1, .int x), (2, .int y), (3, .int (orB (bareB P hs sm cn) P)), (4, .int (lsm (fun c => nearN (colB (x &&& orB (bareB P hs sm cn) P) cn c) cn P) (fun c => farN (colB (y &&& orB (bareB P hs sm cn) P) cn c) cn P) i)), (5, .int (nI i)), (6, .int (nI (nearN (colB (x &&& (orB (bareB P hs sm cn) P)) cn i) cn P))), (7, .int (nI (farN (colB (y &&& orB (bareB P hs sm cn) P) cn i) cn P)))], [], XH tx n (nI P, nI C, nI R, nI L, hs, ss, cs, gs, vs) dr rd (nI D, sm, nI N, nI K, ce, de, ke, se) i0 i1 kp dd tr m)
        refine zq_b [zq_il 4, zq_k 1, zq_il 7, zq_k 5, zq_imul (nI ((farN (colB (y &&& orB (bareB P hs sm cn) P) cn i) cn P) * 5)), zq_il 5, zq_iadd (nI (((farN (colB (y &&& orB (bareB P hs sm cn) P) cn i) cn P) * 5) + i)), zq_ishl (1 <<< (nI (((farN (colB (y &&& orB (bareB P hs sm cn) P) cn i) cn P) * 5) + i) &&& 31)), zq_ior ((lsm (fun c => nearN (colB (x &&& orB (bareB P hs sm cn) P) cn c) cn P) (fun c => farN (colB (y &&& orB (bareB P hs sm cn) P) cn c) cn P) i) ||| (1 <<< (nI (((farN (colB (y &&& orB (bareB P hs sm cn) P) cn i) cn P) * 5) + i) &&& 31))), zq_is1 4, zq_inc 5 1 (nI (i + 1)), zq_go] [zq_ilchk 4, zq_kchk 1, zq_ilchk 7, zq_kchk 5, zq_is .imul 1, zq_ilchk 5, zq_is .iadd 1, zq_is .ishl 1, zq_is .ior 1, zq_is1chk 4, zq_incchk 5 1, zq_gochk] 11 rfl (by decide +kernel) ?_
        refine ⟨(pk_mul (farN (colB (y &&& orB (bareB P hs sm cn) P) cn i) cn P) 5), (nI_add ((farN (colB (y &&& orB (bareB P hs sm cn) P) cn i) cn P) * 5) i), rfl, rfl, nI_add i 1, ?_⟩
        show zq_G _ _ _ _ _ 11 ([(0, .ref 15), (1, .int x), (2, .int y), (3, .int (orB (bareB P hs sm cn) P)), (4, .int ((lsm (fun c => nearN (colB (x &&& orB (bareB P hs sm cn) P) cn c) cn P) (fun c => farN (colB (y &&& orB (bareB P hs sm cn) P) cn c) cn P) i) ||| (1 <<< (nI (((farN (colB (y &&& orB (bareB P hs sm cn) P) cn i) cn P) * 5) + i) &&& 31)))), (5, .int (nI (i + 1))), (6, .int (nI (nearN (colB (x &&& (orB (bareB P hs sm cn) P)) cn i) cn P))), (7, .int (nI (farN (colB (y &&& orB (bareB P hs sm cn) P) cn i) cn P)))], [], XH tx n (nI P, nI C, nI R, nI L, hs, ss, cs, gs, vs) dr rd (nI D, sm, nI N, nI K, ce, de, ke, se) i0 i1 kp dd tr m)
        refine zq_pick [0, 1, 2, 3, 4, 5] rfl ?_
        show zq_G _ _ _ _ _ 11 ([(0, .ref 15), (1, .int x), (2, .int y), (3, .int (orB (bareB P hs sm cn) P)), (4, .int ((lsm (fun c => nearN (colB (x &&& orB (bareB P hs sm cn) P) cn c) cn P) (fun c => farN (colB (y &&& orB (bareB P hs sm cn) P) cn c) cn P) i) ||| (1 <<< (nI (((farN (colB (y &&& orB (bareB P hs sm cn) P) cn i) cn P) * 5) + i) &&& 31)))), (5, .int (nI (i + 1)))], [], XH tx n (nI P, nI C, nI R, nI L, hs, ss, cs, gs, vs) dr rd (nI D, sm, nI N, nI K, ce, de, ke, se) i0 i1 kp dd tr m)
        exact zq_eq (by rw [lsm_t (nr := (fun c => nearN (colB (x &&& orB (bareB P hs sm cn) P) cn c) cn P)) (fr := (fun c => farN (colB (y &&& orB (bareB P hs sm cn) P) cn c) cn P)) (by omega)]) (ih11 (lt_ext hI11 (by rw [decide_eq_false (p := nearN (colB (x &&& orB (bareB P hs sm cn) P) cn i) cn P < farN (colB (y &&& orB (bareB P hs sm cn) P) cn i) cn P) (by omega), Bool.and_false])))
    · show zq_G _ _ _ _ _ 47 ([(0, .ref 15), (1, .int x), (2, .int y), (3, .int (orB (bareB P hs sm cn) P)), (4, .int (lsm (fun c => nearN (colB (x &&& orB (bareB P hs sm cn) P) cn c) cn P) (fun c => farN (colB (y &&& orB (bareB P hs sm cn) P) cn c) cn P) i)), (5, .int (nI i)), (6, .int (nI (nearN (colB (x &&& (orB (bareB P hs sm cn) P)) cn i) cn P))), (7, .int (nI (farN (colB (y &&& orB (bareB P hs sm cn) P) cn i) cn P)))], [], XH tx n (nI P, nI C, nI R, nI L, hs, ss, cs, gs, vs) dr rd (nI D, sm, nI N, nI K, ce, de, ke, se) i0 i1 kp dd tr m)
      refine zq_b [zq_il 7, zq_il 6] [zq_ilchk 7, zq_ilchk 6] 51 rfl (by decide +kernel) ?_
      show zq_G _ _ _ _ _ 51 ([(0, .ref 15), (1, .int x), (2, .int y), (3, .int (orB (bareB P hs sm cn) P)), (4, .int (lsm (fun c => nearN (colB (x &&& orB (bareB P hs sm cn) P) cn c) cn P) (fun c => farN (colB (y &&& orB (bareB P hs sm cn) P) cn c) cn P) i)), (5, .int (nI i)), (6, .int (nI (nearN (colB (x &&& (orB (bareB P hs sm cn) P)) cn i) cn P))), (7, .int (nI (farN (colB (y &&& orB (bareB P hs sm cn) P) cn i) cn P)))], [.int (nI (nearN (colB (x &&& (orB (bareB P hs sm cn) P)) cn i) cn P)), .int (nI (farN (colB (y &&& orB (bareB P hs sm cn) P) cn i) cn P))], XH tx n (nI P, nI C, nI R, nI L, hs, ss, cs, gs, vs) dr rd (nI D, sm, nI N, nI K, ce, de, ke, se) i0 i1 kp dd tr m)
      refine zq_if .le 57 ((farN (colB (y &&& orB (bareB P hs sm cn) P) cn i) cn P) ≤ (nearN (colB (x &&& (orB (bareB P hs sm cn) P)) cn i) cn P)) (by decide +kernel) (zq_cle (a := farN (colB (y &&& orB (bareB P hs sm cn) P) cn i) cn P) (b := nearN (colB (x &&& (orB (bareB P hs sm cn) P)) cn i) cn P) (by omega) (by omega)) (fun c51 => ?_) (fun c51 => ?_)
      · show zq_G _ _ _ _ _ 57 ([(0, .ref 15), (1, .int x), (2, .int y), (3, .int (orB (bareB P hs sm cn) P)), (4, .int (lsm (fun c => nearN (colB (x &&& orB (bareB P hs sm cn) P) cn c) cn P) (fun c => farN (colB (y &&& orB (bareB P hs sm cn) P) cn c) cn P) i)), (5, .int (nI i)), (6, .int (nI (nearN (colB (x &&& (orB (bareB P hs sm cn) P)) cn i) cn P))), (7, .int (nI (farN (colB (y &&& orB (bareB P hs sm cn) P) cn i) cn P)))], [], XH tx n (nI P, nI C, nI R, nI L, hs, ss, cs, gs, vs) dr rd (nI D, sm, nI N, nI K, ce, de, ke, se) i0 i1 kp dd tr m)
        refine zq_b [zq_il 6, zq_k 5] [zq_ilchk 6, zq_kchk 5] 60 rfl (by decide +kernel) ?_
        show zq_G _ _ _ _ _ 60 ([(0, .ref 15), (1, .int x), (2, .int y), (3, .int (orB (bareB P hs sm cn) P)), (4, .int (lsm (fun c => nearN (colB (x &&& orB (bareB P hs sm cn) P) cn c) cn P) (fun c => farN (colB (y &&& orB (bareB P hs sm cn) P) cn c) cn P) i)), (5, .int (nI i)), (6, .int (nI (nearN (colB (x &&& (orB (bareB P hs sm cn) P)) cn i) cn P))), (7, .int (nI (farN (colB (y &&& orB (bareB P hs sm cn) P) cn i) cn P)))], [.int 5, .int (nI (nearN (colB (x &&& (orB (bareB P hs sm cn) P)) cn i) cn P))], XH tx n (nI P, nI C, nI R, nI L, hs, ss, cs, gs, vs) dr rd (nI D, sm, nI N, nI K, ce, de, ke, se) i0 i1 kp dd tr m)
        refine zq_if .ge 77 (5 ≤ (nearN (colB (x &&& (orB (bareB P hs sm cn) P)) cn i) cn P)) (by decide +kernel) (zq_cge (a := nearN (colB (x &&& (orB (bareB P hs sm cn) P)) cn i) cn P) (b := 5) (by omega) (by omega)) (fun c60 => ?_) (fun c60 => ?_)
        · show zq_G _ _ _ _ _ 77 ([(0, .ref 15), (1, .int x), (2, .int y), (3, .int (orB (bareB P hs sm cn) P)), (4, .int (lsm (fun c => nearN (colB (x &&& orB (bareB P hs sm cn) P) cn c) cn P) (fun c => farN (colB (y &&& orB (bareB P hs sm cn) P) cn c) cn P) i)), (5, .int (nI i)), (6, .int (nI (nearN (colB (x &&& (orB (bareB P hs sm cn) P)) cn i) cn P))), (7, .int (nI (farN (colB (y &&& orB (bareB P hs sm cn) P) cn i) cn P)))], [], XH tx n (nI P, nI C, nI R, nI L, hs, ss, cs, gs, vs) dr rd (nI D, sm, nI N, nI K, ce, de, ke, se) i0 i1 kp dd tr m)
          refine zq_b [zq_inc 5 1 (nI (i + 1)), zq_go] [zq_incchk 5 1, zq_gochk] 11 rfl (by decide +kernel) ?_
          refine ⟨nI_add i 1, ?_⟩
          show zq_G _ _ _ _ _ 11 ([(0, .ref 15), (1, .int x), (2, .int y), (3, .int (orB (bareB P hs sm cn) P)), (4, .int (lsm (fun c => nearN (colB (x &&& orB (bareB P hs sm cn) P) cn c) cn P) (fun c => farN (colB (y &&& orB (bareB P hs sm cn) P) cn c) cn P) i)), (5, .int (nI (i + 1))), (6, .int (nI (nearN (colB (x &&& (orB (bareB P hs sm cn) P)) cn i) cn P))), (7, .int (nI (farN (colB (y &&& orB (bareB P hs sm cn) P) cn i) cn P)))], [], XH tx n (nI P, nI C, nI R, nI L, hs, ss, cs, gs, vs) dr rd (nI D, sm, nI N, nI K, ce, de, ke, se) i0 i1 kp dd tr m)
          refine zq_pick [0, 1, 2, 3, 4, 5] rfl ?_
          show zq_G _ _ _ _ _ 11 ([(0, .ref 15), (1, .int x), (2, .int y), (3, .int (orB (bareB P hs sm cn) P)), (4, .int (lsm (fun c => nearN (colB (x &&& orB (bareB P hs sm cn) P) cn c) cn P) (fun c => farN (colB (y &&& orB (bareB P hs sm cn) P) cn c) cn P) i)), (5, .int (nI (i + 1)))], [], XH tx n (nI P, nI C, nI R, nI L, hs, ss, cs, gs, vs) dr rd (nI D, sm, nI N, nI K, ce, de, ke, se) i0 i1 kp dd tr m)
          exact zq_eq (by rw [lsm_f (nr := (fun c => nearN (colB (x &&& orB (bareB P hs sm cn) P) cn c) cn P)) (fr := (fun c => farN (colB (y &&& orB (bareB P hs sm cn) P) cn c) cn P)) (by omega)]) (ih11 (lt_ext hI11 (by rw [decide_eq_false (by omega), Bool.false_and])))
        · show zq_G _ _ _ _ _ 63 ([(0, .ref 15), (1, .int x), (2, .int y), (3, .int (orB (bareB P hs sm cn) P)), (4, .int (lsm (fun c => nearN (colB (x &&& orB (bareB P hs sm cn) P) cn c) cn P) (fun c => farN (colB (y &&& orB (bareB P hs sm cn) P) cn c) cn P) i)), (5, .int (nI i)), (6, .int (nI (nearN (colB (x &&& (orB (bareB P hs sm cn) P)) cn i) cn P))), (7, .int (nI (farN (colB (y &&& orB (bareB P hs sm cn) P) cn i) cn P)))], [], XH tx n (nI P, nI C, nI R, nI L, hs, ss, cs, gs, vs) dr rd (nI D, sm, nI N, nI K, ce, de, ke, se) i0 i1 kp dd tr m)
          refine zq_b [zq_il 4, zq_k 1, zq_il 7, zq_k 5, zq_imul (nI ((farN (colB (y &&& orB (bareB P hs sm cn) P) cn i) cn P) * 5)), zq_il 5, zq_iadd (nI (((farN (colB (y &&& orB (bareB P hs sm cn) P) cn i) cn P) * 5) + i)), zq_ishl (1 <<< (nI (((farN (colB (y &&& orB (bareB P hs sm cn) P) cn i) cn P) * 5) + i) &&& 31)), zq_ior ((lsm (fun c => nearN (colB (x &&& orB (bareB P hs sm cn) P) cn c) cn P) (fun c => farN (colB (y &&& orB (bareB P hs sm cn) P) cn c) cn P) i) ||| (1 <<< (nI (((farN (colB (y &&& orB (bareB P hs sm cn) P) cn i) cn P) * 5) + i) &&& 31))), zq_is1 4, zq_inc 5 1 (nI (i + 1)), zq_go] [zq_ilchk 4, zq_kchk 1, zq_ilchk 7, zq_kchk 5, zq_is .imul 1, zq_ilchk 5, zq_is .iadd 1, zq_is .ishl 1, zq_is .ior 1, zq_is1chk 4, zq_incchk 5 1, zq_gochk] 11 rfl (by decide +kernel) ?_
          refine ⟨(pk_mul (farN (colB (y &&& orB (bareB P hs sm cn) P) cn i) cn P) 5), (nI_add ((farN (colB (y &&& orB (bareB P hs sm cn) P) cn i) cn P) * 5) i), rfl, rfl, nI_add i 1, ?_⟩
          show zq_G _ _ _ _ _ 11 ([(0, .ref 15), (1, .int x), (2, .int y), (3, .int (orB (bareB P hs sm cn) P)), (4, .int ((lsm (fun c => nearN (colB (x &&& orB (bareB P hs sm cn) P) cn c) cn P) (fun c => farN (colB (y &&& orB (bareB P hs sm cn) P) cn c) cn P) i) ||| (1 <<< (nI (((farN (colB (y &&& orB (bareB P hs sm cn) P) cn i) cn P) * 5) + i) &&& 31)))), (5, .int (nI (i + 1))), (6, .int (nI (nearN (colB (x &&& (orB (bareB P hs sm cn) P)) cn i) cn P))), (7, .int (nI (farN (colB (y &&& orB (bareB P hs sm cn) P) cn i) cn P)))], [], XH tx n (nI P, nI C, nI R, nI L, hs, ss, cs, gs, vs) dr rd (nI D, sm, nI N, nI K, ce, de, ke, se) i0 i1 kp dd tr m)
          refine zq_pick [0, 1, 2, 3, 4, 5] rfl ?_
          show zq_G _ _ _ _ _ 11 ([(0, .ref 15), (1, .int x), (2, .int y), (3, .int (orB (bareB P hs sm cn) P)), (4, .int ((lsm (fun c => nearN (colB (x &&& orB (bareB P hs sm cn) P) cn c) cn P) (fun c => farN (colB (y &&& orB (bareB P hs sm cn) P) cn c) cn P) i) ||| (1 <<< (nI (((farN (colB (y &&& orB (bareB P hs sm cn) P) cn i) cn P) * 5) + i) &&& 31)))), (5, .int (nI (i + 1)))], [], XH tx n (nI P, nI C, nI R, nI L, hs, ss, cs, gs, vs) dr rd (nI D, sm, nI N, nI K, ce, de, ke, se) i0 i1 kp dd tr m)
          exact zq_eq (by rw [lsm_t (nr := (fun c => nearN (colB (x &&& orB (bareB P hs sm cn) P) cn c) cn P)) (fr := (fun c => farN (colB (y &&& orB (bareB P hs sm cn) P) cn c) cn P)) (by omega)]) (ih11 (lt_ext hI11 (by rw [decide_eq_false (p := nearN (colB (x &&& orB (bareB P hs sm cn) P) cn i) cn P < farN (colB (y &&& orB (bareB P hs sm cn) P) cn i) cn P) (by omega), Bool.and_false])))
      · show zq_G _ _ _ _ _ 54 ([(0, .ref 15), (1, .int x), (2, .int y), (3, .int (orB (bareB P hs sm cn) P)), (4, .int (lsm (fun c => nearN (colB (x &&& orB (bareB P hs sm cn) P) cn c) cn P) (fun c => farN (colB (y &&& orB (bareB P hs sm cn) P) cn c) cn P) i)), (5, .int (nI i)), (6, .int (nI (nearN (colB (x &&& (orB (bareB P hs sm cn) P)) cn i) cn P))), (7, .int (nI (farN (colB (y &&& orB (bareB P hs sm cn) P) cn i) cn P)))], [], XH tx n (nI P, nI C, nI R, nI L, hs, ss, cs, gs, vs) dr rd (nI D, sm, nI N, nI K, ce, de, ke, se) i0 i1 kp dd tr m)
        refine zq_b [zq_k (-9)] [zq_kchk (-9)] 56 rfl (by decide +kernel) ?_
        show zq_G _ _ _ _ _ 56 ([(0, .ref 15), (1, .int x), (2, .int y), (3, .int (orB (bareB P hs sm cn) P)), (4, .int (lsm (fun c => nearN (colB (x &&& orB (bareB P hs sm cn) P) cn c) cn P) (fun c => farN (colB (y &&& orB (bareB P hs sm cn) P) cn c) cn P) i)), (5, .int (nI i)), (6, .int (nI (nearN (colB (x &&& (orB (bareB P hs sm cn) P)) cn i) cn P))), (7, .int (nI (farN (colB (y &&& orB (bareB P hs sm cn) P) cn i) cn P)))], [.int (-9)], XH tx n (nI P, nI C, nI R, nI L, hs, ss, cs, gs, vs) dr rd (nI D, sm, nI N, nI K, ce, de, ke, se) i0 i1 kp dd tr m)
        exact zq_iret (by decide +kernel) rfl (by unfold zleast; rw [if_pos (zany_i (i := i) hi11 (by show (decide (nearN (colB (x &&& orB (bareB P hs sm cn) P) cn i) cn P < 5) && decide (nearN (colB (x &&& orB (bareB P hs sm cn) P) cn i) cn P < farN (colB (y &&& orB (bareB P hs sm cn) P) cn i) cn P)) = true; rw [decide_eq_true (by omega), decide_eq_true (by omega)]; rfl))]) rfl
  · show zq_G _ _ _ _ _ 11 ([(0, .ref 15), (1, .int x), (2, .int y), (3, .int (orB (bareB P hs sm cn) P)), (4, .int (lsm (fun c => nearN (colB (x &&& orB (bareB P hs sm cn) P) cn c) cn P) (fun c => farN (colB (y &&& orB (bareB P hs sm cn) P) cn c) cn P) 5)), (5, .int 5)], [], XH tx n (nI P, nI C, nI R, nI L, hs, ss, cs, gs, vs) dr rd (nI D, sm, nI N, nI K, ce, de, ke, se) i0 i1 kp dd tr m)
    refine zq_b [zq_il 5, zq_k 5] [zq_ilchk 5, zq_kchk 5] 14 rfl (by decide +kernel) ?_
    show zq_G _ _ _ _ _ 14 ([(0, .ref 15), (1, .int x), (2, .int y), (3, .int (orB (bareB P hs sm cn) P)), (4, .int (lsm (fun c => nearN (colB (x &&& orB (bareB P hs sm cn) P) cn c) cn P) (fun c => farN (colB (y &&& orB (bareB P hs sm cn) P) cn c) cn P) 5)), (5, .int 5)], [.int 5, .int 5], XH tx n (nI P, nI C, nI R, nI L, hs, ss, cs, gs, vs) dr rd (nI D, sm, nI N, nI K, ce, de, ke, se) i0 i1 kp dd tr m)
    refine zq_if .ge 83 (5 ≤ 5) (by decide +kernel) (zq_cge (a := 5) (b := 5) (by omega) (by omega)) (fun c14 => ?_) (fun c14 => absurd (by omega) c14)
    show zq_G _ _ _ _ _ 83 ([(0, .ref 15), (1, .int x), (2, .int y), (3, .int (orB (bareB P hs sm cn) P)), (4, .int (lsm (fun c => nearN (colB (x &&& orB (bareB P hs sm cn) P) cn c) cn P) (fun c => farN (colB (y &&& orB (bareB P hs sm cn) P) cn c) cn P) 5)), (5, .int 5)], [], XH tx n (nI P, nI C, nI R, nI L, hs, ss, cs, gs, vs) dr rd (nI D, sm, nI N, nI K, ce, de, ke, se) i0 i1 kp dd tr m)
    refine zq_b [zq_il 4] [zq_ilchk 4] 85 rfl (by decide +kernel) ?_
    show zq_G _ _ _ _ _ 85 ([(0, .ref 15), (1, .int x), (2, .int y), (3, .int (orB (bareB P hs sm cn) P)), (4, .int (lsm (fun c => nearN (colB (x &&& orB (bareB P hs sm cn) P) cn c) cn P) (fun c => farN (colB (y &&& orB (bareB P hs sm cn) P) cn c) cn P) 5)), (5, .int 5)], [.int (lsm (fun c => nearN (colB (x &&& orB (bareB P hs sm cn) P) cn c) cn P) (fun c => farN (colB (y &&& orB (bareB P hs sm cn) P) cn c) cn P) 5)], XH tx n (nI P, nI C, nI R, nI L, hs, ss, cs, gs, vs) dr rd (nI D, sm, nI N, nI K, ce, de, ke, se) i0 i1 kp dd tr m)
    exact zq_iret (by decide +kernel) rfl (by unfold zleast; rw [if_neg (by rw [zany_f hI11]; exact Bool.false_ne_true)]) rfl
end XV2
end
section
section XV3
variable {l : Launch} {tx : Nat → Int32} {n : Int32} {t dr : zT} {rd : zR} {w i0 i1 : zN} {kp : Nat → Int32} {dd : Int32} {tr : Int64} {m : Nat → zq_C} {h : zq_H}
variable {P C R L D N K Z : Nat} {hs ss cs gs vs ce de ke se : Nat → Int32} {sm : Int32} {cn ga va : Nat → Nat}
set_option maxHeartbeats 4000000 in
set_option maxRecDepth 100000 in
theorem c_begin   : zq_P l mX5_begin 1 [.ref 15] (XH tx n t dr rd w i0 i1 kp dd tr m) none (XH tx n t dr rd (0, 0, 0, 0, va_cpy t.2.2.2.2.2.1 w.2.2.2.2.1 0 0 6, w.2.2.2.2.2.1, w.2.2.2.2.2.2.1, w.2.2.2.2.2.2.2) i0 i1 kp dd tr m) := by
  refine zq_start (by decide +kernel) rfl (Nat.le_of_ble_eq_true rfl) ?_
  show zq_G _ _ _ _ _ 0 ([(0, .ref 15)], [], XH tx n t dr rd w i0 i1 kp dd tr m)
  refine zq_b [zq_al 0, zq_k 0, zq_puti 5 1, zq_al 0, zq_k 0, zq_puti 5 2, zq_al 0, zq_k 0, zq_puti 5 3, zq_al 0, zq_k 0, zq_puti 5 4, zq_al 0, zq_get 5 0, zq_get 9 5, zq_k 0, zq_al 0, zq_get 5 5, zq_k 0, zq_k 6] [zq_alchk 0, zq_kchk 0, zq_putchk 5 1 .int, zq_alchk 0, zq_kchk 0, zq_putchk 5 2 .int, zq_alchk 0, zq_kchk 0, zq_putchk 5 3 .int, zq_alchk 0, zq_kchk 0, zq_putchk 5 4 .int, zq_alchk 0, zq_getchk 5 0, zq_getchk 9 5, zq_kchk 0, zq_alchk 0, zq_getchk 5 5, zq_kchk 0, zq_kchk 6] 35 rfl (by decide +kernel) ?_
  show zq_G _ _ _ _ _ 35 ([(0, .ref 15)], [.int 6, .int 0, .ref 16, .int 0, .ref 4], XH tx n t dr rd (0, 0, 0, 0, w.2.2.2.2.1, w.2.2.2.2.2.1, w.2.2.2.2.2.2.1, w.2.2.2.2.2.2.2) i0 i1 kp dd tr m)
  refine zq_copy (rest := []) (sp := 0) (dp := 0) (n := 6) (by decide +kernel) kc5_46 rfl rfl rfl (by omega) (by omega) (by decide) rfl rfl rfl ?_
  show zq_G _ _ _ _ _ 38 ([(0, .ref 15)], [], XH tx n t dr rd (0, 0, 0, 0, va_cpy t.2.2.2.2.2.1 w.2.2.2.2.1 0 0 6, w.2.2.2.2.2.1, w.2.2.2.2.2.2.1, w.2.2.2.2.2.2.2) i0 i1 kp dd tr m)
  exact zq_vret (by decide +kernel) rfl rfl rfl
set_option maxHeartbeats 4000000 in
set_option maxRecDepth 100000 in
theorem c_forget   : zq_P l mX9_forget 0 [.ref 8] (XH tx n t dr rd w i0 i1 kp dd tr m) none (XH tx n t (0, 0, 0, 12, dr.2.2.2.2.1, dr.2.2.2.2.2.1, dr.2.2.2.2.2.2.1, dr.2.2.2.2.2.2.2.1, dr.2.2.2.2.2.2.2.2) rd w i0 i1 kp dd tr m) := by
  refine zq_start (by decide +kernel) rfl (Nat.le_of_ble_eq_true rfl) ?_
  show zq_G _ _ _ _ _ 0 ([(0, .ref 8)], [], XH tx n t dr rd w i0 i1 kp dd tr m)
  refine zq_b [zq_al 0, zq_k 0, zq_puti 9 0, zq_al 0, zq_k 0, zq_puti 9 1, zq_al 0, zq_k 0, zq_puti 9 2, zq_al 0, zq_k 12, zq_puti 9 3] [zq_alchk 0, zq_kchk 0, zq_putchk 9 0 .int, zq_alchk 0, zq_kchk 0, zq_putchk 9 1 .int, zq_alchk 0, zq_kchk 0, zq_putchk 9 2 .int, zq_alchk 0, zq_kchk 12, zq_putchk 9 3 .int] 21 rfl (by decide +kernel) ?_
  show zq_G _ _ _ _ _ 21 ([(0, .ref 8)], [], XH tx n t (0, 0, 0, 12, dr.2.2.2.2.1, dr.2.2.2.2.2.1, dr.2.2.2.2.2.2.1, dr.2.2.2.2.2.2.2.1, dr.2.2.2.2.2.2.2.2) rd w i0 i1 kp dd tr m)
  exact zq_vret (by decide +kernel) rfl rfl rfl
set_option maxHeartbeats 4000000 in
set_option maxRecDepth 100000 in
theorem c_tbecome   : zq_P l mX9_become 1 [.ref 2, .ref 8] (XH tx n t dr rd w i0 i1 kp dd tr m) none (XH tx n (dr.1, dr.2.1, dr.2.2.1, dr.2.2.2.1, va_cpy dr.2.2.2.2.1 t.2.2.2.2.1 0 0 6, va_cpy dr.2.2.2.2.2.1 t.2.2.2.2.2.1 0 0 6, va_cpy dr.2.2.2.2.2.2.1 t.2.2.2.2.2.2.1 0 0 8, va_cpy dr.2.2.2.2.2.2.2.1 t.2.2.2.2.2.2.2.1 0 0 6, va_cpy dr.2.2.2.2.2.2.2.2 t.2.2.2.2.2.2.2.2 0 0 6) dr rd w i0 i1 kp dd tr m) := by
  refine zq_start (by decide +kernel) rfl (Nat.le_of_ble_eq_true rfl) ?_
  show zq_G _ _ _ _ _ 0 ([(0, .ref 2), (1, .ref 8)], [], XH tx n t dr rd w i0 i1 kp dd tr m)
  refine zq_b [zq_al 0, zq_al 1, zq_get 9 0, zq_puti 9 0, zq_al 0, zq_al 1, zq_get 9 1, zq_puti 9 1, zq_al 0, zq_al 1, zq_get 9 2, zq_puti 9 2, zq_al 0, zq_al 1, zq_get 9 3, zq_puti 9 3, zq_al 1, zq_get 9 4, zq_k 0, zq_al 0, zq_get 9 4, zq_k 0, zq_k 6] [zq_alchk 0, zq_alchk 1, zq_getchk 9 0, zq_putchk 9 0 .int, zq_alchk 0, zq_alchk 1, zq_getchk 9 1, zq_putchk 9 1 .int, zq_alchk 0, zq_alchk 1, zq_getchk 9 2, zq_putchk 9 2 .int, zq_alchk 0, zq_alchk 1, zq_getchk 9 3, zq_putchk 9 3 .int, zq_alchk 1, zq_getchk 9 4, zq_kchk 0, zq_alchk 0, zq_getchk 9 4, zq_kchk 0, zq_kchk 6] 44 rfl (by decide +kernel) ?_
  show zq_G _ _ _ _ _ 44 ([(0, .ref 2), (1, .ref 8)], [.int 6, .int 0, .ref 3, .int 0, .ref 9], XH tx n (dr.1, dr.2.1, dr.2.2.1, dr.2.2.2.1, t.2.2.2.2.1, t.2.2.2.2.2.1, t.2.2.2.2.2.2.1, t.2.2.2.2.2.2.2.1, t.2.2.2.2.2.2.2.2) dr rd w i0 i1 kp dd tr m)
  refine zq_copy (rest := []) (sp := 0) (dp := 0) (n := 6) (by decide +kernel) kc9_40 rfl rfl rfl (by omega) (by omega) (by decide) rfl rfl rfl ?_
  show zq_G _ _ _ _ _ 47 ([(0, .ref 2), (1, .ref 8)], [], XH tx n (dr.1, dr.2.1, dr.2.2.1, dr.2.2.2.1, va_cpy dr.2.2.2.2.1 t.2.2.2.2.1 0 0 6, t.2.2.2.2.2.1, t.2.2.2.2.2.2.1, t.2.2.2.2.2.2.2.1, t.2.2.2.2.2.2.2.2) dr rd w i0 i1 kp dd tr m)
  refine zq_b [zq_al 1, zq_get 9 5, zq_k 0, zq_al 0, zq_get 9 5, zq_k 0, zq_k 6] [zq_alchk 1, zq_getchk 9 5, zq_kchk 0, zq_alchk 0, zq_getchk 9 5, zq_kchk 0, zq_kchk 6] 59 rfl (by decide +kernel) ?_
  show zq_G _ _ _ _ _ 59 ([(0, .ref 2), (1, .ref 8)], [.int 6, .int 0, .ref 4, .int 0, .ref 10], XH tx n (dr.1, dr.2.1, dr.2.2.1, dr.2.2.2.1, va_cpy dr.2.2.2.2.1 t.2.2.2.2.1 0 0 6, t.2.2.2.2.2.1, t.2.2.2.2.2.2.1, t.2.2.2.2.2.2.2.1, t.2.2.2.2.2.2.2.2) dr rd w i0 i1 kp dd tr m)
  refine zq_copy (rest := []) (sp := 0) (dp := 0) (n := 6) (by decide +kernel) kc9_40 rfl rfl rfl (by omega) (by omega) (by decide) rfl rfl rfl ?_
  show zq_G _ _ _ _ _ 62 ([(0, .ref 2), (1, .ref 8)], [], XH tx n (dr.1, dr.2.1, dr.2.2.1, dr.2.2.2.1, va_cpy dr.2.2.2.2.1 t.2.2.2.2.1 0 0 6, va_cpy dr.2.2.2.2.2.1 t.2.2.2.2.2.1 0 0 6, t.2.2.2.2.2.2.1, t.2.2.2.2.2.2.2.1, t.2.2.2.2.2.2.2.2) dr rd w i0 i1 kp dd tr m)
  refine zq_b [zq_al 1, zq_get 9 6, zq_k 0, zq_al 0, zq_get 9 6, zq_k 0, zq_k 8] [zq_alchk 1, zq_getchk 9 6, zq_kchk 0, zq_alchk 0, zq_getchk 9 6, zq_kchk 0, zq_kchk 8] 74 rfl (by decide +kernel) ?_
  show zq_G _ _ _ _ _ 74 ([(0, .ref 2), (1, .ref 8)], [.int 8, .int 0, .ref 5, .int 0, .ref 11], XH tx n (dr.1, dr.2.1, dr.2.2.1, dr.2.2.2.1, va_cpy dr.2.2.2.2.1 t.2.2.2.2.1 0 0 6, va_cpy dr.2.2.2.2.2.1 t.2.2.2.2.2.1 0 0 6, t.2.2.2.2.2.2.1, t.2.2.2.2.2.2.2.1, t.2.2.2.2.2.2.2.2) dr rd w i0 i1 kp dd tr m)
  refine zq_copy (rest := []) (sp := 0) (dp := 0) (n := 8) (by decide +kernel) kc9_40 rfl rfl rfl (by omega) (by omega) (by decide) rfl rfl rfl ?_
  show zq_G _ _ _ _ _ 77 ([(0, .ref 2), (1, .ref 8)], [], XH tx n (dr.1, dr.2.1, dr.2.2.1, dr.2.2.2.1, va_cpy dr.2.2.2.2.1 t.2.2.2.2.1 0 0 6, va_cpy dr.2.2.2.2.2.1 t.2.2.2.2.2.1 0 0 6, va_cpy dr.2.2.2.2.2.2.1 t.2.2.2.2.2.2.1 0 0 8, t.2.2.2.2.2.2.2.1, t.2.2.2.2.2.2.2.2) dr rd w i0 i1 kp dd tr m)
  refine zq_b [zq_al 1, zq_get 9 7, zq_k 0, zq_al 0, zq_get 9 7, zq_k 0, zq_k 6] [zq_alchk 1, zq_getchk 9 7, zq_kchk 0, zq_alchk 0, zq_getchk 9 7, zq_kchk 0, zq_kchk 6] 89 rfl (by decide +kernel) ?_
  show zq_G _ _ _ _ _ 89 ([(0, .ref 2), (1, .ref 8)], [.int 6, .int 0, .ref 6, .int 0, .ref 12], XH tx n (dr.1, dr.2.1, dr.2.2.1, dr.2.2.2.1, va_cpy dr.2.2.2.2.1 t.2.2.2.2.1 0 0 6, va_cpy dr.2.2.2.2.2.1 t.2.2.2.2.2.1 0 0 6, va_cpy dr.2.2.2.2.2.2.1 t.2.2.2.2.2.2.1 0 0 8, t.2.2.2.2.2.2.2.1, t.2.2.2.2.2.2.2.2) dr rd w i0 i1 kp dd tr m)
  refine zq_copy (rest := []) (sp := 0) (dp := 0) (n := 6) (by decide +kernel) kc9_40 rfl rfl rfl (by omega) (by omega) (by decide) rfl rfl rfl ?_
  show zq_G _ _ _ _ _ 92 ([(0, .ref 2), (1, .ref 8)], [], XH tx n (dr.1, dr.2.1, dr.2.2.1, dr.2.2.2.1, va_cpy dr.2.2.2.2.1 t.2.2.2.2.1 0 0 6, va_cpy dr.2.2.2.2.2.1 t.2.2.2.2.2.1 0 0 6, va_cpy dr.2.2.2.2.2.2.1 t.2.2.2.2.2.2.1 0 0 8, va_cpy dr.2.2.2.2.2.2.2.1 t.2.2.2.2.2.2.2.1 0 0 6, t.2.2.2.2.2.2.2.2) dr rd w i0 i1 kp dd tr m)
  refine zq_b [zq_al 1, zq_get 9 8, zq_k 0, zq_al 0, zq_get 9 8, zq_k 0, zq_k 6] [zq_alchk 1, zq_getchk 9 8, zq_kchk 0, zq_alchk 0, zq_getchk 9 8, zq_kchk 0, zq_kchk 6] 104 rfl (by decide +kernel) ?_
  show zq_G _ _ _ _ _ 104 ([(0, .ref 2), (1, .ref 8)], [.int 6, .int 0, .ref 7, .int 0, .ref 13], XH tx n (dr.1, dr.2.1, dr.2.2.1, dr.2.2.2.1, va_cpy dr.2.2.2.2.1 t.2.2.2.2.1 0 0 6, va_cpy dr.2.2.2.2.2.1 t.2.2.2.2.2.1 0 0 6, va_cpy dr.2.2.2.2.2.2.1 t.2.2.2.2.2.2.1 0 0 8, va_cpy dr.2.2.2.2.2.2.2.1 t.2.2.2.2.2.2.2.1 0 0 6, t.2.2.2.2.2.2.2.2) dr rd w i0 i1 kp dd tr m)
  refine zq_copy (rest := []) (sp := 0) (dp := 0) (n := 6) (by decide +kernel) kc9_40 rfl rfl rfl (by omega) (by omega) (by decide) rfl rfl rfl ?_
  show zq_G _ _ _ _ _ 107 ([(0, .ref 2), (1, .ref 8)], [], XH tx n (dr.1, dr.2.1, dr.2.2.1, dr.2.2.2.1, va_cpy dr.2.2.2.2.1 t.2.2.2.2.1 0 0 6, va_cpy dr.2.2.2.2.2.1 t.2.2.2.2.2.1 0 0 6, va_cpy dr.2.2.2.2.2.2.1 t.2.2.2.2.2.2.1 0 0 8, va_cpy dr.2.2.2.2.2.2.2.1 t.2.2.2.2.2.2.2.1 0 0 6, va_cpy dr.2.2.2.2.2.2.2.2 t.2.2.2.2.2.2.2.2 0 0 6) dr rd w i0 i1 kp dd tr m)
  exact zq_vret (by decide +kernel) rfl rfl rfl
set_option maxHeartbeats 4000000 in
set_option maxRecDepth 100000 in
theorem c_nbecome_21_15   : zq_P l mX5_become 1 [.ref 21, .ref 15] (XH tx n t dr rd w i0 i1 kp dd tr m) none (XH tx n t dr rd w (w.1, w.2.1, w.2.2.1, w.2.2.2.1, va_cpy w.2.2.2.2.1 i0.2.2.2.2.1 0 0 6, va_cpy w.2.2.2.2.2.1 i0.2.2.2.2.2.1 0 0 60, va_cpy w.2.2.2.2.2.2.1 i0.2.2.2.2.2.2.1 0 0 99, va_cpy w.2.2.2.2.2.2.2 i0.2.2.2.2.2.2.2 0 0 30) i1 kp dd tr m) := by
  refine zq_start (by decide +kernel) rfl (Nat.le_of_ble_eq_true rfl) ?_
  show zq_G _ _ _ _ _ 0 ([(0, .ref 21), (1, .ref 15)], [], XH tx n t dr rd w i0 i1 kp dd tr m)
  refine zq_b [zq_al 0, zq_al 1, zq_get 5 1, zq_puti 5 1, zq_al 0, zq_al 1, zq_get 5 2, zq_puti 5 2, zq_al 0, zq_al 1, zq_get 5 3, zq_puti 5 3, zq_al 0, zq_al 1, zq_get 5 4, zq_puti 5 4, zq_al 1, zq_get 5 5, zq_k 0, zq_al 0, zq_get 5 5, zq_k 0, zq_al 0, zq_get 5 5, zq_alen] [zq_alchk 0, zq_alchk 1, zq_getchk 5 1, zq_putchk 5 1 .int, zq_alchk 0, zq_alchk 1, zq_getchk 5 2, zq_putchk 5 2 .int, zq_alchk 0, zq_alchk 1, zq_getchk 5 3, zq_putchk 5 3 .int, zq_alchk 0, zq_alchk 1, zq_getchk 5 4, zq_putchk 5 4 .int, zq_alchk 1, zq_getchk 5 5, zq_kchk 0, zq_alchk 0, zq_getchk 5 5, zq_kchk 0, zq_alchk 0, zq_getchk 5 5, zq_is .arraylength 1] 47 rfl (by decide +kernel) ?_
  show zq_G _ _ _ _ _ 47 ([(0, .ref 21), (1, .ref 15)], [.int 6, .int 0, .ref 22, .int 0, .ref 16], XH tx n t dr rd w (w.1, w.2.1, w.2.2.1, w.2.2.2.1, i0.2.2.2.2.1, i0.2.2.2.2.2.1, i0.2.2.2.2.2.2.1, i0.2.2.2.2.2.2.2) i1 kp dd tr m)
  refine zq_copy (rest := []) (sp := 0) (dp := 0) (n := 6) (by decide +kernel) kc5_46 rfl rfl rfl (by omega) (by omega) (by decide) rfl rfl rfl ?_
  show zq_G _ _ _ _ _ 50 ([(0, .ref 21), (1, .ref 15)], [], XH tx n t dr rd w (w.1, w.2.1, w.2.2.1, w.2.2.2.1, va_cpy w.2.2.2.2.1 i0.2.2.2.2.1 0 0 6, i0.2.2.2.2.2.1, i0.2.2.2.2.2.2.1, i0.2.2.2.2.2.2.2) i1 kp dd tr m)
  refine zq_b [zq_al 1, zq_get 5 6, zq_k 0, zq_al 0, zq_get 5 6, zq_k 0, zq_al 0, zq_get 5 6, zq_alen] [zq_alchk 1, zq_getchk 5 6, zq_kchk 0, zq_alchk 0, zq_getchk 5 6, zq_kchk 0, zq_alchk 0, zq_getchk 5 6, zq_is .arraylength 1] 65 rfl (by decide +kernel) ?_
  show zq_G _ _ _ _ _ 65 ([(0, .ref 21), (1, .ref 15)], [.int 60, .int 0, .ref 23, .int 0, .ref 17], XH tx n t dr rd w (w.1, w.2.1, w.2.2.1, w.2.2.2.1, va_cpy w.2.2.2.2.1 i0.2.2.2.2.1 0 0 6, i0.2.2.2.2.2.1, i0.2.2.2.2.2.2.1, i0.2.2.2.2.2.2.2) i1 kp dd tr m)
  refine zq_copy (rest := []) (sp := 0) (dp := 0) (n := 60) (by decide +kernel) kc5_46 rfl rfl rfl (by omega) (by omega) (by decide) rfl rfl rfl ?_
  show zq_G _ _ _ _ _ 68 ([(0, .ref 21), (1, .ref 15)], [], XH tx n t dr rd w (w.1, w.2.1, w.2.2.1, w.2.2.2.1, va_cpy w.2.2.2.2.1 i0.2.2.2.2.1 0 0 6, va_cpy w.2.2.2.2.2.1 i0.2.2.2.2.2.1 0 0 60, i0.2.2.2.2.2.2.1, i0.2.2.2.2.2.2.2) i1 kp dd tr m)
  refine zq_b [zq_al 1, zq_get 5 7, zq_k 0, zq_al 0, zq_get 5 7, zq_k 0, zq_al 0, zq_get 5 7, zq_alen] [zq_alchk 1, zq_getchk 5 7, zq_kchk 0, zq_alchk 0, zq_getchk 5 7, zq_kchk 0, zq_alchk 0, zq_getchk 5 7, zq_is .arraylength 1] 83 rfl (by decide +kernel) ?_
  show zq_G _ _ _ _ _ 83 ([(0, .ref 21), (1, .ref 15)], [.int 99, .int 0, .ref 24, .int 0, .ref 18], XH tx n t dr rd w (w.1, w.2.1, w.2.2.1, w.2.2.2.1, va_cpy w.2.2.2.2.1 i0.2.2.2.2.1 0 0 6, va_cpy w.2.2.2.2.2.1 i0.2.2.2.2.2.1 0 0 60, i0.2.2.2.2.2.2.1, i0.2.2.2.2.2.2.2) i1 kp dd tr m)
  refine zq_copy (rest := []) (sp := 0) (dp := 0) (n := 99) (by decide +kernel) kc5_46 rfl rfl rfl (by omega) (by omega) (by decide) rfl rfl rfl ?_
  show zq_G _ _ _ _ _ 86 ([(0, .ref 21), (1, .ref 15)], [], XH tx n t dr rd w (w.1, w.2.1, w.2.2.1, w.2.2.2.1, va_cpy w.2.2.2.2.1 i0.2.2.2.2.1 0 0 6, va_cpy w.2.2.2.2.2.1 i0.2.2.2.2.2.1 0 0 60, va_cpy w.2.2.2.2.2.2.1 i0.2.2.2.2.2.2.1 0 0 99, i0.2.2.2.2.2.2.2) i1 kp dd tr m)
  refine zq_b [zq_al 1, zq_get 5 8, zq_k 0, zq_al 0, zq_get 5 8, zq_k 0, zq_al 0, zq_get 5 8, zq_alen] [zq_alchk 1, zq_getchk 5 8, zq_kchk 0, zq_alchk 0, zq_getchk 5 8, zq_kchk 0, zq_alchk 0, zq_getchk 5 8, zq_is .arraylength 1] 101 rfl (by decide +kernel) ?_
  show zq_G _ _ _ _ _ 101 ([(0, .ref 21), (1, .ref 15)], [.int 30, .int 0, .ref 25, .int 0, .ref 19], XH tx n t dr rd w (w.1, w.2.1, w.2.2.1, w.2.2.2.1, va_cpy w.2.2.2.2.1 i0.2.2.2.2.1 0 0 6, va_cpy w.2.2.2.2.2.1 i0.2.2.2.2.2.1 0 0 60, va_cpy w.2.2.2.2.2.2.1 i0.2.2.2.2.2.2.1 0 0 99, i0.2.2.2.2.2.2.2) i1 kp dd tr m)
  refine zq_copy (rest := []) (sp := 0) (dp := 0) (n := 30) (by decide +kernel) kc5_46 rfl rfl rfl (by omega) (by omega) (by decide) rfl rfl rfl ?_
  show zq_G _ _ _ _ _ 104 ([(0, .ref 21), (1, .ref 15)], [], XH tx n t dr rd w (w.1, w.2.1, w.2.2.1, w.2.2.2.1, va_cpy w.2.2.2.2.1 i0.2.2.2.2.1 0 0 6, va_cpy w.2.2.2.2.2.1 i0.2.2.2.2.2.1 0 0 60, va_cpy w.2.2.2.2.2.2.1 i0.2.2.2.2.2.2.1 0 0 99, va_cpy w.2.2.2.2.2.2.2 i0.2.2.2.2.2.2.2 0 0 30) i1 kp dd tr m)
  exact zq_vret (by decide +kernel) rfl rfl rfl
set_option maxHeartbeats 4000000 in
set_option maxRecDepth 100000 in
theorem c_nbecome_26_15   : zq_P l mX5_become 1 [.ref 26, .ref 15] (XH tx n t dr rd w i0 i1 kp dd tr m) none (XH tx n t dr rd w i0 (w.1, w.2.1, w.2.2.1, w.2.2.2.1, va_cpy w.2.2.2.2.1 i1.2.2.2.2.1 0 0 6, va_cpy w.2.2.2.2.2.1 i1.2.2.2.2.2.1 0 0 60, va_cpy w.2.2.2.2.2.2.1 i1.2.2.2.2.2.2.1 0 0 99, va_cpy w.2.2.2.2.2.2.2 i1.2.2.2.2.2.2.2 0 0 30) kp dd tr m) := by
  refine zq_start (by decide +kernel) rfl (Nat.le_of_ble_eq_true rfl) ?_
  show zq_G _ _ _ _ _ 0 ([(0, .ref 26), (1, .ref 15)], [], XH tx n t dr rd w i0 i1 kp dd tr m)
  refine zq_b [zq_al 0, zq_al 1, zq_get 5 1, zq_puti 5 1, zq_al 0, zq_al 1, zq_get 5 2, zq_puti 5 2, zq_al 0, zq_al 1, zq_get 5 3, zq_puti 5 3, zq_al 0, zq_al 1, zq_get 5 4, zq_puti 5 4, zq_al 1, zq_get 5 5, zq_k 0, zq_al 0, zq_get 5 5, zq_k 0, zq_al 0, zq_get 5 5, zq_alen] [zq_alchk 0, zq_alchk 1, zq_getchk 5 1, zq_putchk 5 1 .int, zq_alchk 0, zq_alchk 1, zq_getchk 5 2, zq_putchk 5 2 .int, zq_alchk 0, zq_alchk 1, zq_getchk 5 3, zq_putchk 5 3 .int, zq_alchk 0, zq_alchk 1, zq_getchk 5 4, zq_putchk 5 4 .int, zq_alchk 1, zq_getchk 5 5, zq_kchk 0, zq_alchk 0, zq_getchk 5 5, zq_kchk 0, zq_alchk 0, zq_getchk 5 5, zq_is .arraylength 1] 47 rfl (by decide +kernel) ?_
  show zq_G _ _ _ _ _ 47 ([(0, .ref 26), (1, .ref 15)], [.int 6, .int 0, .ref 27, .int 0, .ref 16], XH tx n t dr rd w i0 (w.1, w.2.1, w.2.2.1, w.2.2.2.1, i1.2.2.2.2.1, i1.2.2.2.2.2.1, i1.2.2.2.2.2.2.1, i1.2.2.2.2.2.2.2) kp dd tr m)
  refine zq_copy (rest := []) (sp := 0) (dp := 0) (n := 6) (by decide +kernel) kc5_46 rfl rfl rfl (by omega) (by omega) (by decide) rfl rfl rfl ?_
  show zq_G _ _ _ _ _ 50 ([(0, .ref 26), (1, .ref 15)], [], XH tx n t dr rd w i0 (w.1, w.2.1, w.2.2.1, w.2.2.2.1, va_cpy w.2.2.2.2.1 i1.2.2.2.2.1 0 0 6, i1.2.2.2.2.2.1, i1.2.2.2.2.2.2.1, i1.2.2.2.2.2.2.2) kp dd tr m)
  refine zq_b [zq_al 1, zq_get 5 6, zq_k 0, zq_al 0, zq_get 5 6, zq_k 0, zq_al 0, zq_get 5 6, zq_alen] [zq_alchk 1, zq_getchk 5 6, zq_kchk 0, zq_alchk 0, zq_getchk 5 6, zq_kchk 0, zq_alchk 0, zq_getchk 5 6, zq_is .arraylength 1] 65 rfl (by decide +kernel) ?_
  show zq_G _ _ _ _ _ 65 ([(0, .ref 26), (1, .ref 15)], [.int 60, .int 0, .ref 28, .int 0, .ref 17], XH tx n t dr rd w i0 (w.1, w.2.1, w.2.2.1, w.2.2.2.1, va_cpy w.2.2.2.2.1 i1.2.2.2.2.1 0 0 6, i1.2.2.2.2.2.1, i1.2.2.2.2.2.2.1, i1.2.2.2.2.2.2.2) kp dd tr m)
  refine zq_copy (rest := []) (sp := 0) (dp := 0) (n := 60) (by decide +kernel) kc5_46 rfl rfl rfl (by omega) (by omega) (by decide) rfl rfl rfl ?_
  show zq_G _ _ _ _ _ 68 ([(0, .ref 26), (1, .ref 15)], [], XH tx n t dr rd w i0 (w.1, w.2.1, w.2.2.1, w.2.2.2.1, va_cpy w.2.2.2.2.1 i1.2.2.2.2.1 0 0 6, va_cpy w.2.2.2.2.2.1 i1.2.2.2.2.2.1 0 0 60, i1.2.2.2.2.2.2.1, i1.2.2.2.2.2.2.2) kp dd tr m)
  refine zq_b [zq_al 1, zq_get 5 7, zq_k 0, zq_al 0, zq_get 5 7, zq_k 0, zq_al 0, zq_get 5 7, zq_alen] [zq_alchk 1, zq_getchk 5 7, zq_kchk 0, zq_alchk 0, zq_getchk 5 7, zq_kchk 0, zq_alchk 0, zq_getchk 5 7, zq_is .arraylength 1] 83 rfl (by decide +kernel) ?_
  show zq_G _ _ _ _ _ 83 ([(0, .ref 26), (1, .ref 15)], [.int 99, .int 0, .ref 29, .int 0, .ref 18], XH tx n t dr rd w i0 (w.1, w.2.1, w.2.2.1, w.2.2.2.1, va_cpy w.2.2.2.2.1 i1.2.2.2.2.1 0 0 6, va_cpy w.2.2.2.2.2.1 i1.2.2.2.2.2.1 0 0 60, i1.2.2.2.2.2.2.1, i1.2.2.2.2.2.2.2) kp dd tr m)
  refine zq_copy (rest := []) (sp := 0) (dp := 0) (n := 99) (by decide +kernel) kc5_46 rfl rfl rfl (by omega) (by omega) (by decide) rfl rfl rfl ?_
  show zq_G _ _ _ _ _ 86 ([(0, .ref 26), (1, .ref 15)], [], XH tx n t dr rd w i0 (w.1, w.2.1, w.2.2.1, w.2.2.2.1, va_cpy w.2.2.2.2.1 i1.2.2.2.2.1 0 0 6, va_cpy w.2.2.2.2.2.1 i1.2.2.2.2.2.1 0 0 60, va_cpy w.2.2.2.2.2.2.1 i1.2.2.2.2.2.2.1 0 0 99, i1.2.2.2.2.2.2.2) kp dd tr m)
  refine zq_b [zq_al 1, zq_get 5 8, zq_k 0, zq_al 0, zq_get 5 8, zq_k 0, zq_al 0, zq_get 5 8, zq_alen] [zq_alchk 1, zq_getchk 5 8, zq_kchk 0, zq_alchk 0, zq_getchk 5 8, zq_kchk 0, zq_alchk 0, zq_getchk 5 8, zq_is .arraylength 1] 101 rfl (by decide +kernel) ?_
  show zq_G _ _ _ _ _ 101 ([(0, .ref 26), (1, .ref 15)], [.int 30, .int 0, .ref 30, .int 0, .ref 19], XH tx n t dr rd w i0 (w.1, w.2.1, w.2.2.1, w.2.2.2.1, va_cpy w.2.2.2.2.1 i1.2.2.2.2.1 0 0 6, va_cpy w.2.2.2.2.2.1 i1.2.2.2.2.2.1 0 0 60, va_cpy w.2.2.2.2.2.2.1 i1.2.2.2.2.2.2.1 0 0 99, i1.2.2.2.2.2.2.2) kp dd tr m)
  refine zq_copy (rest := []) (sp := 0) (dp := 0) (n := 30) (by decide +kernel) kc5_46 rfl rfl rfl (by omega) (by omega) (by decide) rfl rfl rfl ?_
  show zq_G _ _ _ _ _ 104 ([(0, .ref 26), (1, .ref 15)], [], XH tx n t dr rd w i0 (w.1, w.2.1, w.2.2.1, w.2.2.2.1, va_cpy w.2.2.2.2.1 i1.2.2.2.2.1 0 0 6, va_cpy w.2.2.2.2.2.1 i1.2.2.2.2.2.1 0 0 60, va_cpy w.2.2.2.2.2.2.1 i1.2.2.2.2.2.2.1 0 0 99, va_cpy w.2.2.2.2.2.2.2 i1.2.2.2.2.2.2.2 0 0 30) kp dd tr m)
  exact zq_vret (by decide +kernel) rfl rfl rfl
set_option maxHeartbeats 4000000 in
set_option maxRecDepth 100000 in
theorem c_nbecome_15_21   : zq_P l mX5_become 1 [.ref 15, .ref 21] (XH tx n t dr rd w i0 i1 kp dd tr m) none (XH tx n t dr rd (i0.1, i0.2.1, i0.2.2.1, i0.2.2.2.1, va_cpy i0.2.2.2.2.1 w.2.2.2.2.1 0 0 6, va_cpy i0.2.2.2.2.2.1 w.2.2.2.2.2.1 0 0 60, va_cpy i0.2.2.2.2.2.2.1 w.2.2.2.2.2.2.1 0 0 99, va_cpy i0.2.2.2.2.2.2.2 w.2.2.2.2.2.2.2 0 0 30) i0 i1 kp dd tr m) := by
  refine zq_start (by decide +kernel) rfl (Nat.le_of_ble_eq_true rfl) ?_
  show zq_G _ _ _ _ _ 0 ([(0, .ref 15), (1, .ref 21)], [], XH tx n t dr rd w i0 i1 kp dd tr m)
  refine zq_b [zq_al 0, zq_al 1, zq_get 5 1, zq_puti 5 1, zq_al 0, zq_al 1, zq_get 5 2, zq_puti 5 2, zq_al 0, zq_al 1, zq_get 5 3, zq_puti 5 3, zq_al 0, zq_al 1, zq_get 5 4, zq_puti 5 4, zq_al 1, zq_get 5 5, zq_k 0, zq_al 0, zq_get 5 5, zq_k 0, zq_al 0, zq_get 5 5, zq_alen] [zq_alchk 0, zq_alchk 1, zq_getchk 5 1, zq_putchk 5 1 .int, zq_alchk 0, zq_alchk 1, zq_getchk 5 2, zq_putchk 5 2 .int, zq_alchk 0, zq_alchk 1, zq_getchk 5 3, zq_putchk 5 3 .int, zq_alchk 0, zq_alchk 1, zq_getchk 5 4, zq_putchk 5 4 .int, zq_alchk 1, zq_getchk 5 5, zq_kchk 0, zq_alchk 0, zq_getchk 5 5, zq_kchk 0, zq_alchk 0, zq_getchk 5 5, zq_is .arraylength 1] 47 rfl (by decide +kernel) ?_
  show zq_G _ _ _ _ _ 47 ([(0, .ref 15), (1, .ref 21)], [.int 6, .int 0, .ref 16, .int 0, .ref 22], XH tx n t dr rd (i0.1, i0.2.1, i0.2.2.1, i0.2.2.2.1, w.2.2.2.2.1, w.2.2.2.2.2.1, w.2.2.2.2.2.2.1, w.2.2.2.2.2.2.2) i0 i1 kp dd tr m)
  refine zq_copy (rest := []) (sp := 0) (dp := 0) (n := 6) (by decide +kernel) kc5_46 rfl rfl rfl (by omega) (by omega) (by decide) rfl rfl rfl ?_
  show zq_G _ _ _ _ _ 50 ([(0, .ref 15), (1, .ref 21)], [], XH tx n t dr rd (i0.1, i0.2.1, i0.2.2.1, i0.2.2.2.1, va_cpy i0.2.2.2.2.1 w.2.2.2.2.1 0 0 6, w.2.2.2.2.2.1, w.2.2.2.2.2.2.1, w.2.2.2.2.2.2.2) i0 i1 kp dd tr m)
  refine zq_b [zq_al 1, zq_get 5 6, zq_k 0, zq_al 0, zq_get 5 6, zq_k 0, zq_al 0, zq_get 5 6, zq_alen] [zq_alchk 1, zq_getchk 5 6, zq_kchk 0, zq_alchk 0, zq_getchk 5 6, zq_kchk 0, zq_alchk 0, zq_getchk 5 6, zq_is .arraylength 1] 65 rfl (by decide +kernel) ?_
  show zq_G _ _ _ _ _ 65 ([(0, .ref 15), (1, .ref 21)], [.int 60, .int 0, .ref 17, .int 0, .ref 23], XH tx n t dr rd (i0.1, i0.2.1, i0.2.2.1, i0.2.2.2.1, va_cpy i0.2.2.2.2.1 w.2.2.2.2.1 0 0 6, w.2.2.2.2.2.1, w.2.2.2.2.2.2.1, w.2.2.2.2.2.2.2) i0 i1 kp dd tr m)
  refine zq_copy (rest := []) (sp := 0) (dp := 0) (n := 60) (by decide +kernel) kc5_46 rfl rfl rfl (by omega) (by omega) (by decide) rfl rfl rfl ?_
  show zq_G _ _ _ _ _ 68 ([(0, .ref 15), (1, .ref 21)], [], XH tx n t dr rd (i0.1, i0.2.1, i0.2.2.1, i0.2.2.2.1, va_cpy i0.2.2.2.2.1 w.2.2.2.2.1 0 0 6, va_cpy i0.2.2.2.2.2.1 w.2.2.2.2.2.1 0 0 60, w.2.2.2.2.2.2.1, w.2.2.2.2.2.2.2) i0 i1 kp dd tr m)
  refine zq_b [zq_al 1, zq_get 5 7, zq_k 0, zq_al 0, zq_get 5 7, zq_k 0, zq_al 0, zq_get 5 7, zq_alen] [zq_alchk 1, zq_getchk 5 7, zq_kchk 0, zq_alchk 0, zq_getchk 5 7, zq_kchk 0, zq_alchk 0, zq_getchk 5 7, zq_is .arraylength 1] 83 rfl (by decide +kernel) ?_
  show zq_G _ _ _ _ _ 83 ([(0, .ref 15), (1, .ref 21)], [.int 99, .int 0, .ref 18, .int 0, .ref 24], XH tx n t dr rd (i0.1, i0.2.1, i0.2.2.1, i0.2.2.2.1, va_cpy i0.2.2.2.2.1 w.2.2.2.2.1 0 0 6, va_cpy i0.2.2.2.2.2.1 w.2.2.2.2.2.1 0 0 60, w.2.2.2.2.2.2.1, w.2.2.2.2.2.2.2) i0 i1 kp dd tr m)
  refine zq_copy (rest := []) (sp := 0) (dp := 0) (n := 99) (by decide +kernel) kc5_46 rfl rfl rfl (by omega) (by omega) (by decide) rfl rfl rfl ?_
  show zq_G _ _ _ _ _ 86 ([(0, .ref 15), (1, .ref 21)], [], XH tx n t dr rd (i0.1, i0.2.1, i0.2.2.1, i0.2.2.2.1, va_cpy i0.2.2.2.2.1 w.2.2.2.2.1 0 0 6, va_cpy i0.2.2.2.2.2.1 w.2.2.2.2.2.1 0 0 60, va_cpy i0.2.2.2.2.2.2.1 w.2.2.2.2.2.2.1 0 0 99, w.2.2.2.2.2.2.2) i0 i1 kp dd tr m)
  refine zq_b [zq_al 1, zq_get 5 8, zq_k 0, zq_al 0, zq_get 5 8, zq_k 0, zq_al 0, zq_get 5 8, zq_alen] [zq_alchk 1, zq_getchk 5 8, zq_kchk 0, zq_alchk 0, zq_getchk 5 8, zq_kchk 0, zq_alchk 0, zq_getchk 5 8, zq_is .arraylength 1] 101 rfl (by decide +kernel) ?_
  show zq_G _ _ _ _ _ 101 ([(0, .ref 15), (1, .ref 21)], [.int 30, .int 0, .ref 19, .int 0, .ref 25], XH tx n t dr rd (i0.1, i0.2.1, i0.2.2.1, i0.2.2.2.1, va_cpy i0.2.2.2.2.1 w.2.2.2.2.1 0 0 6, va_cpy i0.2.2.2.2.2.1 w.2.2.2.2.2.1 0 0 60, va_cpy i0.2.2.2.2.2.2.1 w.2.2.2.2.2.2.1 0 0 99, w.2.2.2.2.2.2.2) i0 i1 kp dd tr m)
  refine zq_copy (rest := []) (sp := 0) (dp := 0) (n := 30) (by decide +kernel) kc5_46 rfl rfl rfl (by omega) (by omega) (by decide) rfl rfl rfl ?_
  show zq_G _ _ _ _ _ 104 ([(0, .ref 15), (1, .ref 21)], [], XH tx n t dr rd (i0.1, i0.2.1, i0.2.2.1, i0.2.2.2.1, va_cpy i0.2.2.2.2.1 w.2.2.2.2.1 0 0 6, va_cpy i0.2.2.2.2.2.1 w.2.2.2.2.2.1 0 0 60, va_cpy i0.2.2.2.2.2.2.1 w.2.2.2.2.2.2.1 0 0 99, va_cpy i0.2.2.2.2.2.2.2 w.2.2.2.2.2.2.2 0 0 30) i0 i1 kp dd tr m)
  exact zq_vret (by decide +kernel) rfl rfl rfl
set_option maxHeartbeats 4000000 in
set_option maxRecDepth 100000 in
theorem c_nbecome_15_26   : zq_P l mX5_become 1 [.ref 15, .ref 26] (XH tx n t dr rd w i0 i1 kp dd tr m) none (XH tx n t dr rd (i1.1, i1.2.1, i1.2.2.1, i1.2.2.2.1, va_cpy i1.2.2.2.2.1 w.2.2.2.2.1 0 0 6, va_cpy i1.2.2.2.2.2.1 w.2.2.2.2.2.1 0 0 60, va_cpy i1.2.2.2.2.2.2.1 w.2.2.2.2.2.2.1 0 0 99, va_cpy i1.2.2.2.2.2.2.2 w.2.2.2.2.2.2.2 0 0 30) i0 i1 kp dd tr m) := by
  refine zq_start (by decide +kernel) rfl (Nat.le_of_ble_eq_true rfl) ?_
  show zq_G _ _ _ _ _ 0 ([(0, .ref 15), (1, .ref 26)], [], XH tx n t dr rd w i0 i1 kp dd tr m)
  refine zq_b [zq_al 0, zq_al 1, zq_get 5 1, zq_puti 5 1, zq_al 0, zq_al 1, zq_get 5 2, zq_puti 5 2, zq_al 0, zq_al 1, zq_get 5 3, zq_puti 5 3, zq_al 0, zq_al 1, zq_get 5 4, zq_puti 5 4, zq_al 1, zq_get 5 5, zq_k 0, zq_al 0, zq_get 5 5, zq_k 0, zq_al 0, zq_get 5 5, zq_alen] [zq_alchk 0, zq_alchk 1, zq_getchk 5 1, zq_putchk 5 1 .int, zq_alchk 0, zq_alchk 1, zq_getchk 5 2, zq_putchk 5 2 .int, zq_alchk 0, zq_alchk 1, zq_getchk 5 3, zq_putchk 5 3 .int, zq_alchk 0, zq_alchk 1, zq_getchk 5 4, zq_putchk 5 4 .int, zq_alchk 1, zq_getchk 5 5, zq_kchk 0, zq_alchk 0, zq_getchk 5 5, zq_kchk 0, zq_alchk 0, zq_getchk 5 5, zq_is .arraylength 1] 47 rfl (by decide +kernel) ?_
  show zq_G _ _ _ _ _ 47 ([(0, .ref 15), (1, .ref 26)], [.int 6, .int 0, .ref 16, .int 0, .ref 27], XH tx n t dr rd (i1.1, i1.2.1, i1.2.2.1, i1.2.2.2.1, w.2.2.2.2.1, w.2.2.2.2.2.1, w.2.2.2.2.2.2.1, w.2.2.2.2.2.2.2) i0 i1 kp dd tr m)
  refine zq_copy (rest := []) (sp := 0) (dp := 0) (n := 6) (by decide +kernel) kc5_46 rfl rfl rfl (by omega) (by omega) (by decide) rfl rfl rfl ?_
  show zq_G _ _ _ _ _ 50 ([(0, .ref 15), (1, .ref 26)], [], XH tx n t dr rd (i1.1, i1.2.1, i1.2.2.1, i1.2.2.2.1, va_cpy i1.2.2.2.2.1 w.2.2.2.2.1 0 0 6, w.2.2.2.2.2.1, w.2.2.2.2.2.2.1, w.2.2.2.2.2.2.2) i0 i1 kp dd tr m)
  refine zq_b [zq_al 1, zq_get 5 6, zq_k 0, zq_al 0, zq_get 5 6, zq_k 0, zq_al 0, zq_get 5 6, zq_alen] [zq_alchk 1, zq_getchk 5 6, zq_kchk 0, zq_alchk 0, zq_getchk 5 6, zq_kchk 0, zq_alchk 0, zq_getchk 5 6, zq_is .arraylength 1] 65 rfl (by decide +kernel) ?_
  show zq_G _ _ _ _ _ 65 ([(0, .ref 15), (1, .ref 26)], [.int 60, .int 0, .ref 17, .int 0, .ref 28], XH tx n t dr rd (i1.1, i1.2.1, i1.2.2.1, i1.2.2.2.1, va_cpy i1.2.2.2.2.1 w.2.2.2.2.1 0 0 6, w.2.2.2.2.2.1, w.2.2.2.2.2.2.1, w.2.2.2.2.2.2.2) i0 i1 kp dd tr m)
  refine zq_copy (rest := []) (sp := 0) (dp := 0) (n := 60) (by decide +kernel) kc5_46 rfl rfl rfl (by omega) (by omega) (by decide) rfl rfl rfl ?_
  show zq_G _ _ _ _ _ 68 ([(0, .ref 15), (1, .ref 26)], [], XH tx n t dr rd (i1.1, i1.2.1, i1.2.2.1, i1.2.2.2.1, va_cpy i1.2.2.2.2.1 w.2.2.2.2.1 0 0 6, va_cpy i1.2.2.2.2.2.1 w.2.2.2.2.2.1 0 0 60, w.2.2.2.2.2.2.1, w.2.2.2.2.2.2.2) i0 i1 kp dd tr m)
  refine zq_b [zq_al 1, zq_get 5 7, zq_k 0, zq_al 0, zq_get 5 7, zq_k 0, zq_al 0, zq_get 5 7, zq_alen] [zq_alchk 1, zq_getchk 5 7, zq_kchk 0, zq_alchk 0, zq_getchk 5 7, zq_kchk 0, zq_alchk 0, zq_getchk 5 7, zq_is .arraylength 1] 83 rfl (by decide +kernel) ?_
  show zq_G _ _ _ _ _ 83 ([(0, .ref 15), (1, .ref 26)], [.int 99, .int 0, .ref 18, .int 0, .ref 29], XH tx n t dr rd (i1.1, i1.2.1, i1.2.2.1, i1.2.2.2.1, va_cpy i1.2.2.2.2.1 w.2.2.2.2.1 0 0 6, va_cpy i1.2.2.2.2.2.1 w.2.2.2.2.2.1 0 0 60, w.2.2.2.2.2.2.1, w.2.2.2.2.2.2.2) i0 i1 kp dd tr m)
  refine zq_copy (rest := []) (sp := 0) (dp := 0) (n := 99) (by decide +kernel) kc5_46 rfl rfl rfl (by omega) (by omega) (by decide) rfl rfl rfl ?_
  show zq_G _ _ _ _ _ 86 ([(0, .ref 15), (1, .ref 26)], [], XH tx n t dr rd (i1.1, i1.2.1, i1.2.2.1, i1.2.2.2.1, va_cpy i1.2.2.2.2.1 w.2.2.2.2.1 0 0 6, va_cpy i1.2.2.2.2.2.1 w.2.2.2.2.2.1 0 0 60, va_cpy i1.2.2.2.2.2.2.1 w.2.2.2.2.2.2.1 0 0 99, w.2.2.2.2.2.2.2) i0 i1 kp dd tr m)
  refine zq_b [zq_al 1, zq_get 5 8, zq_k 0, zq_al 0, zq_get 5 8, zq_k 0, zq_al 0, zq_get 5 8, zq_alen] [zq_alchk 1, zq_getchk 5 8, zq_kchk 0, zq_alchk 0, zq_getchk 5 8, zq_kchk 0, zq_alchk 0, zq_getchk 5 8, zq_is .arraylength 1] 101 rfl (by decide +kernel) ?_
  show zq_G _ _ _ _ _ 101 ([(0, .ref 15), (1, .ref 26)], [.int 30, .int 0, .ref 19, .int 0, .ref 30], XH tx n t dr rd (i1.1, i1.2.1, i1.2.2.1, i1.2.2.2.1, va_cpy i1.2.2.2.2.1 w.2.2.2.2.1 0 0 6, va_cpy i1.2.2.2.2.2.1 w.2.2.2.2.2.1 0 0 60, va_cpy i1.2.2.2.2.2.2.1 w.2.2.2.2.2.2.1 0 0 99, w.2.2.2.2.2.2.2) i0 i1 kp dd tr m)
  refine zq_copy (rest := []) (sp := 0) (dp := 0) (n := 30) (by decide +kernel) kc5_46 rfl rfl rfl (by omega) (by omega) (by decide) rfl rfl rfl ?_
  show zq_G _ _ _ _ _ 104 ([(0, .ref 15), (1, .ref 26)], [], XH tx n t dr rd (i1.1, i1.2.1, i1.2.2.1, i1.2.2.2.1, va_cpy i1.2.2.2.2.1 w.2.2.2.2.1 0 0 6, va_cpy i1.2.2.2.2.2.1 w.2.2.2.2.2.1 0 0 60, va_cpy i1.2.2.2.2.2.2.1 w.2.2.2.2.2.2.1 0 0 99, va_cpy i1.2.2.2.2.2.2.2 w.2.2.2.2.2.2.2 0 0 30) i0 i1 kp dd tr m)
  exact zq_vret (by decide +kernel) rfl rfl rfl
set_option maxHeartbeats 4000000 in
set_option maxRecDepth 100000 in
theorem c_remember {x : Int32} {y : Int32} {z : Int32} (hK : K ≤ 10) : zq_P l mX5_remember 1 [.ref 15, .int x, .int y, .int z] (XH tx n (nI P, nI C, nI R, nI L, hs, ss, cs, gs, vs) dr rd (nI D, sm, nI N, nI K, ce, de, ke, se) i0 i1 kp dd tr m) none (XH tx n (nI P, nI C, nI R, nI L, hs, ss, cs, gs, vs) dr rd (nI D, sm, nI N, nI (zk9 K + 1), ce, de, ke, zse K se x y z) i0 i1 kp dd tr m) := by
  refine zq_start (by decide +kernel) rfl (Nat.le_of_ble_eq_true rfl) ?_
  show zq_G _ _ _ _ _ 0 ([(0, .ref 15), (1, .int x), (2, .int y), (3, .int z)], [], XH tx n (nI P, nI C, nI R, nI L, hs, ss, cs, gs, vs) dr rd (nI D, sm, nI N, nI K, ce, de, ke, se) i0 i1 kp dd tr m)
  have hk9 := zk9_lt K
  refine zq_b [zq_al 0, zq_get 5 4, zq_k 10] [zq_alchk 0, zq_getchk 5 4, zq_kchk 10] 6 rfl (by decide +kernel) ?_
  show zq_G _ _ _ _ _ 6 ([(0, .ref 15), (1, .int x), (2, .int y), (3, .int z)], [.int 10, .int (nI K)], XH tx n (nI P, nI C, nI R, nI L, hs, ss, cs, gs, vs) dr rd (nI D, sm, nI N, nI K, ce, de, ke, se) i0 i1 kp dd tr m)
  refine zq_if .lt 34 (K < 10) (by decide +kernel) (zq_clt (a := K) (b := 10) (by omega) (by omega)) (fun c6 => ?_) (fun c6 => ?_)
  · show zq_G _ _ _ _ _ 34 ([(0, .ref 15), (1, .int x), (2, .int y), (3, .int z)], [], XH tx n (nI P, nI C, nI R, nI L, hs, ss, cs, gs, vs) dr rd (nI D, sm, nI N, nI K, ce, de, ke, se) i0 i1 kp dd tr m)
    refine zq_eq (σ2 := ([(0, .ref 15), (1, .int x), (2, .int y), (3, .int z)], [], XH tx n (nI P, nI C, nI R, nI L, hs, ss, cs, gs, vs) dr rd (nI D, sm, nI N, nI (zk9 K), ce, de, ke, zsh K se) i0 i1 kp dd tr m)) (by rw [zk9_t c6, zsh_t c6]) ?_
    refine zq_b [zq_al 0, zq_get 5 4, zq_k 3, zq_imul (nI ((zk9 K) * 3)), zq_is1 4, zq_al 0, zq_get 5 8, zq_il 4, zq_il 1, zq_iast ((zk9 K) * 3), zq_al 0, zq_get 5 8, zq_il 4, zq_k 1, zq_iadd (nI (((zk9 K) * 3) + 1)), zq_il 2, zq_iast (((zk9 K) * 3) + 1), zq_al 0, zq_get 5 8, zq_il 4, zq_k 2, zq_iadd (nI (((zk9 K) * 3) + 2)), zq_il 3, zq_iast (((zk9 K) * 3) + 2), zq_al 0, zq_dup, zq_get 5 4, zq_k 1, zq_iadd (nI (zk9 K + 1)), zq_puti 5 4] [zq_alchk 0, zq_getchk 5 4, zq_kchk 3, zq_is .imul 1, zq_is1chk 4, zq_alchk 0, zq_getchk 5 8, zq_ilchk 4, zq_ilchk 1, zq_is .iastore 1, zq_alchk 0, zq_getchk 5 8, zq_ilchk 4, zq_kchk 1, zq_is .iadd 1, zq_ilchk 2, zq_is .iastore 1, zq_alchk 0, zq_getchk 5 8, zq_ilchk 4, zq_kchk 2, zq_is .iadd 1, zq_ilchk 3, zq_is .iastore 1, zq_alchk 0, zq_is .dup 1, zq_getchk 5 4, zq_kchk 1, zq_is .iadd 1, zq_putchk 5 4 .int] 80 rfl (by decide +kernel) ?_
    refine ⟨(pk_mul (zk9 K) 3), rfl, (by omega), (by omega), (nI_add ((zk9 K) * 3) 1), rfl, (by omega), (by omega), (nI_add ((zk9 K) * 3) 2), rfl, (by omega), (by omega), (nI_add (zk9 K) 1), ?_⟩
    show zq_G _ _ _ _ _ 80 ([(0, .ref 15), (1, .int x), (2, .int y), (3, .int z), (4, .int (nI ((zk9 K) * 3)))], [], XH tx n (nI P, nI C, nI R, nI L, hs, ss, cs, gs, vs) dr rd (nI D, sm, nI N, nI (zk9 K + 1), ce, de, ke, upd (upd (upd (zsh K se) ((zk9 K) * 3) x) (((zk9 K) * 3) + 1) y) (((zk9 K) * 3) + 2) z) i0 i1 kp dd tr m)
    exact zq_vret (by decide +kernel) rfl rfl rfl
  · show zq_G _ _ _ _ _ 9 ([(0, .ref 15), (1, .int x), (2, .int y), (3, .int z)], [], XH tx n (nI P, nI C, nI R, nI L, hs, ss, cs, gs, vs) dr rd (nI D, sm, nI N, nI K, ce, de, ke, se) i0 i1 kp dd tr m)
    refine zq_b [zq_al 0, zq_k 9, zq_puti 5 4, zq_al 0, zq_get 5 8, zq_k 3, zq_al 0, zq_get 5 8, zq_k 0, zq_al 0, zq_get 5 4, zq_k 3, zq_imul 27] [zq_alchk 0, zq_kchk 9, zq_putchk 5 4 .int, zq_alchk 0, zq_getchk 5 8, zq_kchk 3, zq_alchk 0, zq_getchk 5 8, zq_kchk 0, zq_alchk 0, zq_getchk 5 4, zq_kchk 3, zq_is .imul 1] 31 rfl (by decide +kernel) ?_
    refine ⟨(by decide), ?_⟩
    show zq_G _ _ _ _ _ 31 ([(0, .ref 15), (1, .int x), (2, .int y), (3, .int z)], [.int 27, .int 0, .ref 19, .int 3, .ref 19], XH tx n (nI P, nI C, nI R, nI L, hs, ss, cs, gs, vs) dr rd (nI D, sm, nI N, 9, ce, de, ke, se) i0 i1 kp dd tr m)
    refine zq_copy (rest := []) (sp := 3) (dp := 0) (n := 27) (by decide +kernel) kc5_46 rfl rfl rfl (by omega) (by omega) (by decide) rfl rfl rfl ?_
    show zq_G _ _ _ _ _ 34 ([(0, .ref 15), (1, .int x), (2, .int y), (3, .int z)], [], XH tx n (nI P, nI C, nI R, nI L, hs, ss, cs, gs, vs) dr rd (nI D, sm, nI N, 9, ce, de, ke, va_cpy se se 3 0 27) i0 i1 kp dd tr m)
    refine zq_eq (σ2 := ([(0, .ref 15), (1, .int x), (2, .int y), (3, .int z)], [], XH tx n (nI P, nI C, nI R, nI L, hs, ss, cs, gs, vs) dr rd (nI D, sm, nI N, nI (zk9 K), ce, de, ke, zsh K se) i0 i1 kp dd tr m)) (by rw [zk9_f c6, zsh_f c6]; rfl) ?_
    refine zq_b [zq_al 0, zq_get 5 4, zq_k 3, zq_imul (nI ((zk9 K) * 3)), zq_is1 4, zq_al 0, zq_get 5 8, zq_il 4, zq_il 1, zq_iast ((zk9 K) * 3), zq_al 0, zq_get 5 8, zq_il 4, zq_k 1, zq_iadd (nI (((zk9 K) * 3) + 1)), zq_il 2, zq_iast (((zk9 K) * 3) + 1), zq_al 0, zq_get 5 8, zq_il 4, zq_k 2, zq_iadd (nI (((zk9 K) * 3) + 2)), zq_il 3, zq_iast (((zk9 K) * 3) + 2), zq_al 0, zq_dup, zq_get 5 4, zq_k 1, zq_iadd (nI (zk9 K + 1)), zq_puti 5 4] [zq_alchk 0, zq_getchk 5 4, zq_kchk 3, zq_is .imul 1, zq_is1chk 4, zq_alchk 0, zq_getchk 5 8, zq_ilchk 4, zq_ilchk 1, zq_is .iastore 1, zq_alchk 0, zq_getchk 5 8, zq_ilchk 4, zq_kchk 1, zq_is .iadd 1, zq_ilchk 2, zq_is .iastore 1, zq_alchk 0, zq_getchk 5 8, zq_ilchk 4, zq_kchk 2, zq_is .iadd 1, zq_ilchk 3, zq_is .iastore 1, zq_alchk 0, zq_is .dup 1, zq_getchk 5 4, zq_kchk 1, zq_is .iadd 1, zq_putchk 5 4 .int] 80 rfl (by decide +kernel) ?_
    refine ⟨(pk_mul (zk9 K) 3), rfl, (by omega), (by omega), (nI_add ((zk9 K) * 3) 1), rfl, (by omega), (by omega), (nI_add ((zk9 K) * 3) 2), rfl, (by omega), (by omega), (nI_add (zk9 K) 1), ?_⟩
    show zq_G _ _ _ _ _ 80 ([(0, .ref 15), (1, .int x), (2, .int y), (3, .int z), (4, .int (nI ((zk9 K) * 3)))], [], XH tx n (nI P, nI C, nI R, nI L, hs, ss, cs, gs, vs) dr rd (nI D, sm, nI N, nI (zk9 K + 1), ce, de, ke, upd (upd (upd (zsh K se) ((zk9 K) * 3) x) (((zk9 K) * 3) + 1) y) (((zk9 K) * 3) + 2) z) i0 i1 kp dd tr m)
    exact zq_vret (by decide +kernel) rfl rfl rfl
set_option maxHeartbeats 4000000 in
set_option maxRecDepth 100000 in
theorem c_move {p : Nat} {x : Int32} (hp : p < 6) (hK : K ≤ 10) : zq_P l mX5_move 2 [.ref 15, .int (nI p), .int x] (XH tx n (nI P, nI C, nI R, nI L, hs, ss, cs, gs, vs) dr rd (nI D, sm, nI N, nI K, ce, de, ke, se) i0 i1 kp dd tr m) (some (.int (ce p))) (XH tx n (nI P, nI C, nI R, nI L, hs, ss, cs, gs, vs) dr rd (nI D, sm, nI N, nI (zk9 K + 1), upd ce p x, de, ke, zse K se 0 (nI p) (ce p)) i0 i1 kp dd tr m) := by
  refine zq_start (by decide +kernel) rfl (Nat.le_of_ble_eq_true rfl) ?_
  show zq_G _ _ _ _ _ 0 ([(0, .ref 15), (1, .int (nI p)), (2, .int x)], [], XH tx n (nI P, nI C, nI R, nI L, hs, ss, cs, gs, vs) dr rd (nI D, sm, nI N, nI K, ce, de, ke, se) i0 i1 kp dd tr m)
  refine zq_b [zq_al 0, zq_get 5 5, zq_il 1, zq_iald p (ce p), zq_is1 3, zq_al 0, zq_k 0, zq_il 1, zq_il 3] [zq_alchk 0, zq_getchk 5 5, zq_ilchk 1, zq_is .iaload 1, zq_is1chk 3, zq_alchk 0, zq_kchk 0, zq_ilchk 1, zq_ilchk 3] 11 rfl (by decide +kernel) ?_
  refine ⟨rfl, (by omega), (by omega), rfl, ?_⟩
  show zq_G _ _ _ _ _ 11 ([(0, .ref 15), (1, .int (nI p)), (2, .int x), (3, .int (ce p))], [.int (ce p), .int (nI p), .int 0, .ref 15], XH tx n (nI P, nI C, nI R, nI L, hs, ss, cs, gs, vs) dr rd (nI D, sm, nI N, nI K, ce, de, ke, se) i0 i1 kp dd tr m)
  refine zq_callV (av := [.int 0, .int (nI p), .int (ce p)]) (rest := []) (by decide +kernel) k5_52 (c_remember (x := 0) (y := (nI p)) (z := (ce p)) hK) rfl rfl rfl rfl ?_
  show zq_G _ _ _ _ _ 14 ([(0, .ref 15), (1, .int (nI p)), (2, .int x), (3, .int (ce p))], [], XH tx n (nI P, nI C, nI R, nI L, hs, ss, cs, gs, vs) dr rd (nI D, sm, nI N, nI (zk9 K + 1), ce, de, ke, zse K se 0 (nI p) (ce p)) i0 i1 kp dd tr m)
  refine zq_b [zq_al 0, zq_get 5 5, zq_il 1, zq_il 2, zq_iast p, zq_il 3] [zq_alchk 0, zq_getchk 5 5, zq_ilchk 1, zq_ilchk 2, zq_is .iastore 1, zq_ilchk 3] 22 rfl (by decide +kernel) ?_
  refine ⟨rfl, (by omega), (by omega), ?_⟩
  show zq_G _ _ _ _ _ 22 ([(0, .ref 15), (1, .int (nI p)), (2, .int x), (3, .int (ce p))], [.int (ce p)], XH tx n (nI P, nI C, nI R, nI L, hs, ss, cs, gs, vs) dr rd (nI D, sm, nI N, nI (zk9 K + 1), upd ce p x, de, ke, zse K se 0 (nI p) (ce p)) i0 i1 kp dd tr m)
  exact zq_iret (by decide +kernel) rfl rfl rfl
set_option maxHeartbeats 4000000 in
set_option maxRecDepth 100000 in
theorem c_turnSmoke {x : Int32} (hK : K ≤ 10) : zq_P l mX5_turnSmoke 2 [.ref 15, .int x] (XH tx n (nI P, nI C, nI R, nI L, hs, ss, cs, gs, vs) dr rd (nI D, sm, nI N, nI K, ce, de, ke, se) i0 i1 kp dd tr m) none (XH tx n (nI P, nI C, nI R, nI L, hs, ss, cs, gs, vs) dr rd (nI D, sm ^^^ ((1 : Int32) <<< (x &&& 31)), nI N, nI (zk9 K + 1), ce, de, ke, zse K se 1 (-1) sm) i0 i1 kp dd tr m) := by
  refine zq_start (by decide +kernel) rfl (Nat.le_of_ble_eq_true rfl) ?_
  show zq_G _ _ _ _ _ 0 ([(0, .ref 15), (1, .int x)], [], XH tx n (nI P, nI C, nI R, nI L, hs, ss, cs, gs, vs) dr rd (nI D, sm, nI N, nI K, ce, de, ke, se) i0 i1 kp dd tr m)
  refine zq_b [zq_al 0, zq_k 1, zq_k (-1), zq_al 0, zq_get 5 2] [zq_alchk 0, zq_kchk 1, zq_kchk (-1), zq_alchk 0, zq_getchk 5 2] 7 rfl (by decide +kernel) ?_
  show zq_G _ _ _ _ _ 7 ([(0, .ref 15), (1, .int x)], [.int sm, .int (-1), .int 1, .ref 15], XH tx n (nI P, nI C, nI R, nI L, hs, ss, cs, gs, vs) dr rd (nI D, sm, nI N, nI K, ce, de, ke, se) i0 i1 kp dd tr m)
  refine zq_callV (av := [.int 1, .int (-1), .int sm]) (rest := []) (by decide +kernel) k5_52 (c_remember (x := 1) (y := (-1)) (z := sm) hK) rfl rfl rfl rfl ?_
  show zq_G _ _ _ _ _ 10 ([(0, .ref 15), (1, .int x)], [], XH tx n (nI P, nI C, nI R, nI L, hs, ss, cs, gs, vs) dr rd (nI D, sm, nI N, nI (zk9 K + 1), ce, de, ke, zse K se 1 (-1) sm) i0 i1 kp dd tr m)
  refine zq_b [zq_al 0, zq_dup, zq_get 5 2, zq_k 1, zq_il 1, zq_ishl (1 <<< (x &&& 31)), zq_ixor (sm ^^^ (1 <<< (x &&& 31))), zq_puti 5 2] [zq_alchk 0, zq_is .dup 1, zq_getchk 5 2, zq_kchk 1, zq_ilchk 1, zq_is .ishl 1, zq_is .ixor 1, zq_putchk 5 2 .int] 22 rfl (by decide +kernel) ?_
  refine ⟨rfl, rfl, ?_⟩
  show zq_G _ _ _ _ _ 22 ([(0, .ref 15), (1, .int x)], [], XH tx n (nI P, nI C, nI R, nI L, hs, ss, cs, gs, vs) dr rd (nI D, sm ^^^ (1 <<< (x &&& 31)), nI N, nI (zk9 K + 1), ce, de, ke, zse K se 1 (-1) sm) i0 i1 kp dd tr m)
  exact zq_vret (by decide +kernel) rfl rfl rfl
set_option maxHeartbeats 4000000 in
set_option maxRecDepth 100000 in
theorem c_act {p : Nat} {x : Int32} (hp : p < P) (hN2 : N < 12) (hP : P ≤ 6) (hC : C ≤ 8) (hK : K ≤ 10) (hce : ∀ j, j < P → ce j = nI (cn j) ∧ cn j ≤ 26) : zq_P l mX5_act 6 [.ref 15, .int (nI p), .int x] (XH tx n (nI P, nI C, nI R, nI L, hs, ss, cs, gs, vs) dr rd (nI D, sm, nI N, nI K, ce, de, ke, se) i0 i1 kp dd tr m) (some (.int (zbit (zseen C cs D P hs sm cn) (nI p)))) (XH tx n (nI P, nI C, nI R, nI L, hs, ss, cs, gs, vs) dr rd (nI D, sm, nI (N + 1), nI (zk9 K + 1), ce, zde N de (nI p) x (nI D) (ce p) (zbit (zseen C cs D P hs sm cn) (nI p)), ke, zse K se 2 (nI p) (nI N)) i0 i1 kp dd tr m) := by
  refine zq_start (by decide +kernel) rfl (Nat.le_of_ble_eq_true rfl) ?_
  show zq_G _ _ _ _ _ 0 ([(0, .ref 15), (1, .int (nI p)), (2, .int x)], [], XH tx n (nI P, nI C, nI R, nI L, hs, ss, cs, gs, vs) dr rd (nI D, sm, nI N, nI K, ce, de, ke, se) i0 i1 kp dd tr m)
  refine zq_b [zq_al 0] [zq_alchk 0] 1 rfl (by decide +kernel) ?_
  show zq_G _ _ _ _ _ 1 ([(0, .ref 15), (1, .int (nI p)), (2, .int x)], [.ref 15], XH tx n (nI P, nI C, nI R, nI L, hs, ss, cs, gs, vs) dr rd (nI D, sm, nI N, nI K, ce, de, ke, se) i0 i1 kp dd tr m)
  refine zq_callV (av := []) (rest := []) (by decide +kernel) k5_56 (c_seen hP hC hce) rfl rfl rfl rfl ?_
  show zq_G _ _ _ _ _ 4 ([(0, .ref 15), (1, .int (nI p)), (2, .int x)], [.int (zseen C cs D P hs sm cn)], XH tx n (nI P, nI C, nI R, nI L, hs, ss, cs, gs, vs) dr rd (nI D, sm, nI N, nI K, ce, de, ke, se) i0 i1 kp dd tr m)
  refine zq_b [zq_il 1] [zq_ilchk 1] 5 rfl (by decide +kernel) ?_
  show zq_G _ _ _ _ _ 5 ([(0, .ref 15), (1, .int (nI p)), (2, .int x)], [.int (nI p), .int (zseen C cs D P hs sm cn)], XH tx n (nI P, nI C, nI R, nI L, hs, ss, cs, gs, vs) dr rd (nI D, sm, nI N, nI K, ce, de, ke, se) i0 i1 kp dd tr m)
  refine zq_callN (av := [.int (zseen C cs D P hs sm cn), .int (nI p)]) (rest := []) (by decide +kernel) k5_60 (c_bit (x := (zseen C cs D P hs sm cn)) (p := (nI p))) rfl rfl ?_
  show zq_G _ _ _ _ _ 8 ([(0, .ref 15), (1, .int (nI p)), (2, .int x)], [.int (zbit (zseen C cs D P hs sm cn) (nI p))], XH tx n (nI P, nI C, nI R, nI L, hs, ss, cs, gs, vs) dr rd (nI D, sm, nI N, nI K, ce, de, ke, se) i0 i1 kp dd tr m)
  refine zq_b [zq_is1 3, zq_al 0, zq_k 2, zq_il 1, zq_al 0, zq_get 5 3] [zq_is1chk 3, zq_alchk 0, zq_kchk 2, zq_ilchk 1, zq_alchk 0, zq_getchk 5 3] 16 rfl (by decide +kernel) ?_
  show zq_G _ _ _ _ _ 16 ([(0, .ref 15), (1, .int (nI p)), (2, .int x), (3, .int (zbit (zseen C cs D P hs sm cn) (nI p)))], [.int (nI N), .int (nI p), .int 2, .ref 15], XH tx n (nI P, nI C, nI R, nI L, hs, ss, cs, gs, vs) dr rd (nI D, sm, nI N, nI K, ce, de, ke, se) i0 i1 kp dd tr m)
  refine zq_callV (av := [.int 2, .int (nI p), .int (nI N)]) (rest := []) (by decide +kernel) k5_52 (c_remember (x := 2) (y := (nI p)) (z := (nI N)) hK) rfl rfl rfl rfl ?_
  show zq_G _ _ _ _ _ 19 ([(0, .ref 15), (1, .int (nI p)), (2, .int x), (3, .int (zbit (zseen C cs D P hs sm cn) (nI p)))], [], XH tx n (nI P, nI C, nI R, nI L, hs, ss, cs, gs, vs) dr rd (nI D, sm, nI N, nI (zk9 K + 1), ce, de, ke, zse K se 2 (nI p) (nI N)) i0 i1 kp dd tr m)
  refine zq_b [zq_al 0, zq_get 5 3, zq_k 5, zq_imul (nI (N * 5)), zq_is1 4, zq_al 0, zq_get 5 6, zq_il 4, zq_k 0, zq_iadd (nI (N * 5 + 0)), zq_il 1, zq_iast (N * 5 + 0), zq_al 0, zq_get 5 6, zq_il 4, zq_k 1, zq_iadd (nI (N * 5 + 1)), zq_il 2, zq_iast (N * 5 + 1), zq_al 0, zq_get 5 6, zq_il 4, zq_k 2, zq_iadd (nI (N * 5 + 2)), zq_al 0, zq_get 5 1, zq_iast (N * 5 + 2), zq_al 0, zq_get 5 6, zq_il 4, zq_k 3, zq_iadd (nI (N * 5 + 3)), zq_al 0, zq_get 5 5, zq_il 1, zq_iald p (ce p), zq_iast (N * 5 + 3), zq_al 0, zq_get 5 6, zq_il 4, zq_k 4, zq_iadd (nI (N * 5 + 4)), zq_il 3, zq_iast (N * 5 + 4), zq_al 0, zq_dup, zq_get 5 3, zq_k 1, zq_iadd (nI (N + 1)), zq_puti 5 3, zq_il 3] [zq_alchk 0, zq_getchk 5 3, zq_kchk 5, zq_is .imul 1, zq_is1chk 4, zq_alchk 0, zq_getchk 5 6, zq_ilchk 4, zq_kchk 0, zq_is .iadd 1, zq_ilchk 1, zq_is .iastore 1, zq_alchk 0, zq_getchk 5 6, zq_ilchk 4, zq_kchk 1, zq_is .iadd 1, zq_ilchk 2, zq_is .iastore 1, zq_alchk 0, zq_getchk 5 6, zq_ilchk 4, zq_kchk 2, zq_is .iadd 1, zq_alchk 0, zq_getchk 5 1, zq_is .iastore 1, zq_alchk 0, zq_getchk 5 6, zq_ilchk 4, zq_kchk 3, zq_is .iadd 1, zq_alchk 0, zq_getchk 5 5, zq_ilchk 1, zq_is .iaload 1, zq_is .iastore 1, zq_alchk 0, zq_getchk 5 6, zq_ilchk 4, zq_kchk 4, zq_is .iadd 1, zq_ilchk 3, zq_is .iastore 1, zq_alchk 0, zq_is .dup 1, zq_getchk 5 3, zq_kchk 1, zq_is .iadd 1, zq_putchk 5 3 .int, zq_ilchk 3] 96 rfl (by decide +kernel) ?_
  refine ⟨(pk_mul N 5), (nI_add (N * 5) 0), rfl, (by omega), (by omega), (nI_add (N * 5) 1), rfl, (by omega), (by omega), (nI_add (N * 5) 2), rfl, (by omega), (by omega), (nI_add (N * 5) 3), rfl, (by omega), (by omega), rfl, rfl, (by omega), (by omega), (nI_add (N * 5) 4), rfl, (by omega), (by omega), (nI_add N 1), ?_⟩
  show zq_G _ _ _ _ _ 96 ([(0, .ref 15), (1, .int (nI p)), (2, .int x), (3, .int (zbit (zseen C cs D P hs sm cn) (nI p))), (4, .int (nI (N * 5)))], [.int (zbit (zseen C cs D P hs sm cn) (nI p))], XH tx n (nI P, nI C, nI R, nI L, hs, ss, cs, gs, vs) dr rd (nI D, sm, nI (N + 1), nI (zk9 K + 1), ce, upd (upd (upd (upd (upd de (N * 5 + 0) (nI p)) (N * 5 + 1) x) (N * 5 + 2) (nI D)) (N * 5 + 3) (ce p)) (N * 5 + 4) (zbit (zseen C cs D P hs sm cn) (nI p)), ke, zse K se 2 (nI p) (nI N)) i0 i1 kp dd tr m)
  exact zq_iret (by decide +kernel) rfl rfl rfl
set_option maxHeartbeats 4000000 in
set_option maxRecDepth 100000 in
theorem c_passDay  (hD2 : D < 99) (hP : P ≤ 6) (hC : C ≤ 8) (hK : K ≤ 10) (hce : ∀ j, j < P → ce j = nI (cn j) ∧ cn j ≤ 26) : zq_P l mX5_passDay 6 [.ref 15] (XH tx n (nI P, nI C, nI R, nI L, hs, ss, cs, gs, vs) dr rd (nI D, sm, nI N, nI K, ce, de, ke, se) i0 i1 kp dd tr m) none (XH tx n (nI P, nI C, nI R, nI L, hs, ss, cs, gs, vs) dr rd (nI (D + 1), 0, nI N, nI (zk9 K + 1), ce, de, upd ke D (zseen C cs D P hs sm cn), zse K se 3 (-1) sm) i0 i1 kp dd tr m) := by
  refine zq_start (by decide +kernel) rfl (Nat.le_of_ble_eq_true rfl) ?_
  show zq_G _ _ _ _ _ 0 ([(0, .ref 15)], [], XH tx n (nI P, nI C, nI R, nI L, hs, ss, cs, gs, vs) dr rd (nI D, sm, nI N, nI K, ce, de, ke, se) i0 i1 kp dd tr m)
  refine zq_b [zq_al 0, zq_k 3, zq_k (-1), zq_al 0, zq_get 5 2] [zq_alchk 0, zq_kchk 3, zq_kchk (-1), zq_alchk 0, zq_getchk 5 2] 7 rfl (by decide +kernel) ?_
  show zq_G _ _ _ _ _ 7 ([(0, .ref 15)], [.int sm, .int (-1), .int 3, .ref 15], XH tx n (nI P, nI C, nI R, nI L, hs, ss, cs, gs, vs) dr rd (nI D, sm, nI N, nI K, ce, de, ke, se) i0 i1 kp dd tr m)
  refine zq_callV (av := [.int 3, .int (-1), .int sm]) (rest := []) (by decide +kernel) k5_52 (c_remember (x := 3) (y := (-1)) (z := sm) hK) rfl rfl rfl rfl ?_
  show zq_G _ _ _ _ _ 10 ([(0, .ref 15)], [], XH tx n (nI P, nI C, nI R, nI L, hs, ss, cs, gs, vs) dr rd (nI D, sm, nI N, nI (zk9 K + 1), ce, de, ke, zse K se 3 (-1) sm) i0 i1 kp dd tr m)
  refine zq_b [zq_al 0, zq_get 5 7, zq_al 0, zq_get 5 1, zq_al 0] [zq_alchk 0, zq_getchk 5 7, zq_alchk 0, zq_getchk 5 1, zq_alchk 0] 19 rfl (by decide +kernel) ?_
  show zq_G _ _ _ _ _ 19 ([(0, .ref 15)], [.ref 15, .int (nI D), .ref 18], XH tx n (nI P, nI C, nI R, nI L, hs, ss, cs, gs, vs) dr rd (nI D, sm, nI N, nI (zk9 K + 1), ce, de, ke, zse K se 3 (-1) sm) i0 i1 kp dd tr m)
  refine zq_callV (av := []) (rest := [.int (nI D), .ref 18]) (by decide +kernel) k5_56 (c_seen hP hC hce) rfl rfl rfl rfl ?_
  show zq_G _ _ _ _ _ 22 ([(0, .ref 15)], [.int (zseen C cs D P hs sm cn), .int (nI D), .ref 18], XH tx n (nI P, nI C, nI R, nI L, hs, ss, cs, gs, vs) dr rd (nI D, sm, nI N, nI (zk9 K + 1), ce, de, ke, zse K se 3 (-1) sm) i0 i1 kp dd tr m)
  refine zq_b [zq_iast D, zq_al 0, zq_k 0, zq_puti 5 2, zq_al 0, zq_dup, zq_get 5 1, zq_k 1, zq_iadd (nI (D + 1)), zq_puti 5 1] [zq_is .iastore 1, zq_alchk 0, zq_kchk 0, zq_putchk 5 2 .int, zq_alchk 0, zq_is .dup 1, zq_getchk 5 1, zq_kchk 1, zq_is .iadd 1, zq_putchk 5 1 .int] 38 rfl (by decide +kernel) ?_
  refine ⟨rfl, (by omega), (by omega), (nI_add D 1), ?_⟩
  show zq_G _ _ _ _ _ 38 ([(0, .ref 15)], [], XH tx n (nI P, nI C, nI R, nI L, hs, ss, cs, gs, vs) dr rd (nI (D + 1), 0, nI N, nI (zk9 K + 1), ce, de, upd ke D (zseen C cs D P hs sm cn), zse K se 3 (-1) sm) i0 i1 kp dd tr m)
  exact zq_vret (by decide +kernel) rfl rfl rfl
set_option maxHeartbeats 4000000 in
set_option maxRecDepth 100000 in
theorem c_takeBack_0 {q : Nat} (hK1 : 1 ≤ K) (hK : K ≤ 10) (hx : se ((K - 1) * 3) = 0) (hq : se ((K - 1) * 3 + 1) = nI q) (hq6 : q < 6) : zq_P l mX5_takeBack 0 [.ref 15] (XH tx n (nI P, nI C, nI R, nI L, hs, ss, cs, gs, vs) dr rd (nI D, sm, nI N, nI K, ce, de, ke, se) i0 i1 kp dd tr m) none (XH tx n (nI P, nI C, nI R, nI L, hs, ss, cs, gs, vs) dr rd (nI D, sm, nI N, nI (K - 1), upd ce q (se ((K - 1) * 3 + 2)), de, ke, se) i0 i1 kp dd tr m) := by
  refine zq_start (by decide +kernel) rfl (Nat.le_of_ble_eq_true rfl) ?_
  show zq_G _ _ _ _ _ 0 ([(0, .ref 15)], [], XH tx n (nI P, nI C, nI R, nI L, hs, ss, cs, gs, vs) dr rd (nI D, sm, nI N, nI K, ce, de, ke, se) i0 i1 kp dd tr m)
  refine zq_b [zq_al 0, zq_dup, zq_get 5 4, zq_k 1, zq_isub (nI (K - 1)), zq_puti 5 4, zq_al 0, zq_get 5 4, zq_k 3, zq_imul (nI ((K - 1) * 3)), zq_is1 1, zq_al 0, zq_get 5 8, zq_il 1, zq_k 2, zq_iadd (nI (((K - 1) * 3) + 2)), zq_iald (((K - 1) * 3) + 2) (se (((K - 1) * 3) + 2)), zq_is1 2, zq_al 0, zq_get 5 8, zq_il 1, zq_iald ((K - 1) * 3) 0] [zq_alchk 0, zq_is .dup 1, zq_getchk 5 4, zq_kchk 1, zq_is .isub 1, zq_putchk 5 4 .int, zq_alchk 0, zq_getchk 5 4, zq_kchk 3, zq_is .imul 1, zq_is1chk 1, zq_alchk 0, zq_getchk 5 8, zq_ilchk 1, zq_kchk 2, zq_is .iadd 1, zq_is .iaload 1, zq_is1chk 2, zq_alchk 0, zq_getchk 5 8, zq_ilchk 1, zq_is .iaload 1] 32 rfl (by decide +kernel) ?_
  refine ⟨(pk_sub (a := K) (b := 1) (by omega)), (pk_mul (K - 1) 3), (nI_add ((K - 1) * 3) 2), rfl, (by omega), (by omega), rfl, rfl, (by omega), (by omega), hx, ?_⟩
  show zq_G _ _ _ _ _ 32 ([(0, .ref 15), (1, .int (nI ((K - 1) * 3))), (2, .int (se (((K - 1) * 3) + 2)))], [.int 0], XH tx n (nI P, nI C, nI R, nI L, hs, ss, cs, gs, vs) dr rd (nI D, sm, nI N, nI (K - 1), ce, de, ke, se) i0 i1 kp dd tr m)
  refine zq_swc [(0, 60), (1, 77), (2, 85)] 93 (by decide +kernel) ⟨fun _ => ?_, fun c => absurd c (by decide), fun c => absurd c (by decide), trivial⟩ (fun c => absurd (by decide) c.1)
  show zq_G _ _ _ _ _ 60 ([(0, .ref 15), (1, .int (nI ((K - 1) * 3))), (2, .int (se (((K - 1) * 3) + 2)))], [], XH tx n (nI P, nI C, nI R, nI L, hs, ss, cs, gs, vs) dr rd (nI D, sm, nI N, nI (K - 1), ce, de, ke, se) i0 i1 kp dd tr m)
  refine zq_b [zq_al 0, zq_get 5 5, zq_al 0, zq_get 5 8, zq_il 1, zq_k 1, zq_iadd (nI (((K - 1) * 3) + 1)), zq_iald (((K - 1) * 3) + 1) (nI q), zq_il 2, zq_iast q, zq_go] [zq_alchk 0, zq_getchk 5 5, zq_alchk 0, zq_getchk 5 8, zq_ilchk 1, zq_kchk 1, zq_is .iadd 1, zq_is .iaload 1, zq_ilchk 2, zq_is .iastore 1, zq_gochk] 108 rfl (by decide +kernel) ?_
  refine ⟨(nI_add ((K - 1) * 3) 1), rfl, (by omega), (by omega), hq, rfl, (by omega), (by omega), ?_⟩
  show zq_G _ _ _ _ _ 108 ([(0, .ref 15), (1, .int (nI ((K - 1) * 3))), (2, .int (se (((K - 1) * 3) + 2)))], [], XH tx n (nI P, nI C, nI R, nI L, hs, ss, cs, gs, vs) dr rd (nI D, sm, nI N, nI (K - 1), upd ce q (se (((K - 1) * 3) + 2)), de, ke, se) i0 i1 kp dd tr m)
  exact zq_vret (by decide +kernel) rfl rfl rfl
set_option maxHeartbeats 4000000 in
set_option maxRecDepth 100000 in
theorem c_takeBack_1  (hK1 : 1 ≤ K) (hK : K ≤ 10) (hx : se ((K - 1) * 3) = 1) : zq_P l mX5_takeBack 0 [.ref 15] (XH tx n (nI P, nI C, nI R, nI L, hs, ss, cs, gs, vs) dr rd (nI D, sm, nI N, nI K, ce, de, ke, se) i0 i1 kp dd tr m) none (XH tx n (nI P, nI C, nI R, nI L, hs, ss, cs, gs, vs) dr rd (nI D, se ((K - 1) * 3 + 2), nI N, nI (K - 1), ce, de, ke, se) i0 i1 kp dd tr m) := by
  refine zq_start (by decide +kernel) rfl (Nat.le_of_ble_eq_true rfl) ?_
  show zq_G _ _ _ _ _ 0 ([(0, .ref 15)], [], XH tx n (nI P, nI C, nI R, nI L, hs, ss, cs, gs, vs) dr rd (nI D, sm, nI N, nI K, ce, de, ke, se) i0 i1 kp dd tr m)
  refine zq_b [zq_al 0, zq_dup, zq_get 5 4, zq_k 1, zq_isub (nI (K - 1)), zq_puti 5 4, zq_al 0, zq_get 5 4, zq_k 3, zq_imul (nI ((K - 1) * 3)), zq_is1 1, zq_al 0, zq_get 5 8, zq_il 1, zq_k 2, zq_iadd (nI (((K - 1) * 3) + 2)), zq_iald (((K - 1) * 3) + 2) (se (((K - 1) * 3) + 2)), zq_is1 2, zq_al 0, zq_get 5 8, zq_il 1, zq_iald ((K - 1) * 3) 1] [zq_alchk 0, zq_is .dup 1, zq_getchk 5 4, zq_kchk 1, zq_is .isub 1, zq_putchk 5 4 .int, zq_alchk 0, zq_getchk 5 4, zq_kchk 3, zq_is .imul 1, zq_is1chk 1, zq_alchk 0, zq_getchk 5 8, zq_ilchk 1, zq_kchk 2, zq_is .iadd 1, zq_is .iaload 1, zq_is1chk 2, zq_alchk 0, zq_getchk 5 8, zq_ilchk 1, zq_is .iaload 1] 32 rfl (by decide +kernel) ?_
  refine ⟨(pk_sub (a := K) (b := 1) (by omega)), (pk_mul (K - 1) 3), (nI_add ((K - 1) * 3) 2), rfl, (by omega), (by omega), rfl, rfl, (by omega), (by omega), hx, ?_⟩
  show zq_G _ _ _ _ _ 32 ([(0, .ref 15), (1, .int (nI ((K - 1) * 3))), (2, .int (se (((K - 1) * 3) + 2)))], [.int 1], XH tx n (nI P, nI C, nI R, nI L, hs, ss, cs, gs, vs) dr rd (nI D, sm, nI N, nI (K - 1), ce, de, ke, se) i0 i1 kp dd tr m)
  refine zq_swc [(0, 60), (1, 77), (2, 85)] 93 (by decide +kernel) ⟨fun c => absurd c (by decide), fun _ => ?_, fun c => absurd c (by decide), trivial⟩ (fun c => absurd (by decide) c.2.1)
  show zq_G _ _ _ _ _ 77 ([(0, .ref 15), (1, .int (nI ((K - 1) * 3))), (2, .int (se (((K - 1) * 3) + 2)))], [], XH tx n (nI P, nI C, nI R, nI L, hs, ss, cs, gs, vs) dr rd (nI D, sm, nI N, nI (K - 1), ce, de, ke, se) i0 i1 kp dd tr m)
  refine zq_b [zq_al 0, zq_il 2, zq_puti 5 2, zq_go] [zq_alchk 0, zq_ilchk 2, zq_putchk 5 2 .int, zq_gochk] 108 rfl (by decide +kernel) ?_
  show zq_G _ _ _ _ _ 108 ([(0, .ref 15), (1, .int (nI ((K - 1) * 3))), (2, .int (se (((K - 1) * 3) + 2)))], [], XH tx n (nI P, nI C, nI R, nI L, hs, ss, cs, gs, vs) dr rd (nI D, se (((K - 1) * 3) + 2), nI N, nI (K - 1), ce, de, ke, se) i0 i1 kp dd tr m)
  exact zq_vret (by decide +kernel) rfl rfl rfl
set_option maxHeartbeats 4000000 in
set_option maxRecDepth 100000 in
theorem c_takeBack_2 {q : Nat} (hK1 : 1 ≤ K) (hK : K ≤ 10) (hx : se ((K - 1) * 3) = 2) (hq : se ((K - 1) * 3 + 2) = nI q) : zq_P l mX5_takeBack 0 [.ref 15] (XH tx n (nI P, nI C, nI R, nI L, hs, ss, cs, gs, vs) dr rd (nI D, sm, nI N, nI K, ce, de, ke, se) i0 i1 kp dd tr m) none (XH tx n (nI P, nI C, nI R, nI L, hs, ss, cs, gs, vs) dr rd (nI D, sm, nI q, nI (K - 1), ce, de, ke, se) i0 i1 kp dd tr m) := by
  refine zq_start (by decide +kernel) rfl (Nat.le_of_ble_eq_true rfl) ?_
  show zq_G _ _ _ _ _ 0 ([(0, .ref 15)], [], XH tx n (nI P, nI C, nI R, nI L, hs, ss, cs, gs, vs) dr rd (nI D, sm, nI N, nI K, ce, de, ke, se) i0 i1 kp dd tr m)
  refine zq_b [zq_al 0, zq_dup, zq_get 5 4, zq_k 1, zq_isub (nI (K - 1)), zq_puti 5 4, zq_al 0, zq_get 5 4, zq_k 3, zq_imul (nI ((K - 1) * 3)), zq_is1 1, zq_al 0, zq_get 5 8, zq_il 1, zq_k 2, zq_iadd (nI (((K - 1) * 3) + 2)), zq_iald (((K - 1) * 3) + 2) (nI q), zq_is1 2, zq_al 0, zq_get 5 8, zq_il 1, zq_iald ((K - 1) * 3) 2] [zq_alchk 0, zq_is .dup 1, zq_getchk 5 4, zq_kchk 1, zq_is .isub 1, zq_putchk 5 4 .int, zq_alchk 0, zq_getchk 5 4, zq_kchk 3, zq_is .imul 1, zq_is1chk 1, zq_alchk 0, zq_getchk 5 8, zq_ilchk 1, zq_kchk 2, zq_is .iadd 1, zq_is .iaload 1, zq_is1chk 2, zq_alchk 0, zq_getchk 5 8, zq_ilchk 1, zq_is .iaload 1] 32 rfl (by decide +kernel) ?_
  refine ⟨(pk_sub (a := K) (b := 1) (by omega)), (pk_mul (K - 1) 3), (nI_add ((K - 1) * 3) 2), rfl, (by omega), (by omega), hq, rfl, (by omega), (by omega), hx, ?_⟩
  show zq_G _ _ _ _ _ 32 ([(0, .ref 15), (1, .int (nI ((K - 1) * 3))), (2, .int (nI q))], [.int 2], XH tx n (nI P, nI C, nI R, nI L, hs, ss, cs, gs, vs) dr rd (nI D, sm, nI N, nI (K - 1), ce, de, ke, se) i0 i1 kp dd tr m)
  refine zq_swc [(0, 60), (1, 77), (2, 85)] 93 (by decide +kernel) ⟨fun c => absurd c (by decide), fun c => absurd c (by decide), fun _ => ?_, trivial⟩ (fun c => absurd (by decide) c.2.2.1)
  show zq_G _ _ _ _ _ 85 ([(0, .ref 15), (1, .int (nI ((K - 1) * 3))), (2, .int (nI q))], [], XH tx n (nI P, nI C, nI R, nI L, hs, ss, cs, gs, vs) dr rd (nI D, sm, nI N, nI (K - 1), ce, de, ke, se) i0 i1 kp dd tr m)
  refine zq_b [zq_al 0, zq_il 2, zq_puti 5 3, zq_go] [zq_alchk 0, zq_ilchk 2, zq_putchk 5 3 .int, zq_gochk] 108 rfl (by decide +kernel) ?_
  show zq_G _ _ _ _ _ 108 ([(0, .ref 15), (1, .int (nI ((K - 1) * 3))), (2, .int (nI q))], [], XH tx n (nI P, nI C, nI R, nI L, hs, ss, cs, gs, vs) dr rd (nI D, sm, nI q, nI (K - 1), ce, de, ke, se) i0 i1 kp dd tr m)
  exact zq_vret (by decide +kernel) rfl rfl rfl
set_option maxHeartbeats 4000000 in
set_option maxRecDepth 100000 in
theorem c_takeBack_3  (hK1 : 1 ≤ K) (hK : K ≤ 10) (hx : se ((K - 1) * 3) = 3) (hD1 : 1 ≤ D) : zq_P l mX5_takeBack 0 [.ref 15] (XH tx n (nI P, nI C, nI R, nI L, hs, ss, cs, gs, vs) dr rd (nI D, sm, nI N, nI K, ce, de, ke, se) i0 i1 kp dd tr m) none (XH tx n (nI P, nI C, nI R, nI L, hs, ss, cs, gs, vs) dr rd (nI (D - 1), se ((K - 1) * 3 + 2), nI N, nI (K - 1), ce, de, ke, se) i0 i1 kp dd tr m) := by
  refine zq_start (by decide +kernel) rfl (Nat.le_of_ble_eq_true rfl) ?_
  show zq_G _ _ _ _ _ 0 ([(0, .ref 15)], [], XH tx n (nI P, nI C, nI R, nI L, hs, ss, cs, gs, vs) dr rd (nI D, sm, nI N, nI K, ce, de, ke, se) i0 i1 kp dd tr m)
  refine zq_b [zq_al 0, zq_dup, zq_get 5 4, zq_k 1, zq_isub (nI (K - 1)), zq_puti 5 4, zq_al 0, zq_get 5 4, zq_k 3, zq_imul (nI ((K - 1) * 3)), zq_is1 1, zq_al 0, zq_get 5 8, zq_il 1, zq_k 2, zq_iadd (nI (((K - 1) * 3) + 2)), zq_iald (((K - 1) * 3) + 2) (se (((K - 1) * 3) + 2)), zq_is1 2, zq_al 0, zq_get 5 8, zq_il 1, zq_iald ((K - 1) * 3) 3] [zq_alchk 0, zq_is .dup 1, zq_getchk 5 4, zq_kchk 1, zq_is .isub 1, zq_putchk 5 4 .int, zq_alchk 0, zq_getchk 5 4, zq_kchk 3, zq_is .imul 1, zq_is1chk 1, zq_alchk 0, zq_getchk 5 8, zq_ilchk 1, zq_kchk 2, zq_is .iadd 1, zq_is .iaload 1, zq_is1chk 2, zq_alchk 0, zq_getchk 5 8, zq_ilchk 1, zq_is .iaload 1] 32 rfl (by decide +kernel) ?_
  refine ⟨(pk_sub (a := K) (b := 1) (by omega)), (pk_mul (K - 1) 3), (nI_add ((K - 1) * 3) 2), rfl, (by omega), (by omega), rfl, rfl, (by omega), (by omega), hx, ?_⟩
  show zq_G _ _ _ _ _ 32 ([(0, .ref 15), (1, .int (nI ((K - 1) * 3))), (2, .int (se (((K - 1) * 3) + 2)))], [.int 3], XH tx n (nI P, nI C, nI R, nI L, hs, ss, cs, gs, vs) dr rd (nI D, sm, nI N, nI (K - 1), ce, de, ke, se) i0 i1 kp dd tr m)
  refine zq_swc [(0, 60), (1, 77), (2, 85)] 93 (by decide +kernel) ⟨fun c => absurd c (by decide), fun c => absurd c (by decide), fun c => absurd c (by decide), trivial⟩ (fun _ => ?_)
  show zq_G _ _ _ _ _ 93 ([(0, .ref 15), (1, .int (nI ((K - 1) * 3))), (2, .int (se (((K - 1) * 3) + 2)))], [], XH tx n (nI P, nI C, nI R, nI L, hs, ss, cs, gs, vs) dr rd (nI D, sm, nI N, nI (K - 1), ce, de, ke, se) i0 i1 kp dd tr m)
  refine zq_b [zq_al 0, zq_il 2, zq_puti 5 2, zq_al 0, zq_dup, zq_get 5 1, zq_k 1, zq_isub (nI (D - 1)), zq_puti 5 1] [zq_alchk 0, zq_ilchk 2, zq_putchk 5 2 .int, zq_alchk 0, zq_is .dup 1, zq_getchk 5 1, zq_kchk 1, zq_is .isub 1, zq_putchk 5 1 .int] 108 rfl (by decide +kernel) ?_
  refine ⟨(pk_sub (a := D) (b := 1) (by omega)), ?_⟩
  show zq_G _ _ _ _ _ 108 ([(0, .ref 15), (1, .int (nI ((K - 1) * 3))), (2, .int (se (((K - 1) * 3) + 2)))], [], XH tx n (nI P, nI C, nI R, nI L, hs, ss, cs, gs, vs) dr rd (nI (D - 1), se (((K - 1) * 3) + 2), nI N, nI (K - 1), ce, de, ke, se) i0 i1 kp dd tr m)
  exact zq_vret (by decide +kernel) rfl rfl rfl
set_option maxHeartbeats 4000000 in
set_option maxRecDepth 100000 in
theorem c_actsAcross_g {x : Int32} (hR : R ≤ 6) : zq_P l mX9_actsAcross 1 [.ref 2, .int x, .ref 7, .ref 6] (XH tx n (nI P, nI C, nI R, nI L, hs, ss, cs, gs, vs) dr rd (nI D, sm, nI N, nI K, ce, de, ke, se) i0 i1 kp dd tr m) (some (.int (zac x vs gs R))) (XH tx n (nI P, nI C, nI R, nI L, hs, ss, cs, gs, vs) dr rd (nI D, sm, nI N, nI K, ce, de, ke, se) i0 i1 kp dd tr m) := by
  refine zq_start (by decide +kernel) rfl (Nat.le_of_ble_eq_true rfl) ?_
  show zq_G _ _ _ _ _ 0 ([(0, .ref 2), (1, .int x), (2, .ref 7), (3, .ref 6)], [], XH tx n (nI P, nI C, nI R, nI L, hs, ss, cs, gs, vs) dr rd (nI D, sm, nI N, nI K, ce, de, ke, se) i0 i1 kp dd tr m)
  refine zq_b [zq_k 0, zq_is1 4, zq_k 0, zq_is1 5] [zq_kchk 0, zq_is1chk 4, zq_kchk 0, zq_is1chk 5] 6 rfl (by decide +kernel) ?_
  show zq_G _ _ _ _ _ 6 ([(0, .ref 2), (1, .int x), (2, .ref 7), (3, .ref 6), (4, .int 0), (5, .int 0)], [], XH tx n (nI P, nI C, nI R, nI L, hs, ss, cs, gs, vs) dr rd (nI D, sm, nI N, nI K, ce, de, ke, se) i0 i1 kp dd tr m)
  refine zq_loop (fun i => ([(0, .ref 2), (1, .int x), (2, .ref 7), (3, .ref 6), (4, .int (zac x vs gs i)), (5, .int (nI i))], [], XH tx n (nI P, nI C, nI R, nI L, hs, ss, cs, gs, vs) dr rd (nI D, sm, nI N, nI K, ce, de, ke, se) i0 i1 kp dd tr m)) (fun i => True) (R) (0) (by omega) (trivial) (fun i hl6 hi6 hI6 ih6 => ?_) (fun hI6 => ?_)
  · show zq_G _ _ _ _ _ 6 ([(0, .ref 2), (1, .int x), (2, .ref 7), (3, .ref 6), (4, .int (zac x vs gs i)), (5, .int (nI i))], [], XH tx n (nI P, nI C, nI R, nI L, hs, ss, cs, gs, vs) dr rd (nI D, sm, nI N, nI K, ce, de, ke, se) i0 i1 kp dd tr m)
    refine zq_b [zq_il 5, zq_al 0, zq_get 9 2] [zq_ilchk 5, zq_alchk 0, zq_getchk 9 2] 12 rfl (by decide +kernel) ?_
    show zq_G _ _ _ _ _ 12 ([(0, .ref 2), (1, .int x), (2, .ref 7), (3, .ref 6), (4, .int (zac x vs gs i)), (5, .int (nI i))], [.int (nI R), .int (nI i)], XH tx n (nI P, nI C, nI R, nI L, hs, ss, cs, gs, vs) dr rd (nI D, sm, nI N, nI K, ce, de, ke, se) i0 i1 kp dd tr m)
    refine zq_if .ge 44 (R ≤ i) (by decide +kernel) (zq_cge (a := i) (b := R) (by omega) (by omega)) (fun c12 => absurd c12 (by omega)) (fun c12 => ?_)
    show zq_G _ _ _ _ _ 15 ([(0, .ref 2), (1, .int x), (2, .ref 7), (3, .ref 6), (4, .int (zac x vs gs i)), (5, .int (nI i))], [], XH tx n (nI P, nI C, nI R, nI L, hs, ss, cs, gs, vs) dr rd (nI D, sm, nI N, nI K, ce, de, ke, se) i0 i1 kp dd tr m)
    refine zq_b [zq_il 1, zq_al 2, zq_il 5, zq_iald i (vs i)] [zq_ilchk 1, zq_alchk 2, zq_ilchk 5, zq_is .iaload 1] 20 rfl (by decide +kernel) ?_
    refine ⟨rfl, (by omega), (by omega), rfl, ?_⟩
    show zq_G _ _ _ _ _ 20 ([(0, .ref 2), (1, .int x), (2, .ref 7), (3, .ref 6), (4, .int (zac x vs gs i)), (5, .int (nI i))], [.int (vs i), .int x], XH tx n (nI P, nI C, nI R, nI L, hs, ss, cs, gs, vs) dr rd (nI D, sm, nI N, nI K, ce, de, ke, se) i0 i1 kp dd tr m)
    refine zq_callN (av := [.int x, .int (vs i)]) (rest := []) (by decide +kernel) k9_50 (c_bit (x := x) (p := (vs i))) rfl rfl ?_
    show zq_G _ _ _ _ _ 23 ([(0, .ref 2), (1, .int x), (2, .ref 7), (3, .ref 6), (4, .int (zac x vs gs i)), (5, .int (nI i))], [.int (zbit x (vs i))], XH tx n (nI P, nI C, nI R, nI L, hs, ss, cs, gs, vs) dr rd (nI D, sm, nI N, nI K, ce, de, ke, se) i0 i1 kp dd tr m)
    refine zq_b [zq_k 1] [zq_kchk 1] 24 rfl (by decide +kernel) ?_
    show zq_G _ _ _ _ _ 24 ([(0, .ref 2), (1, .int x), (2, .ref 7), (3, .ref 6), (4, .int (zac x vs gs i)), (5, .int (nI i))], [.int 1, .int (zbit x (vs i))], XH tx n (nI P, nI C, nI R, nI L, hs, ss, cs, gs, vs) dr rd (nI D, sm, nI N, nI K, ce, de, ke, se) i0 i1 kp dd tr m)
    refine zq_if .ne 38 (¬ (zbit x (vs i)) = 1) (by decide +kernel) (Iff.rfl) (fun c24 => ?_) (fun c24 => ?_)
    · show zq_G _ _ _ _ _ 38 ([(0, .ref 2), (1, .int x), (2, .ref 7), (3, .ref 6), (4, .int (zac x vs gs i)), (5, .int (nI i))], [], XH tx n (nI P, nI C, nI R, nI L, hs, ss, cs, gs, vs) dr rd (nI D, sm, nI N, nI K, ce, de, ke, se) i0 i1 kp dd tr m)
      refine zq_b [zq_inc 5 1 (nI (i + 1)), zq_go] [zq_incchk 5 1, zq_gochk] 6 rfl (by decide +kernel) ?_
      refine ⟨nI_add i 1, ?_⟩
      show zq_G _ _ _ _ _ 6 ([(0, .ref 2), (1, .int x), (2, .ref 7), (3, .ref 6), (4, .int (zac x vs gs i)), (5, .int (nI (i + 1)))], [], XH tx n (nI P, nI C, nI R, nI L, hs, ss, cs, gs, vs) dr rd (nI D, sm, nI N, nI K, ce, de, ke, se) i0 i1 kp dd tr m)
      exact zq_eq (by rw [zac_f c24]) (ih6 trivial)
    · show zq_G _ _ _ _ _ 27 ([(0, .ref 2), (1, .int x), (2, .ref 7), (3, .ref 6), (4, .int (zac x vs gs i)), (5, .int (nI i))], [], XH tx n (nI P, nI C, nI R, nI L, hs, ss, cs, gs, vs) dr rd (nI D, sm, nI N, nI K, ce, de, ke, se) i0 i1 kp dd tr m)
      refine zq_b [zq_il 4, zq_k 1, zq_al 3, zq_il 5, zq_iald i (gs i), zq_ishl (1 <<< (gs i &&& 31)), zq_ior ((zac x vs gs i) ||| (1 <<< (gs i &&& 31))), zq_is1 4, zq_inc 5 1 (nI (i + 1)), zq_go] [zq_ilchk 4, zq_kchk 1, zq_alchk 3, zq_ilchk 5, zq_is .iaload 1, zq_is .ishl 1, zq_is .ior 1, zq_is1chk 4, zq_incchk 5 1, zq_gochk] 6 rfl (by decide +kernel) ?_
      refine ⟨rfl, (by omega), (by omega), rfl, rfl, rfl, nI_add i 1, ?_⟩
      show zq_G _ _ _ _ _ 6 ([(0, .ref 2), (1, .int x), (2, .ref 7), (3, .ref 6), (4, .int ((zac x vs gs i) ||| (1 <<< (gs i &&& 31)))), (5, .int (nI (i + 1)))], [], XH tx n (nI P, nI C, nI R, nI L, hs, ss, cs, gs, vs) dr rd (nI D, sm, nI N, nI K, ce, de, ke, se) i0 i1 kp dd tr m)
      exact zq_eq (by rw [zac_t (Decidable.not_not.mp c24)]) (ih6 trivial)
  · show zq_G _ _ _ _ _ 6 ([(0, .ref 2), (1, .int x), (2, .ref 7), (3, .ref 6), (4, .int (zac x vs gs R)), (5, .int (nI R))], [], XH tx n (nI P, nI C, nI R, nI L, hs, ss, cs, gs, vs) dr rd (nI D, sm, nI N, nI K, ce, de, ke, se) i0 i1 kp dd tr m)
    refine zq_b [zq_il 5, zq_al 0, zq_get 9 2] [zq_ilchk 5, zq_alchk 0, zq_getchk 9 2] 12 rfl (by decide +kernel) ?_
    show zq_G _ _ _ _ _ 12 ([(0, .ref 2), (1, .int x), (2, .ref 7), (3, .ref 6), (4, .int (zac x vs gs R)), (5, .int (nI R))], [.int (nI R), .int (nI R)], XH tx n (nI P, nI C, nI R, nI L, hs, ss, cs, gs, vs) dr rd (nI D, sm, nI N, nI K, ce, de, ke, se) i0 i1 kp dd tr m)
    refine zq_if .ge 44 (R ≤ R) (by decide +kernel) (zq_cge (a := R) (b := R) (by omega) (by omega)) (fun c12 => ?_) (fun c12 => absurd (by omega) c12)
    show zq_G _ _ _ _ _ 44 ([(0, .ref 2), (1, .int x), (2, .ref 7), (3, .ref 6), (4, .int (zac x vs gs R)), (5, .int (nI R))], [], XH tx n (nI P, nI C, nI R, nI L, hs, ss, cs, gs, vs) dr rd (nI D, sm, nI N, nI K, ce, de, ke, se) i0 i1 kp dd tr m)
    refine zq_b [zq_il 4] [zq_ilchk 4] 46 rfl (by decide +kernel) ?_
    show zq_G _ _ _ _ _ 46 ([(0, .ref 2), (1, .int x), (2, .ref 7), (3, .ref 6), (4, .int (zac x vs gs R)), (5, .int (nI R))], [.int (zac x vs gs R)], XH tx n (nI P, nI C, nI R, nI L, hs, ss, cs, gs, vs) dr rd (nI D, sm, nI N, nI K, ce, de, ke, se) i0 i1 kp dd tr m)
    exact zq_iret (by decide +kernel) rfl rfl rfl
set_option maxHeartbeats 4000000 in
set_option maxRecDepth 100000 in
theorem c_actsGiving {x : Int32} (hR : R ≤ 6) : zq_P l mX9_actsGiving 2 [.ref 2, .int x] (XH tx n (nI P, nI C, nI R, nI L, hs, ss, cs, gs, vs) dr rd (nI D, sm, nI N, nI K, ce, de, ke, se) i0 i1 kp dd tr m) (some (.int (zac x vs gs R))) (XH tx n (nI P, nI C, nI R, nI L, hs, ss, cs, gs, vs) dr rd (nI D, sm, nI N, nI K, ce, de, ke, se) i0 i1 kp dd tr m) := by
  refine zq_start (by decide +kernel) rfl (Nat.le_of_ble_eq_true rfl) ?_
  show zq_G _ _ _ _ _ 0 ([(0, .ref 2), (1, .int x)], [], XH tx n (nI P, nI C, nI R, nI L, hs, ss, cs, gs, vs) dr rd (nI D, sm, nI N, nI K, ce, de, ke, se) i0 i1 kp dd tr m)
  refine zq_b [zq_al 0, zq_il 1, zq_al 0, zq_get 9 8, zq_al 0, zq_get 9 7] [zq_alchk 0, zq_ilchk 1, zq_alchk 0, zq_getchk 9 8, zq_alchk 0, zq_getchk 9 7] 10 rfl (by decide +kernel) ?_
  show zq_G _ _ _ _ _ 10 ([(0, .ref 2), (1, .int x)], [.ref 6, .ref 7, .int x, .ref 2], XH tx n (nI P, nI C, nI R, nI L, hs, ss, cs, gs, vs) dr rd (nI D, sm, nI N, nI K, ce, de, ke, se) i0 i1 kp dd tr m)
  refine zq_callV (av := [.int x, .ref 7, .ref 6]) (rest := []) (by decide +kernel) k9_46 (c_actsAcross_g (x := x) hR) rfl rfl rfl rfl ?_
  show zq_G _ _ _ _ _ 13 ([(0, .ref 2), (1, .int x)], [.int (zac x vs gs R)], XH tx n (nI P, nI C, nI R, nI L, hs, ss, cs, gs, vs) dr rd (nI D, sm, nI N, nI K, ce, de, ke, se) i0 i1 kp dd tr m)
  exact zq_iret (by decide +kernel) rfl rfl rfl
set_option maxHeartbeats 4000000 in
set_option maxRecDepth 100000 in
theorem c_actsAcross_v {x : Int32} (hR : R ≤ 6) : zq_P l mX9_actsAcross 1 [.ref 2, .int x, .ref 6, .ref 7] (XH tx n (nI P, nI C, nI R, nI L, hs, ss, cs, gs, vs) dr rd (nI D, sm, nI N, nI K, ce, de, ke, se) i0 i1 kp dd tr m) (some (.int (zac x gs vs R))) (XH tx n (nI P, nI C, nI R, nI L, hs, ss, cs, gs, vs) dr rd (nI D, sm, nI N, nI K, ce, de, ke, se) i0 i1 kp dd tr m) := by
  refine zq_start (by decide +kernel) rfl (Nat.le_of_ble_eq_true rfl) ?_
  show zq_G _ _ _ _ _ 0 ([(0, .ref 2), (1, .int x), (2, .ref 6), (3, .ref 7)], [], XH tx n (nI P, nI C, nI R, nI L, hs, ss, cs, gs, vs) dr rd (nI D, sm, nI N, nI K, ce, de, ke, se) i0 i1 kp dd tr m)
  refine zq_b [zq_k 0, zq_is1 4, zq_k 0, zq_is1 5] [zq_kchk 0, zq_is1chk 4, zq_kchk 0, zq_is1chk 5] 6 rfl (by decide +kernel) ?_
  show zq_G _ _ _ _ _ 6 ([(0, .ref 2), (1, .int x), (2, .ref 6), (3, .ref 7), (4, .int 0), (5, .int 0)], [], XH tx n (nI P, nI C, nI R, nI L, hs, ss, cs, gs, vs) dr rd (nI D, sm, nI N, nI K, ce, de, ke, se) i0 i1 kp dd tr m)
  refine zq_loop (fun i => ([(0, .ref 2), (1, .int x), (2, .ref 6), (3, .ref 7), (4, .int (zac x gs vs i)), (5, .int (nI i))], [], XH tx n (nI P, nI C, nI R, nI L, hs, ss, cs, gs, vs) dr rd (nI D, sm, nI N, nI K, ce, de, ke, se) i0 i1 kp dd tr m)) (fun i => True) (R) (0) (by omega) (trivial) (fun i hl6 hi6 hI6 ih6 => ?_) (fun hI6 => ?_)
  · show zq_G _ _ _ _ _ 6 ([(0, .ref 2), (1, .int x), (2, .ref 6), (3, .ref 7), (4, .int (zac x gs vs i)), (5, .int (nI i))], [], XH tx n (nI P, nI C, nI R, nI L, hs, ss, cs, gs, vs) dr rd (nI D, sm, nI N, nI K, ce, de, ke, se) i0 i1 kp dd tr m)
    refine zq_b [zq_il 5, zq_al 0, zq_get 9 2] [zq_ilchk 5, zq_alchk 0, zq_getchk 9 2] 12 rfl (by decide +kernel) ?_
    show zq_G _ _ _ _ _ 12 ([(0, .ref 2), (1, .int x), (2, .ref 6), (3, .ref 7), (4, .int (zac x gs vs i)), (5, .int (nI i))], [.int (nI R), .int (nI i)], XH tx n (nI P, nI C, nI R, nI L, hs, ss, cs, gs, vs) dr rd (nI D, sm, nI N, nI K, ce, de, ke, se) i0 i1 kp dd tr m)
    refine zq_if .ge 44 (R ≤ i) (by decide +kernel) (zq_cge (a := i) (b := R) (by omega) (by omega)) (fun c12 => absurd c12 (by omega)) (fun c12 => ?_)
    show zq_G _ _ _ _ _ 15 ([(0, .ref 2), (1, .int x), (2, .ref 6), (3, .ref 7), (4, .int (zac x gs vs i)), (5, .int (nI i))], [], XH tx n (nI P, nI C, nI R, nI L, hs, ss, cs, gs, vs) dr rd (nI D, sm, nI N, nI K, ce, de, ke, se) i0 i1 kp dd tr m)
    refine zq_b [zq_il 1, zq_al 2, zq_il 5, zq_iald i (gs i)] [zq_ilchk 1, zq_alchk 2, zq_ilchk 5, zq_is .iaload 1] 20 rfl (by decide +kernel) ?_
    refine ⟨rfl, (by omega), (by omega), rfl, ?_⟩
    show zq_G _ _ _ _ _ 20 ([(0, .ref 2), (1, .int x), (2, .ref 6), (3, .ref 7), (4, .int (zac x gs vs i)), (5, .int (nI i))], [.int (gs i), .int x], XH tx n (nI P, nI C, nI R, nI L, hs, ss, cs, gs, vs) dr rd (nI D, sm, nI N, nI K, ce, de, ke, se) i0 i1 kp dd tr m)
    refine zq_callN (av := [.int x, .int (gs i)]) (rest := []) (by decide +kernel) k9_50 (c_bit (x := x) (p := (gs i))) rfl rfl ?_
    show zq_G _ _ _ _ _ 23 ([(0, .ref 2), (1, .int x), (2, .ref 6), (3, .ref 7), (4, .int (zac x gs vs i)), (5, .int (nI i))], [.int (zbit x (gs i))], XH tx n (nI P, nI C, nI R, nI L, hs, ss, cs, gs, vs) dr rd (nI D, sm, nI N, nI K, ce, de, ke, se) i0 i1 kp dd tr m)
    refine zq_b [zq_k 1] [zq_kchk 1] 24 rfl (by decide +kernel) ?_
    show zq_G _ _ _ _ _ 24 ([(0, .ref 2), (1, .int x), (2, .ref 6), (3, .ref 7), (4, .int (zac x gs vs i)), (5, .int (nI i))], [.int 1, .int (zbit x (gs i))], XH tx n (nI P, nI C, nI R, nI L, hs, ss, cs, gs, vs) dr rd (nI D, sm, nI N, nI K, ce, de, ke, se) i0 i1 kp dd tr m)
    refine zq_if .ne 38 (¬ (zbit x (gs i)) = 1) (by decide +kernel) (Iff.rfl) (fun c24 => ?_) (fun c24 => ?_)
    · show zq_G _ _ _ _ _ 38 ([(0, .ref 2), (1, .int x), (2, .ref 6), (3, .ref 7), (4, .int (zac x gs vs i)), (5, .int (nI i))], [], XH tx n (nI P, nI C, nI R, nI L, hs, ss, cs, gs, vs) dr rd (nI D, sm, nI N, nI K, ce, de, ke, se) i0 i1 kp dd tr m)
      refine zq_b [zq_inc 5 1 (nI (i + 1)), zq_go] [zq_incchk 5 1, zq_gochk] 6 rfl (by decide +kernel) ?_
      refine ⟨nI_add i 1, ?_⟩
      show zq_G _ _ _ _ _ 6 ([(0, .ref 2), (1, .int x), (2, .ref 6), (3, .ref 7), (4, .int (zac x gs vs i)), (5, .int (nI (i + 1)))], [], XH tx n (nI P, nI C, nI R, nI L, hs, ss, cs, gs, vs) dr rd (nI D, sm, nI N, nI K, ce, de, ke, se) i0 i1 kp dd tr m)
      exact zq_eq (by rw [zac_f c24]) (ih6 trivial)
    · show zq_G _ _ _ _ _ 27 ([(0, .ref 2), (1, .int x), (2, .ref 6), (3, .ref 7), (4, .int (zac x gs vs i)), (5, .int (nI i))], [], XH tx n (nI P, nI C, nI R, nI L, hs, ss, cs, gs, vs) dr rd (nI D, sm, nI N, nI K, ce, de, ke, se) i0 i1 kp dd tr m)
      refine zq_b [zq_il 4, zq_k 1, zq_al 3, zq_il 5, zq_iald i (vs i), zq_ishl (1 <<< (vs i &&& 31)), zq_ior ((zac x gs vs i) ||| (1 <<< (vs i &&& 31))), zq_is1 4, zq_inc 5 1 (nI (i + 1)), zq_go] [zq_ilchk 4, zq_kchk 1, zq_alchk 3, zq_ilchk 5, zq_is .iaload 1, zq_is .ishl 1, zq_is .ior 1, zq_is1chk 4, zq_incchk 5 1, zq_gochk] 6 rfl (by decide +kernel) ?_
      refine ⟨rfl, (by omega), (by omega), rfl, rfl, rfl, nI_add i 1, ?_⟩
      show zq_G _ _ _ _ _ 6 ([(0, .ref 2), (1, .int x), (2, .ref 6), (3, .ref 7), (4, .int ((zac x gs vs i) ||| (1 <<< (vs i &&& 31)))), (5, .int (nI (i + 1)))], [], XH tx n (nI P, nI C, nI R, nI L, hs, ss, cs, gs, vs) dr rd (nI D, sm, nI N, nI K, ce, de, ke, se) i0 i1 kp dd tr m)
      exact zq_eq (by rw [zac_t (Decidable.not_not.mp c24)]) (ih6 trivial)
  · show zq_G _ _ _ _ _ 6 ([(0, .ref 2), (1, .int x), (2, .ref 6), (3, .ref 7), (4, .int (zac x gs vs R)), (5, .int (nI R))], [], XH tx n (nI P, nI C, nI R, nI L, hs, ss, cs, gs, vs) dr rd (nI D, sm, nI N, nI K, ce, de, ke, se) i0 i1 kp dd tr m)
    refine zq_b [zq_il 5, zq_al 0, zq_get 9 2] [zq_ilchk 5, zq_alchk 0, zq_getchk 9 2] 12 rfl (by decide +kernel) ?_
    show zq_G _ _ _ _ _ 12 ([(0, .ref 2), (1, .int x), (2, .ref 6), (3, .ref 7), (4, .int (zac x gs vs R)), (5, .int (nI R))], [.int (nI R), .int (nI R)], XH tx n (nI P, nI C, nI R, nI L, hs, ss, cs, gs, vs) dr rd (nI D, sm, nI N, nI K, ce, de, ke, se) i0 i1 kp dd tr m)
    refine zq_if .ge 44 (R ≤ R) (by decide +kernel) (zq_cge (a := R) (b := R) (by omega) (by omega)) (fun c12 => ?_) (fun c12 => absurd (by omega) c12)
    show zq_G _ _ _ _ _ 44 ([(0, .ref 2), (1, .int x), (2, .ref 6), (3, .ref 7), (4, .int (zac x gs vs R)), (5, .int (nI R))], [], XH tx n (nI P, nI C, nI R, nI L, hs, ss, cs, gs, vs) dr rd (nI D, sm, nI N, nI K, ce, de, ke, se) i0 i1 kp dd tr m)
    refine zq_b [zq_il 4] [zq_ilchk 4] 46 rfl (by decide +kernel) ?_
    show zq_G _ _ _ _ _ 46 ([(0, .ref 2), (1, .int x), (2, .ref 6), (3, .ref 7), (4, .int (zac x gs vs R)), (5, .int (nI R))], [.int (zac x gs vs R)], XH tx n (nI P, nI C, nI R, nI L, hs, ss, cs, gs, vs) dr rd (nI D, sm, nI N, nI K, ce, de, ke, se) i0 i1 kp dd tr m)
    exact zq_iret (by decide +kernel) rfl rfl rfl
set_option maxHeartbeats 4000000 in
set_option maxRecDepth 100000 in
theorem c_actsGivenBy {x : Int32} (hR : R ≤ 6) : zq_P l mX9_actsGivenBy 2 [.ref 2, .int x] (XH tx n (nI P, nI C, nI R, nI L, hs, ss, cs, gs, vs) dr rd (nI D, sm, nI N, nI K, ce, de, ke, se) i0 i1 kp dd tr m) (some (.int (zac x gs vs R))) (XH tx n (nI P, nI C, nI R, nI L, hs, ss, cs, gs, vs) dr rd (nI D, sm, nI N, nI K, ce, de, ke, se) i0 i1 kp dd tr m) := by
  refine zq_start (by decide +kernel) rfl (Nat.le_of_ble_eq_true rfl) ?_
  show zq_G _ _ _ _ _ 0 ([(0, .ref 2), (1, .int x)], [], XH tx n (nI P, nI C, nI R, nI L, hs, ss, cs, gs, vs) dr rd (nI D, sm, nI N, nI K, ce, de, ke, se) i0 i1 kp dd tr m)
  refine zq_b [zq_al 0, zq_il 1, zq_al 0, zq_get 9 7, zq_al 0, zq_get 9 8] [zq_alchk 0, zq_ilchk 1, zq_alchk 0, zq_getchk 9 7, zq_alchk 0, zq_getchk 9 8] 10 rfl (by decide +kernel) ?_
  show zq_G _ _ _ _ _ 10 ([(0, .ref 2), (1, .int x)], [.ref 7, .ref 6, .int x, .ref 2], XH tx n (nI P, nI C, nI R, nI L, hs, ss, cs, gs, vs) dr rd (nI D, sm, nI N, nI K, ce, de, ke, se) i0 i1 kp dd tr m)
  refine zq_callV (av := [.int x, .ref 6, .ref 7]) (rest := []) (by decide +kernel) k9_46 (c_actsAcross_v (x := x) hR) rfl rfl rfl rfl ?_
  show zq_G _ _ _ _ _ 13 ([(0, .ref 2), (1, .int x)], [.int (zac x gs vs R)], XH tx n (nI P, nI C, nI R, nI L, hs, ss, cs, gs, vs) dr rd (nI D, sm, nI N, nI K, ce, de, ke, se) i0 i1 kp dd tr m)
  exact zq_iret (by decide +kernel) rfl rfl rfl
set_option maxHeartbeats 4000000 in
set_option maxRecDepth 100000 in
theorem c_lastDoer {x : Int32} {y : Int32} {z : Int32} (hN : N ≤ 12) : zq_P l mX1_lastDoer 1 [.ref 32, .int x, .int y, .int z] (XH tx n (nI P, nI C, nI R, nI L, hs, ss, cs, gs, vs) dr rd (nI D, sm, nI N, nI K, ce, de, ke, se) i0 i1 kp dd tr m) (some (.int (zown de N x y z))) (XH tx n (nI P, nI C, nI R, nI L, hs, ss, cs, gs, vs) dr rd (nI D, sm, nI N, nI K, ce, de, ke, se) i0 i1 kp dd tr m) := by
  refine zq_start (by decide +kernel) rfl (Nat.le_of_ble_eq_true rfl) ?_
  show zq_G _ _ _ _ _ 0 ([(0, .ref 32), (1, .int x), (2, .int y), (3, .int z)], [], XH tx n (nI P, nI C, nI R, nI L, hs, ss, cs, gs, vs) dr rd (nI D, sm, nI N, nI K, ce, de, ke, se) i0 i1 kp dd tr m)
  refine zq_b [zq_al 0, zq_get 1 1, zq_get 5 3, zq_k 1, zq_isub (zi ((N : Int) - 1 - ((0 : Nat) : Int))), zq_is1 4] [zq_alchk 0, zq_getchk 1 1, zq_getchk 5 3, zq_kchk 1, zq_is .isub 1, zq_is1chk 4] 11 rfl (by decide +kernel) ?_
  refine ⟨((zi_sub N 1).trans (congrArg zi (by omega))), ?_⟩
  show zq_G _ _ _ _ _ 11 ([(0, .ref 32), (1, .int x), (2, .int y), (3, .int z), (4, .int (zi ((N : Int) - 1 - ((0 : Nat) : Int))))], [], XH tx n (nI P, nI C, nI R, nI L, hs, ss, cs, gs, vs) dr rd (nI D, sm, nI N, nI K, ce, de, ke, se) i0 i1 kp dd tr m)
  refine zq_loop (fun i => ([(0, .ref 32), (1, .int x), (2, .int y), (3, .int z), (4, .int (zi ((N : Int) - 1 - ((i : Nat) : Int))))], [], XH tx n (nI P, nI C, nI R, nI L, hs, ss, cs, gs, vs) dr rd (nI D, sm, nI N, nI K, ce, de, ke, se) i0 i1 kp dd tr m)) (fun i => ∀ j, N ≤ j + i → j < N → ownF de x y z j = false) (N) (0) (by omega) ((fun j h1 h2 => absurd h1 (by omega))) (fun i hl11 hi11 hI11 ih11 => ?_) (fun hI11 => ?_)
  · show zq_G _ _ _ _ _ 11 ([(0, .ref 32), (1, .int x), (2, .int y), (3, .int z), (4, .int (zi ((N : Int) - 1 - ((i : Nat) : Int))))], [], XH tx n (nI P, nI C, nI R, nI L, hs, ss, cs, gs, vs) dr rd (nI D, sm, nI N, nI K, ce, de, ke, se) i0 i1 kp dd tr m)
    refine zq_b [zq_il 4] [zq_ilchk 4] 13 rfl (by decide +kernel) ?_
    show zq_G _ _ _ _ _ 13 ([(0, .ref 32), (1, .int x), (2, .int y), (3, .int z), (4, .int (zi ((N : Int) - 1 - ((i : Nat) : Int))))], [.int (zi ((N : Int) - 1 - ((i : Nat) : Int)))], XH tx n (nI P, nI C, nI R, nI L, hs, ss, cs, gs, vs) dr rd (nI D, sm, nI N, nI K, ce, de, ke, se) i0 i1 kp dd tr m)
    refine zq_ifz .lt 89 (((N : Int) - 1 - ((i : Nat) : Int)) < 0) (by decide +kernel) (zi_lt0 (by omega) (by omega)) (fun c13 => absurd c13 (by omega)) (fun c13 => ?_)
    show zq_G _ _ _ _ _ 16 ([(0, .ref 32), (1, .int x), (2, .int y), (3, .int z), (4, .int (zi ((N : Int) - 1 - ((i : Nat) : Int))))], [], XH tx n (nI P, nI C, nI R, nI L, hs, ss, cs, gs, vs) dr rd (nI D, sm, nI N, nI K, ce, de, ke, se) i0 i1 kp dd tr m)
    refine zq_eq (σ2 := ([(0, .ref 32), (1, .int x), (2, .int y), (3, .int z), (4, .int (nI (N - 1 - i)))], [], XH tx n (nI P, nI C, nI R, nI L, hs, ss, cs, gs, vs) dr rd (nI D, sm, nI N, nI K, ce, de, ke, se) i0 i1 kp dd tr m)) (by rw [zi_nat (n := N - 1 - i) (by omega)]) ?_
    refine zq_b [zq_al 0, zq_get 1 1, zq_il 4, zq_k 4] [zq_alchk 0, zq_getchk 1 1, zq_ilchk 4, zq_kchk 4] 23 rfl (by decide +kernel) ?_
    show zq_G _ _ _ _ _ 23 ([(0, .ref 32), (1, .int x), (2, .int y), (3, .int z), (4, .int (nI (N - 1 - i)))], [.int 4, .int (nI (N - 1 - i)), .ref 15], XH tx n (nI P, nI C, nI R, nI L, hs, ss, cs, gs, vs) dr rd (nI D, sm, nI N, nI K, ce, de, ke, se) i0 i1 kp dd tr m)
    refine zq_callV (av := [.int (nI (N - 1 - i)), .int 4]) (rest := []) (by decide +kernel) k1_42 (c_ofDeed (i := (N - 1 - i)) (k := 4) (by omega) (by omega)) rfl rfl rfl rfl ?_
    show zq_G _ _ _ _ _ 26 ([(0, .ref 32), (1, .int x), (2, .int y), (3, .int z), (4, .int (nI (N - 1 - i)))], [.int (de ((N - 1 - i) * 5 + 4))], XH tx n (nI P, nI C, nI R, nI L, hs, ss, cs, gs, vs) dr rd (nI D, sm, nI N, nI K, ce, de, ke, se) i0 i1 kp dd tr m)
    refine zq_b [zq_k 1] [zq_kchk 1] 27 rfl (by decide +kernel) ?_
    show zq_G _ _ _ _ _ 27 ([(0, .ref 32), (1, .int x), (2, .int y), (3, .int z), (4, .int (nI (N - 1 - i)))], [.int 1, .int (de ((N - 1 - i) * 5 + 4))], XH tx n (nI P, nI C, nI R, nI L, hs, ss, cs, gs, vs) dr rd (nI D, sm, nI N, nI K, ce, de, ke, se) i0 i1 kp dd tr m)
    refine zq_if .ne 50 (¬ (de ((N - 1 - i) * 5 + 4)) = 1) (by decide +kernel) (Iff.rfl) (fun c27 => ?_) (fun c27 => ?_)
    · show zq_G _ _ _ _ _ 50 ([(0, .ref 32), (1, .int x), (2, .int y), (3, .int z), (4, .int (nI (N - 1 - i)))], [], XH tx n (nI P, nI C, nI R, nI L, hs, ss, cs, gs, vs) dr rd (nI D, sm, nI N, nI K, ce, de, ke, se) i0 i1 kp dd tr m)
      refine zq_b [zq_k 0, zq_is1 5, zq_il 5] [zq_kchk 0, zq_is1chk 5, zq_ilchk 5] 55 rfl (by decide +kernel) ?_
      show zq_G _ _ _ _ _ 55 ([(0, .ref 32), (1, .int x), (2, .int y), (3, .int z), (4, .int (nI (N - 1 - i))), (5, .int 0)], [.int 0], XH tx n (nI P, nI C, nI R, nI L, hs, ss, cs, gs, vs) dr rd (nI D, sm, nI N, nI K, ce, de, ke, se) i0 i1 kp dd tr m)
      refine zq_ifz .eq 83 (0 = 0) (by decide +kernel) (zq_ceq (a := 0) (b := 0) (by omega) (by omega)) (fun c55 => ?_) (fun c55 => absurd rfl c55)
      show zq_G _ _ _ _ _ 83 ([(0, .ref 32), (1, .int x), (2, .int y), (3, .int z), (4, .int (nI (N - 1 - i))), (5, .int 0)], [], XH tx n (nI P, nI C, nI R, nI L, hs, ss, cs, gs, vs) dr rd (nI D, sm, nI N, nI K, ce, de, ke, se) i0 i1 kp dd tr m)
      refine zq_b [zq_inc 4 (-1) (zi ((N : Int) - 1 - ((i + 1 : Nat) : Int))), zq_go] [zq_incchk 4 (-1), zq_gochk] 11 rfl (by decide +kernel) ?_
      refine ⟨(zi_dn2 hi11), ?_⟩
      show zq_G _ _ _ _ _ 11 ([(0, .ref 32), (1, .int x), (2, .int y), (3, .int z), (4, .int (zi ((N : Int) - 1 - ((i + 1 : Nat) : Int)))), (5, .int 0)], [], XH tx n (nI P, nI C, nI R, nI L, hs, ss, cs, gs, vs) dr rd (nI D, sm, nI N, nI K, ce, de, ke, se) i0 i1 kp dd tr m)
      refine zq_pick [0, 1, 2, 3, 4] rfl ?_
      show zq_G _ _ _ _ _ 11 ([(0, .ref 32), (1, .int x), (2, .int y), (3, .int z), (4, .int (zi ((N : Int) - 1 - ((i + 1 : Nat) : Int))))], [], XH tx n (nI P, nI C, nI R, nI L, hs, ss, cs, gs, vs) dr rd (nI D, sm, nI N, nI K, ce, de, ke, se) i0 i1 kp dd tr m)
      exact ih11 (fun j h1 h2 => (Nat.lt_or_ge (N - 1 - i) j).elim (fun q => hI11 j (by omega) h2) (fun q => by rw [show j = N - 1 - i by omega]; unfold ownF; rw [decide_eq_false c27]; simp))
    · show zq_G _ _ _ _ _ 30 ([(0, .ref 32), (1, .int x), (2, .int y), (3, .int z), (4, .int (nI (N - 1 - i)))], [], XH tx n (nI P, nI C, nI R, nI L, hs, ss, cs, gs, vs) dr rd (nI D, sm, nI N, nI K, ce, de, ke, se) i0 i1 kp dd tr m)
      refine zq_b [zq_al 0, zq_get 1 1, zq_il 4, zq_k 2] [zq_alchk 0, zq_getchk 1 1, zq_ilchk 4, zq_kchk 2] 37 rfl (by decide +kernel) ?_
      show zq_G _ _ _ _ _ 37 ([(0, .ref 32), (1, .int x), (2, .int y), (3, .int z), (4, .int (nI (N - 1 - i)))], [.int 2, .int (nI (N - 1 - i)), .ref 15], XH tx n (nI P, nI C, nI R, nI L, hs, ss, cs, gs, vs) dr rd (nI D, sm, nI N, nI K, ce, de, ke, se) i0 i1 kp dd tr m)
      refine zq_callV (av := [.int (nI (N - 1 - i)), .int 2]) (rest := []) (by decide +kernel) k1_42 (c_ofDeed (i := (N - 1 - i)) (k := 2) (by omega) (by omega)) rfl rfl rfl rfl ?_
      show zq_G _ _ _ _ _ 40 ([(0, .ref 32), (1, .int x), (2, .int y), (3, .int z), (4, .int (nI (N - 1 - i)))], [.int (de ((N - 1 - i) * 5 + 2))], XH tx n (nI P, nI C, nI R, nI L, hs, ss, cs, gs, vs) dr rd (nI D, sm, nI N, nI K, ce, de, ke, se) i0 i1 kp dd tr m)
      refine zq_b [zq_il 3, zq_iadd ((de ((N - 1 - i) * 5 + 2)) + z), zq_il 2] [zq_ilchk 3, zq_is .iadd 1, zq_ilchk 2] 43 rfl (by decide +kernel) ?_
      refine ⟨rfl, ?_⟩
      show zq_G _ _ _ _ _ 43 ([(0, .ref 32), (1, .int x), (2, .int y), (3, .int z), (4, .int (nI (N - 1 - i)))], [.int y, .int ((de ((N - 1 - i) * 5 + 2)) + z)], XH tx n (nI P, nI C, nI R, nI L, hs, ss, cs, gs, vs) dr rd (nI D, sm, nI N, nI K, ce, de, ke, se) i0 i1 kp dd tr m)
      refine zq_if .gt 50 (y < ((de ((N - 1 - i) * 5 + 2)) + z)) (by decide +kernel) (Iff.rfl) (fun c43 => ?_) (fun c43 => ?_)
      · show zq_G _ _ _ _ _ 50 ([(0, .ref 32), (1, .int x), (2, .int y), (3, .int z), (4, .int (nI (N - 1 - i)))], [], XH tx n (nI P, nI C, nI R, nI L, hs, ss, cs, gs, vs) dr rd (nI D, sm, nI N, nI K, ce, de, ke, se) i0 i1 kp dd tr m)
        refine zq_b [zq_k 0, zq_is1 5, zq_il 5] [zq_kchk 0, zq_is1chk 5, zq_ilchk 5] 55 rfl (by decide +kernel) ?_
        show zq_G _ _ _ _ _ 55 ([(0, .ref 32), (1, .int x), (2, .int y), (3, .int z), (4, .int (nI (N - 1 - i))), (5, .int 0)], [.int 0], XH tx n (nI P, nI C, nI R, nI L, hs, ss, cs, gs, vs) dr rd (nI D, sm, nI N, nI K, ce, de, ke, se) i0 i1 kp dd tr m)
        refine zq_ifz .eq 83 (0 = 0) (by decide +kernel) (zq_ceq (a := 0) (b := 0) (by omega) (by omega)) (fun c55 => ?_) (fun c55 => absurd rfl c55)
        show zq_G _ _ _ _ _ 83 ([(0, .ref 32), (1, .int x), (2, .int y), (3, .int z), (4, .int (nI (N - 1 - i))), (5, .int 0)], [], XH tx n (nI P, nI C, nI R, nI L, hs, ss, cs, gs, vs) dr rd (nI D, sm, nI N, nI K, ce, de, ke, se) i0 i1 kp dd tr m)
        refine zq_b [zq_inc 4 (-1) (zi ((N : Int) - 1 - ((i + 1 : Nat) : Int))), zq_go] [zq_incchk 4 (-1), zq_gochk] 11 rfl (by decide +kernel) ?_
        refine ⟨(zi_dn2 hi11), ?_⟩
        show zq_G _ _ _ _ _ 11 ([(0, .ref 32), (1, .int x), (2, .int y), (3, .int z), (4, .int (zi ((N : Int) - 1 - ((i + 1 : Nat) : Int)))), (5, .int 0)], [], XH tx n (nI P, nI C, nI R, nI L, hs, ss, cs, gs, vs) dr rd (nI D, sm, nI N, nI K, ce, de, ke, se) i0 i1 kp dd tr m)
        refine zq_pick [0, 1, 2, 3, 4] rfl ?_
        show zq_G _ _ _ _ _ 11 ([(0, .ref 32), (1, .int x), (2, .int y), (3, .int z), (4, .int (zi ((N : Int) - 1 - ((i + 1 : Nat) : Int))))], [], XH tx n (nI P, nI C, nI R, nI L, hs, ss, cs, gs, vs) dr rd (nI D, sm, nI N, nI K, ce, de, ke, se) i0 i1 kp dd tr m)
        exact ih11 (fun j h1 h2 => (Nat.lt_or_ge (N - 1 - i) j).elim (fun q => hI11 j (by omega) h2) (fun q => by rw [show j = N - 1 - i by omega]; unfold ownF; rw [decide_eq_false (Int32.not_le.mpr c43)]; simp))
      · show zq_G _ _ _ _ _ 46 ([(0, .ref 32), (1, .int x), (2, .int y), (3, .int z), (4, .int (nI (N - 1 - i)))], [], XH tx n (nI P, nI C, nI R, nI L, hs, ss, cs, gs, vs) dr rd (nI D, sm, nI N, nI K, ce, de, ke, se) i0 i1 kp dd tr m)
        refine zq_b [zq_k 1, zq_go, zq_is1 5, zq_il 5] [zq_kchk 1, zq_gochk, zq_is1chk 5, zq_ilchk 5] 55 rfl (by decide +kernel) ?_
        show zq_G _ _ _ _ _ 55 ([(0, .ref 32), (1, .int x), (2, .int y), (3, .int z), (4, .int (nI (N - 1 - i))), (5, .int 1)], [.int 1], XH tx n (nI P, nI C, nI R, nI L, hs, ss, cs, gs, vs) dr rd (nI D, sm, nI N, nI K, ce, de, ke, se) i0 i1 kp dd tr m)
        refine zq_ifz .eq 83 (1 = 0) (by decide +kernel) (zq_ceq (a := 1) (b := 0) (by omega) (by omega)) (fun c55 => absurd c55 (by decide)) (fun c55 => ?_)
        show zq_G _ _ _ _ _ 58 ([(0, .ref 32), (1, .int x), (2, .int y), (3, .int z), (4, .int (nI (N - 1 - i))), (5, .int 1)], [], XH tx n (nI P, nI C, nI R, nI L, hs, ss, cs, gs, vs) dr rd (nI D, sm, nI N, nI K, ce, de, ke, se) i0 i1 kp dd tr m)
        refine zq_b [zq_al 0, zq_get 1 1, zq_il 4, zq_k 1] [zq_alchk 0, zq_getchk 1 1, zq_ilchk 4, zq_kchk 1] 65 rfl (by decide +kernel) ?_
        show zq_G _ _ _ _ _ 65 ([(0, .ref 32), (1, .int x), (2, .int y), (3, .int z), (4, .int (nI (N - 1 - i))), (5, .int 1)], [.int 1, .int (nI (N - 1 - i)), .ref 15], XH tx n (nI P, nI C, nI R, nI L, hs, ss, cs, gs, vs) dr rd (nI D, sm, nI N, nI K, ce, de, ke, se) i0 i1 kp dd tr m)
        refine zq_callV (av := [.int (nI (N - 1 - i)), .int 1]) (rest := []) (by decide +kernel) k1_42 (c_ofDeed (i := (N - 1 - i)) (k := 1) (by omega) (by omega)) rfl rfl rfl rfl ?_
        show zq_G _ _ _ _ _ 68 ([(0, .ref 32), (1, .int x), (2, .int y), (3, .int z), (4, .int (nI (N - 1 - i))), (5, .int 1)], [.int (de ((N - 1 - i) * 5 + 1))], XH tx n (nI P, nI C, nI R, nI L, hs, ss, cs, gs, vs) dr rd (nI D, sm, nI N, nI K, ce, de, ke, se) i0 i1 kp dd tr m)
        refine zq_b [zq_il 1] [zq_ilchk 1] 69 rfl (by decide +kernel) ?_
        show zq_G _ _ _ _ _ 69 ([(0, .ref 32), (1, .int x), (2, .int y), (3, .int z), (4, .int (nI (N - 1 - i))), (5, .int 1)], [.int x, .int (de ((N - 1 - i) * 5 + 1))], XH tx n (nI P, nI C, nI R, nI L, hs, ss, cs, gs, vs) dr rd (nI D, sm, nI N, nI K, ce, de, ke, se) i0 i1 kp dd tr m)
        refine zq_if .ne 83 (¬ (de ((N - 1 - i) * 5 + 1)) = x) (by decide +kernel) (Iff.rfl) (fun c69 => ?_) (fun c69 => ?_)
        · show zq_G _ _ _ _ _ 83 ([(0, .ref 32), (1, .int x), (2, .int y), (3, .int z), (4, .int (nI (N - 1 - i))), (5, .int 1)], [], XH tx n (nI P, nI C, nI R, nI L, hs, ss, cs, gs, vs) dr rd (nI D, sm, nI N, nI K, ce, de, ke, se) i0 i1 kp dd tr m)
          refine zq_b [zq_inc 4 (-1) (zi ((N : Int) - 1 - ((i + 1 : Nat) : Int))), zq_go] [zq_incchk 4 (-1), zq_gochk] 11 rfl (by decide +kernel) ?_
          refine ⟨(zi_dn2 hi11), ?_⟩
          show zq_G _ _ _ _ _ 11 ([(0, .ref 32), (1, .int x), (2, .int y), (3, .int z), (4, .int (zi ((N : Int) - 1 - ((i + 1 : Nat) : Int)))), (5, .int 1)], [], XH tx n (nI P, nI C, nI R, nI L, hs, ss, cs, gs, vs) dr rd (nI D, sm, nI N, nI K, ce, de, ke, se) i0 i1 kp dd tr m)
          refine zq_pick [0, 1, 2, 3, 4] rfl ?_
          show zq_G _ _ _ _ _ 11 ([(0, .ref 32), (1, .int x), (2, .int y), (3, .int z), (4, .int (zi ((N : Int) - 1 - ((i + 1 : Nat) : Int))))], [], XH tx n (nI P, nI C, nI R, nI L, hs, ss, cs, gs, vs) dr rd (nI D, sm, nI N, nI K, ce, de, ke, se) i0 i1 kp dd tr m)
          exact ih11 (fun j h1 h2 => (Nat.lt_or_ge (N - 1 - i) j).elim (fun q => hI11 j (by omega) h2) (fun q => by rw [show j = N - 1 - i by omega]; unfold ownF; rw [decide_eq_false c69, Bool.and_false]))
        · show zq_G _ _ _ _ _ 72 ([(0, .ref 32), (1, .int x), (2, .int y), (3, .int z), (4, .int (nI (N - 1 - i))), (5, .int 1)], [], XH tx n (nI P, nI C, nI R, nI L, hs, ss, cs, gs, vs) dr rd (nI D, sm, nI N, nI K, ce, de, ke, se) i0 i1 kp dd tr m)
          refine zq_b [zq_al 0, zq_get 1 1, zq_il 4, zq_k 0] [zq_alchk 0, zq_getchk 1 1, zq_ilchk 4, zq_kchk 0] 79 rfl (by decide +kernel) ?_
          show zq_G _ _ _ _ _ 79 ([(0, .ref 32), (1, .int x), (2, .int y), (3, .int z), (4, .int (nI (N - 1 - i))), (5, .int 1)], [.int 0, .int (nI (N - 1 - i)), .ref 15], XH tx n (nI P, nI C, nI R, nI L, hs, ss, cs, gs, vs) dr rd (nI D, sm, nI N, nI K, ce, de, ke, se) i0 i1 kp dd tr m)
          refine zq_callV (av := [.int (nI (N - 1 - i)), .int 0]) (rest := []) (by decide +kernel) k1_42 (c_ofDeed (i := (N - 1 - i)) (k := 0) (by omega) (by omega)) rfl rfl rfl rfl ?_
          show zq_G _ _ _ _ _ 82 ([(0, .ref 32), (1, .int x), (2, .int y), (3, .int z), (4, .int (nI (N - 1 - i))), (5, .int 1)], [.int (de ((N - 1 - i) * 5 + 0))], XH tx n (nI P, nI C, nI R, nI L, hs, ss, cs, gs, vs) dr rd (nI D, sm, nI N, nI K, ce, de, ke, se) i0 i1 kp dd tr m)
          exact zq_iret (by decide +kernel) rfl (by unfold zown; rw [zls_at (i := N - 1 - i) (by omega) (by unfold ownF; rw [decide_eq_true (Decidable.not_not.mp c27), decide_eq_true (Int32.not_lt.mp c43), decide_eq_true (Decidable.not_not.mp c69)]; rfl) (fun j h1 h2 => hI11 j (by omega) h2)]) rfl
  · show zq_G _ _ _ _ _ 11 ([(0, .ref 32), (1, .int x), (2, .int y), (3, .int z), (4, .int (zi ((N : Int) - 1 - ((N : Nat) : Int))))], [], XH tx n (nI P, nI C, nI R, nI L, hs, ss, cs, gs, vs) dr rd (nI D, sm, nI N, nI K, ce, de, ke, se) i0 i1 kp dd tr m)
    refine zq_b [zq_il 4] [zq_ilchk 4] 13 rfl (by decide +kernel) ?_
    show zq_G _ _ _ _ _ 13 ([(0, .ref 32), (1, .int x), (2, .int y), (3, .int z), (4, .int (zi ((N : Int) - 1 - ((N : Nat) : Int))))], [.int (zi ((N : Int) - 1 - ((N : Nat) : Int)))], XH tx n (nI P, nI C, nI R, nI L, hs, ss, cs, gs, vs) dr rd (nI D, sm, nI N, nI K, ce, de, ke, se) i0 i1 kp dd tr m)
    refine zq_ifz .lt 89 (((N : Int) - 1 - ((N : Nat) : Int)) < 0) (by decide +kernel) (zi_lt0 (by omega) (by omega)) (fun c13 => ?_) (fun c13 => absurd (by omega) c13)
    show zq_G _ _ _ _ _ 89 ([(0, .ref 32), (1, .int x), (2, .int y), (3, .int z), (4, .int (zi ((N : Int) - 1 - ((N : Nat) : Int))))], [], XH tx n (nI P, nI C, nI R, nI L, hs, ss, cs, gs, vs) dr rd (nI D, sm, nI N, nI K, ce, de, ke, se) i0 i1 kp dd tr m)
    refine zq_b [zq_k (-9)] [zq_kchk (-9)] 91 rfl (by decide +kernel) ?_
    show zq_G _ _ _ _ _ 91 ([(0, .ref 32), (1, .int x), (2, .int y), (3, .int z), (4, .int (zi ((N : Int) - 1 - ((N : Nat) : Int))))], [.int (-9)], XH tx n (nI P, nI C, nI R, nI L, hs, ss, cs, gs, vs) dr rd (nI D, sm, nI N, nI K, ce, de, ke, se) i0 i1 kp dd tr m)
    exact zq_iret (by decide +kernel) rfl (by unfold zown; rw [zls_no (fun j hj => hI11 j (by omega) hj)]) rfl
set_option maxHeartbeats 4000000 in
set_option maxRecDepth 100000 in
theorem c_leastActsDoer {x : Int32} {y : Int32} {z : Int32} (hN : N ≤ 12) : zq_P l mX1_leastActsDoer 2 [.ref 32, .int x, .int y, .int z] (XH tx n (nI P, nI C, nI R, nI L, hs, ss, cs, gs, vs) dr rd (nI D, sm, nI N, nI K, ce, de, ke, se) i0 i1 kp dd tr m) (some (.int (zlad (fun a => zown de N (nI a) y z) x))) (XH tx n (nI P, nI C, nI R, nI L, hs, ss, cs, gs, vs) dr rd (nI D, sm, nI N, nI K, ce, de, ke, se) i0 i1 kp dd tr m) := by
  refine zq_start (by decide +kernel) rfl (Nat.le_of_ble_eq_true rfl) ?_
  show zq_G _ _ _ _ _ 0 ([(0, .ref 32), (1, .int x), (2, .int y), (3, .int z)], [], XH tx n (nI P, nI C, nI R, nI L, hs, ss, cs, gs, vs) dr rd (nI D, sm, nI N, nI K, ce, de, ke, se) i0 i1 kp dd tr m)
  refine zq_b [zq_k 0, zq_is1 4] [zq_kchk 0, zq_is1chk 4] 3 rfl (by decide +kernel) ?_
  show zq_G _ _ _ _ _ 3 ([(0, .ref 32), (1, .int x), (2, .int y), (3, .int z), (4, .int 0)], [], XH tx n (nI P, nI C, nI R, nI L, hs, ss, cs, gs, vs) dr rd (nI D, sm, nI N, nI K, ce, de, ke, se) i0 i1 kp dd tr m)
  refine zq_loop (fun i => ([(0, .ref 32), (1, .int x), (2, .int y), (3, .int z), (4, .int (nI i))], [], XH tx n (nI P, nI C, nI R, nI L, hs, ss, cs, gs, vs) dr rd (nI D, sm, nI N, nI K, ce, de, ke, se) i0 i1 kp dd tr m)) (fun i => ∀ j, j < i → (decide (zbit x (nI j) = 1) && decide (¬ zown de N (nI j) y z = -9)) = false) (8) (0) (by omega) ((fun j hj => absurd hj (by omega))) (fun i hl3 hi3 hI3 ih3 => ?_) (fun hI3 => ?_)
  · show zq_G _ _ _ _ _ 3 ([(0, .ref 32), (1, .int x), (2, .int y), (3, .int z), (4, .int (nI i))], [], XH tx n (nI P, nI C, nI R, nI L, hs, ss, cs, gs, vs) dr rd (nI D, sm, nI N, nI K, ce, de, ke, se) i0 i1 kp dd tr m)
    refine zq_b [zq_il 4, zq_k 8] [zq_ilchk 4, zq_kchk 8] 7 rfl (by decide +kernel) ?_
    show zq_G _ _ _ _ _ 7 ([(0, .ref 32), (1, .int x), (2, .int y), (3, .int z), (4, .int (nI i))], [.int 8, .int (nI i)], XH tx n (nI P, nI C, nI R, nI L, hs, ss, cs, gs, vs) dr rd (nI D, sm, nI N, nI K, ce, de, ke, se) i0 i1 kp dd tr m)
    refine zq_if .ge 51 (8 ≤ i) (by decide +kernel) (zq_cge (a := i) (b := 8) (by omega) (by omega)) (fun c7 => absurd c7 (by omega)) (fun c7 => ?_)
    show zq_G _ _ _ _ _ 10 ([(0, .ref 32), (1, .int x), (2, .int y), (3, .int z), (4, .int (nI i))], [], XH tx n (nI P, nI C, nI R, nI L, hs, ss, cs, gs, vs) dr rd (nI D, sm, nI N, nI K, ce, de, ke, se) i0 i1 kp dd tr m)
    refine zq_b [zq_il 1, zq_il 4] [zq_ilchk 1, zq_ilchk 4] 13 rfl (by decide +kernel) ?_
    show zq_G _ _ _ _ _ 13 ([(0, .ref 32), (1, .int x), (2, .int y), (3, .int z), (4, .int (nI i))], [.int (nI i), .int x], XH tx n (nI P, nI C, nI R, nI L, hs, ss, cs, gs, vs) dr rd (nI D, sm, nI N, nI K, ce, de, ke, se) i0 i1 kp dd tr m)
    refine zq_callN (av := [.int x, .int (nI i)]) (rest := []) (by decide +kernel) k1_29 (c_bit (x := x) (p := (nI i))) rfl rfl ?_
    show zq_G _ _ _ _ _ 16 ([(0, .ref 32), (1, .int x), (2, .int y), (3, .int z), (4, .int (nI i))], [.int (zbit x (nI i))], XH tx n (nI P, nI C, nI R, nI L, hs, ss, cs, gs, vs) dr rd (nI D, sm, nI N, nI K, ce, de, ke, se) i0 i1 kp dd tr m)
    refine zq_b [zq_k 1] [zq_kchk 1] 17 rfl (by decide +kernel) ?_
    show zq_G _ _ _ _ _ 17 ([(0, .ref 32), (1, .int x), (2, .int y), (3, .int z), (4, .int (nI i))], [.int 1, .int (zbit x (nI i))], XH tx n (nI P, nI C, nI R, nI L, hs, ss, cs, gs, vs) dr rd (nI D, sm, nI N, nI K, ce, de, ke, se) i0 i1 kp dd tr m)
    refine zq_if .ne 31 (¬ (zbit x (nI i)) = 1) (by decide +kernel) (Iff.rfl) (fun c17 => ?_) (fun c17 => ?_)
    · show zq_G _ _ _ _ _ 31 ([(0, .ref 32), (1, .int x), (2, .int y), (3, .int z), (4, .int (nI i))], [], XH tx n (nI P, nI C, nI R, nI L, hs, ss, cs, gs, vs) dr rd (nI D, sm, nI N, nI K, ce, de, ke, se) i0 i1 kp dd tr m)
      refine zq_b [zq_k (-9), zq_is1 5, zq_il 5, zq_k (-9)] [zq_kchk (-9), zq_is1chk 5, zq_ilchk 5, zq_kchk (-9)] 39 rfl (by decide +kernel) ?_
      show zq_G _ _ _ _ _ 39 ([(0, .ref 32), (1, .int x), (2, .int y), (3, .int z), (4, .int (nI i)), (5, .int (-9))], [.int (-9), .int (-9)], XH tx n (nI P, nI C, nI R, nI L, hs, ss, cs, gs, vs) dr rd (nI D, sm, nI N, nI K, ce, de, ke, se) i0 i1 kp dd tr m)
      refine zq_if .eq 45 ((-9) = (-9)) (by decide +kernel) (Iff.rfl) (fun c39 => ?_) (fun c39 => absurd rfl c39)
      show zq_G _ _ _ _ _ 45 ([(0, .ref 32), (1, .int x), (2, .int y), (3, .int z), (4, .int (nI i)), (5, .int (-9))], [], XH tx n (nI P, nI C, nI R, nI L, hs, ss, cs, gs, vs) dr rd (nI D, sm, nI N, nI K, ce, de, ke, se) i0 i1 kp dd tr m)
      refine zq_b [zq_inc 4 1 (nI (i + 1)), zq_go] [zq_incchk 4 1, zq_gochk] 3 rfl (by decide +kernel) ?_
      refine ⟨nI_add i 1, ?_⟩
      show zq_G _ _ _ _ _ 3 ([(0, .ref 32), (1, .int x), (2, .int y), (3, .int z), (4, .int (nI (i + 1))), (5, .int (-9))], [], XH tx n (nI P, nI C, nI R, nI L, hs, ss, cs, gs, vs) dr rd (nI D, sm, nI N, nI K, ce, de, ke, se) i0 i1 kp dd tr m)
      refine zq_pick [0, 1, 2, 3, 4] rfl ?_
      show zq_G _ _ _ _ _ 3 ([(0, .ref 32), (1, .int x), (2, .int y), (3, .int z), (4, .int (nI (i + 1)))], [], XH tx n (nI P, nI C, nI R, nI L, hs, ss, cs, gs, vs) dr rd (nI D, sm, nI N, nI K, ce, de, ke, se) i0 i1 kp dd tr m)
      exact ih3 (lt_ext hI3 (by rw [decide_eq_false c17, Bool.false_and]))
    · show zq_G _ _ _ _ _ 20 ([(0, .ref 32), (1, .int x), (2, .int y), (3, .int z), (4, .int (nI i))], [], XH tx n (nI P, nI C, nI R, nI L, hs, ss, cs, gs, vs) dr rd (nI D, sm, nI N, nI K, ce, de, ke, se) i0 i1 kp dd tr m)
      refine zq_b [zq_al 0, zq_il 4, zq_il 2, zq_il 3] [zq_alchk 0, zq_ilchk 4, zq_ilchk 2, zq_ilchk 3] 25 rfl (by decide +kernel) ?_
      show zq_G _ _ _ _ _ 25 ([(0, .ref 32), (1, .int x), (2, .int y), (3, .int z), (4, .int (nI i))], [.int z, .int y, .int (nI i), .ref 32], XH tx n (nI P, nI C, nI R, nI L, hs, ss, cs, gs, vs) dr rd (nI D, sm, nI N, nI K, ce, de, ke, se) i0 i1 kp dd tr m)
      refine zq_callV (av := [.int (nI i), .int y, .int z]) (rest := []) (by decide +kernel) k1_33 (c_lastDoer (x := (nI i)) (y := y) (z := z) hN) rfl rfl rfl rfl ?_
      show zq_G _ _ _ _ _ 28 ([(0, .ref 32), (1, .int x), (2, .int y), (3, .int z), (4, .int (nI i))], [.int (zown de N (nI i) y z)], XH tx n (nI P, nI C, nI R, nI L, hs, ss, cs, gs, vs) dr rd (nI D, sm, nI N, nI K, ce, de, ke, se) i0 i1 kp dd tr m)
      refine zq_b [zq_go, zq_is1 5, zq_il 5, zq_k (-9)] [zq_gochk, zq_is1chk 5, zq_ilchk 5, zq_kchk (-9)] 39 rfl (by decide +kernel) ?_
      show zq_G _ _ _ _ _ 39 ([(0, .ref 32), (1, .int x), (2, .int y), (3, .int z), (4, .int (nI i)), (5, .int (zown de N (nI i) y z))], [.int (-9), .int (zown de N (nI i) y z)], XH tx n (nI P, nI C, nI R, nI L, hs, ss, cs, gs, vs) dr rd (nI D, sm, nI N, nI K, ce, de, ke, se) i0 i1 kp dd tr m)
      refine zq_if .eq 45 ((zown de N (nI i) y z) = (-9)) (by decide +kernel) (Iff.rfl) (fun c39 => ?_) (fun c39 => ?_)
      · show zq_G _ _ _ _ _ 45 ([(0, .ref 32), (1, .int x), (2, .int y), (3, .int z), (4, .int (nI i)), (5, .int (zown de N (nI i) y z))], [], XH tx n (nI P, nI C, nI R, nI L, hs, ss, cs, gs, vs) dr rd (nI D, sm, nI N, nI K, ce, de, ke, se) i0 i1 kp dd tr m)
        refine zq_b [zq_inc 4 1 (nI (i + 1)), zq_go] [zq_incchk 4 1, zq_gochk] 3 rfl (by decide +kernel) ?_
        refine ⟨nI_add i 1, ?_⟩
        show zq_G _ _ _ _ _ 3 ([(0, .ref 32), (1, .int x), (2, .int y), (3, .int z), (4, .int (nI (i + 1))), (5, .int (zown de N (nI i) y z))], [], XH tx n (nI P, nI C, nI R, nI L, hs, ss, cs, gs, vs) dr rd (nI D, sm, nI N, nI K, ce, de, ke, se) i0 i1 kp dd tr m)
        refine zq_pick [0, 1, 2, 3, 4] rfl ?_
        show zq_G _ _ _ _ _ 3 ([(0, .ref 32), (1, .int x), (2, .int y), (3, .int z), (4, .int (nI (i + 1)))], [], XH tx n (nI P, nI C, nI R, nI L, hs, ss, cs, gs, vs) dr rd (nI D, sm, nI N, nI K, ce, de, ke, se) i0 i1 kp dd tr m)
        exact ih3 (lt_ext hI3 (by rw [decide_eq_false (p := ¬ zown de N (nI i) y z = -9) (fun q => q c39), Bool.and_false]))
      · show zq_G _ _ _ _ _ 42 ([(0, .ref 32), (1, .int x), (2, .int y), (3, .int z), (4, .int (nI i)), (5, .int (zown de N (nI i) y z))], [], XH tx n (nI P, nI C, nI R, nI L, hs, ss, cs, gs, vs) dr rd (nI D, sm, nI N, nI K, ce, de, ke, se) i0 i1 kp dd tr m)
        refine zq_b [zq_il 5] [zq_ilchk 5] 44 rfl (by decide +kernel) ?_
        show zq_G _ _ _ _ _ 44 ([(0, .ref 32), (1, .int x), (2, .int y), (3, .int z), (4, .int (nI i)), (5, .int (zown de N (nI i) y z))], [.int (zown de N (nI i) y z)], XH tx n (nI P, nI C, nI R, nI L, hs, ss, cs, gs, vs) dr rd (nI D, sm, nI N, nI K, ce, de, ke, se) i0 i1 kp dd tr m)
        exact zq_iret (by decide +kernel) rfl (by unfold zlad; rw [zfs_at hi3 (by rw [decide_eq_true (Decidable.not_not.mp c17), decide_eq_true c39]; rfl) hI3]) rfl
  · show zq_G _ _ _ _ _ 3 ([(0, .ref 32), (1, .int x), (2, .int y), (3, .int z), (4, .int 8)], [], XH tx n (nI P, nI C, nI R, nI L, hs, ss, cs, gs, vs) dr rd (nI D, sm, nI N, nI K, ce, de, ke, se) i0 i1 kp dd tr m)
    refine zq_b [zq_il 4, zq_k 8] [zq_ilchk 4, zq_kchk 8] 7 rfl (by decide +kernel) ?_
    show zq_G _ _ _ _ _ 7 ([(0, .ref 32), (1, .int x), (2, .int y), (3, .int z), (4, .int 8)], [.int 8, .int 8], XH tx n (nI P, nI C, nI R, nI L, hs, ss, cs, gs, vs) dr rd (nI D, sm, nI N, nI K, ce, de, ke, se) i0 i1 kp dd tr m)
    refine zq_if .ge 51 (8 ≤ 8) (by decide +kernel) (zq_cge (a := 8) (b := 8) (by omega) (by omega)) (fun c7 => ?_) (fun c7 => absurd (by omega) c7)
    show zq_G _ _ _ _ _ 51 ([(0, .ref 32), (1, .int x), (2, .int y), (3, .int z), (4, .int 8)], [], XH tx n (nI P, nI C, nI R, nI L, hs, ss, cs, gs, vs) dr rd (nI D, sm, nI N, nI K, ce, de, ke, se) i0 i1 kp dd tr m)
    refine zq_b [zq_k (-9)] [zq_kchk (-9)] 53 rfl (by decide +kernel) ?_
    show zq_G _ _ _ _ _ 53 ([(0, .ref 32), (1, .int x), (2, .int y), (3, .int z), (4, .int 8)], [.int (-9)], XH tx n (nI P, nI C, nI R, nI L, hs, ss, cs, gs, vs) dr rd (nI D, sm, nI N, nI K, ce, de, ke, se) i0 i1 kp dd tr m)
    exact zq_iret (by decide +kernel) rfl (by unfold zlad; rw [zfs_no hI3]) rfl
set_option maxHeartbeats 4000000 in
set_option maxRecDepth 100000 in
theorem c_whoHolds {x : Int32} {y : Int32} {z : Int32} (hN : N ≤ 12) (hR : R ≤ 6) : zq_P l mX1_whoHolds 3 [.ref 32, .int x, .int y, .int z] (XH tx n (nI P, nI C, nI R, nI L, hs, ss, cs, gs, vs) dr rd (nI D, sm, nI N, nI K, ce, de, ke, se) i0 i1 kp dd tr m) (some (.int (zwho (fun r => zac r vs gs R) (fun a => zown de N (nI a) y z) ((1 : Int32) <<< (x &&& 31))))) (XH tx n (nI P, nI C, nI R, nI L, hs, ss, cs, gs, vs) dr rd (nI D, sm, nI N, nI K, ce, de, ke, se) i0 i1 kp dd tr m) := by
  refine zq_start (by decide +kernel) rfl (Nat.le_of_ble_eq_true rfl) ?_
  show zq_G _ _ _ _ _ 0 ([(0, .ref 32), (1, .int x), (2, .int y), (3, .int z)], [], XH tx n (nI P, nI C, nI R, nI L, hs, ss, cs, gs, vs) dr rd (nI D, sm, nI N, nI K, ce, de, ke, se) i0 i1 kp dd tr m)
  refine zq_b [zq_k 1, zq_il 1, zq_ishl (1 <<< (x &&& 31)), zq_is1 4, zq_il 4, zq_is1 5, zq_k 0, zq_is1 6] [zq_kchk 1, zq_ilchk 1, zq_is .ishl 1, zq_is1chk 4, zq_ilchk 4, zq_is1chk 5, zq_kchk 0, zq_is1chk 6] 12 rfl (by decide +kernel) ?_
  refine ⟨rfl, ?_⟩
  show zq_G _ _ _ _ _ 12 ([(0, .ref 32), (1, .int x), (2, .int y), (3, .int z), (4, .int (1 <<< (x &&& 31))), (5, .int (1 <<< (x &&& 31))), (6, .int 0)], [], XH tx n (nI P, nI C, nI R, nI L, hs, ss, cs, gs, vs) dr rd (nI D, sm, nI N, nI K, ce, de, ke, se) i0 i1 kp dd tr m)
  refine zq_loop (fun i => ([(0, .ref 32), (1, .int x), (2, .int y), (3, .int z), (4, .int ((zrg (fun r => zac r vs gs R) ((1 : Int32) <<< (x &&& 31)) i).1)), (5, .int ((zrg (fun r => zac r vs gs R) ((1 : Int32) <<< (x &&& 31)) i).2)), (6, .int (nI i))], [], XH tx n (nI P, nI C, nI R, nI L, hs, ss, cs, gs, vs) dr rd (nI D, sm, nI N, nI K, ce, de, ke, se) i0 i1 kp dd tr m)) (fun i => ∀ j, j < i → decide (¬ zlad (fun a => zown de N (nI a) y z) (zrg (fun r => zac r vs gs R) ((1 : Int32) <<< (x &&& 31)) j).1 = -9) = false) (8) (0) (by omega) ((fun j hj => absurd hj (by omega))) (fun i hl12 hi12 hI12 ih12 => ?_) (fun hI12 => ?_)
  · show zq_G _ _ _ _ _ 12 ([(0, .ref 32), (1, .int x), (2, .int y), (3, .int z), (4, .int ((zrg (fun r => zac r vs gs R) ((1 : Int32) <<< (x &&& 31)) i).1)), (5, .int ((zrg (fun r => zac r vs gs R) ((1 : Int32) <<< (x &&& 31)) i).2)), (6, .int (nI i))], [], XH tx n (nI P, nI C, nI R, nI L, hs, ss, cs, gs, vs) dr rd (nI D, sm, nI N, nI K, ce, de, ke, se) i0 i1 kp dd tr m)
    refine zq_b [zq_il 6, zq_k 8] [zq_ilchk 6, zq_kchk 8] 16 rfl (by decide +kernel) ?_
    show zq_G _ _ _ _ _ 16 ([(0, .ref 32), (1, .int x), (2, .int y), (3, .int z), (4, .int ((zrg (fun r => zac r vs gs R) ((1 : Int32) <<< (x &&& 31)) i).1)), (5, .int ((zrg (fun r => zac r vs gs R) ((1 : Int32) <<< (x &&& 31)) i).2)), (6, .int (nI i))], [.int 8, .int (nI i)], XH tx n (nI P, nI C, nI R, nI L, hs, ss, cs, gs, vs) dr rd (nI D, sm, nI N, nI K, ce, de, ke, se) i0 i1 kp dd tr m)
    refine zq_if .ge 68 (8 ≤ i) (by decide +kernel) (zq_cge (a := i) (b := 8) (by omega) (by omega)) (fun c16 => absurd c16 (by omega)) (fun c16 => ?_)
    show zq_G _ _ _ _ _ 19 ([(0, .ref 32), (1, .int x), (2, .int y), (3, .int z), (4, .int ((zrg (fun r => zac r vs gs R) ((1 : Int32) <<< (x &&& 31)) i).1)), (5, .int ((zrg (fun r => zac r vs gs R) ((1 : Int32) <<< (x &&& 31)) i).2)), (6, .int (nI i))], [], XH tx n (nI P, nI C, nI R, nI L, hs, ss, cs, gs, vs) dr rd (nI D, sm, nI N, nI K, ce, de, ke, se) i0 i1 kp dd tr m)
    refine zq_b [zq_al 0, zq_il 4, zq_il 2, zq_il 3] [zq_alchk 0, zq_ilchk 4, zq_ilchk 2, zq_ilchk 3] 24 rfl (by decide +kernel) ?_
    show zq_G _ _ _ _ _ 24 ([(0, .ref 32), (1, .int x), (2, .int y), (3, .int z), (4, .int ((zrg (fun r => zac r vs gs R) ((1 : Int32) <<< (x &&& 31)) i).1)), (5, .int ((zrg (fun r => zac r vs gs R) ((1 : Int32) <<< (x &&& 31)) i).2)), (6, .int (nI i))], [.int z, .int y, .int ((zrg (fun r => zac r vs gs R) ((1 : Int32) <<< (x &&& 31)) i).1), .ref 32], XH tx n (nI P, nI C, nI R, nI L, hs, ss, cs, gs, vs) dr rd (nI D, sm, nI N, nI K, ce, de, ke, se) i0 i1 kp dd tr m)
    refine zq_callV (av := [.int ((zrg (fun r => zac r vs gs R) ((1 : Int32) <<< (x &&& 31)) i).1), .int y, .int z]) (rest := []) (by decide +kernel) k1_19 (c_leastActsDoer (x := ((zrg (fun r => zac r vs gs R) ((1 : Int32) <<< (x &&& 31)) i).1)) (y := y) (z := z) hN) rfl rfl rfl rfl ?_
    show zq_G _ _ _ _ _ 27 ([(0, .ref 32), (1, .int x), (2, .int y), (3, .int z), (4, .int ((zrg (fun r => zac r vs gs R) ((1 : Int32) <<< (x &&& 31)) i).1)), (5, .int ((zrg (fun r => zac r vs gs R) ((1 : Int32) <<< (x &&& 31)) i).2)), (6, .int (nI i))], [.int (zlad (fun a => zown de N (nI a) y z) ((zrg (fun r => zac r vs gs R) ((1 : Int32) <<< (x &&& 31)) i).1))], XH tx n (nI P, nI C, nI R, nI L, hs, ss, cs, gs, vs) dr rd (nI D, sm, nI N, nI K, ce, de, ke, se) i0 i1 kp dd tr m)
    refine zq_b [zq_is1 7, zq_il 7, zq_k (-9)] [zq_is1chk 7, zq_ilchk 7, zq_kchk (-9)] 33 rfl (by decide +kernel) ?_
    show zq_G _ _ _ _ _ 33 ([(0, .ref 32), (1, .int x), (2, .int y), (3, .int z), (4, .int ((zrg (fun r => zac r vs gs R) ((1 : Int32) <<< (x &&& 31)) i).1)), (5, .int ((zrg (fun r => zac r vs gs R) ((1 : Int32) <<< (x &&& 31)) i).2)), (6, .int (nI i)), (7, .int (zlad (fun a => zown de N (nI a) y z) ((zrg (fun r => zac r vs gs R) ((1 : Int32) <<< (x &&& 31)) i).1)))], [.int (-9), .int (zlad (fun a => zown de N (nI a) y z) ((zrg (fun r => zac r vs gs R) ((1 : Int32) <<< (x &&& 31)) i).1))], XH tx n (nI P, nI C, nI R, nI L, hs, ss, cs, gs, vs) dr rd (nI D, sm, nI N, nI K, ce, de, ke, se) i0 i1 kp dd tr m)
    refine zq_if .eq 39 ((zlad (fun a => zown de N (nI a) y z) ((zrg (fun r => zac r vs gs R) ((1 : Int32) <<< (x &&& 31)) i).1)) = (-9)) (by decide +kernel) (Iff.rfl) (fun c33 => ?_) (fun c33 => ?_)
    · show zq_G _ _ _ _ _ 39 ([(0, .ref 32), (1, .int x), (2, .int y), (3, .int z), (4, .int ((zrg (fun r => zac r vs gs R) ((1 : Int32) <<< (x &&& 31)) i).1)), (5, .int ((zrg (fun r => zac r vs gs R) ((1 : Int32) <<< (x &&& 31)) i).2)), (6, .int (nI i)), (7, .int (zlad (fun a => zown de N (nI a) y z) ((zrg (fun r => zac r vs gs R) ((1 : Int32) <<< (x &&& 31)) i).1)))], [], XH tx n (nI P, nI C, nI R, nI L, hs, ss, cs, gs, vs) dr rd (nI D, sm, nI N, nI K, ce, de, ke, se) i0 i1 kp dd tr m)
      refine zq_b [zq_al 0, zq_get 1 0, zq_il 4] [zq_alchk 0, zq_getchk 1 0, zq_ilchk 4] 45 rfl (by decide +kernel) ?_
      show zq_G _ _ _ _ _ 45 ([(0, .ref 32), (1, .int x), (2, .int y), (3, .int z), (4, .int ((zrg (fun r => zac r vs gs R) ((1 : Int32) <<< (x &&& 31)) i).1)), (5, .int ((zrg (fun r => zac r vs gs R) ((1 : Int32) <<< (x &&& 31)) i).2)), (6, .int (nI i)), (7, .int (zlad (fun a => zown de N (nI a) y z) ((zrg (fun r => zac r vs gs R) ((1 : Int32) <<< (x &&& 31)) i).1)))], [.int ((zrg (fun r => zac r vs gs R) ((1 : Int32) <<< (x &&& 31)) i).1), .ref 2], XH tx n (nI P, nI C, nI R, nI L, hs, ss, cs, gs, vs) dr rd (nI D, sm, nI N, nI K, ce, de, ke, se) i0 i1 kp dd tr m)
      refine zq_callV (av := [.int ((zrg (fun r => zac r vs gs R) ((1 : Int32) <<< (x &&& 31)) i).1)]) (rest := []) (by decide +kernel) k1_23 (c_actsGiving (x := ((zrg (fun r => zac r vs gs R) ((1 : Int32) <<< (x &&& 31)) i).1)) hR) rfl rfl rfl rfl ?_
      show zq_G _ _ _ _ _ 48 ([(0, .ref 32), (1, .int x), (2, .int y), (3, .int z), (4, .int ((zrg (fun r => zac r vs gs R) ((1 : Int32) <<< (x &&& 31)) i).1)), (5, .int ((zrg (fun r => zac r vs gs R) ((1 : Int32) <<< (x &&& 31)) i).2)), (6, .int (nI i)), (7, .int (zlad (fun a => zown de N (nI a) y z) ((zrg (fun r => zac r vs gs R) ((1 : Int32) <<< (x &&& 31)) i).1)))], [.int (zac ((zrg (fun r => zac r vs gs R) ((1 : Int32) <<< (x &&& 31)) i).1) vs gs R)], XH tx n (nI P, nI C, nI R, nI L, hs, ss, cs, gs, vs) dr rd (nI D, sm, nI N, nI K, ce, de, ke, se) i0 i1 kp dd tr m)
      refine zq_b [zq_il 5, zq_k (-1), zq_ixor (((zrg (fun r => zac r vs gs R) ((1 : Int32) <<< (x &&& 31)) i).2) ^^^ (-1)), zq_iand ((zac ((zrg (fun r => zac r vs gs R) ((1 : Int32) <<< (x &&& 31)) i).1) vs gs R) &&& (((zrg (fun r => zac r vs gs R) ((1 : Int32) <<< (x &&& 31)) i).2) ^^^ (-1))), zq_is1 4, zq_il 5, zq_il 4, zq_ior (((zrg (fun r => zac r vs gs R) ((1 : Int32) <<< (x &&& 31)) i).2) ||| ((zac ((zrg (fun r => zac r vs gs R) ((1 : Int32) <<< (x &&& 31)) i).1) vs gs R) &&& (((zrg (fun r => zac r vs gs R) ((1 : Int32) <<< (x &&& 31)) i).2) ^^^ (-1)))), zq_is1 5, zq_inc 6 1 (nI (i + 1)), zq_go] [zq_ilchk 5, zq_kchk (-1), zq_is .ixor 1, zq_is .iand 1, zq_is1chk 4, zq_ilchk 5, zq_ilchk 4, zq_is .ior 1, zq_is1chk 5, zq_incchk 6 1, zq_gochk] 12 rfl (by decide +kernel) ?_
      refine ⟨rfl, rfl, rfl, nI_add i 1, ?_⟩
      show zq_G _ _ _ _ _ 12 ([(0, .ref 32), (1, .int x), (2, .int y), (3, .int z), (4, .int ((zac ((zrg (fun r => zac r vs gs R) ((1 : Int32) <<< (x &&& 31)) i).1) vs gs R) &&& (((zrg (fun r => zac r vs gs R) ((1 : Int32) <<< (x &&& 31)) i).2) ^^^ (-1)))), (5, .int (((zrg (fun r => zac r vs gs R) ((1 : Int32) <<< (x &&& 31)) i).2) ||| ((zac ((zrg (fun r => zac r vs gs R) ((1 : Int32) <<< (x &&& 31)) i).1) vs gs R) &&& (((zrg (fun r => zac r vs gs R) ((1 : Int32) <<< (x &&& 31)) i).2) ^^^ (-1))))), (6, .int (nI (i + 1))), (7, .int (zlad (fun a => zown de N (nI a) y z) ((zrg (fun r => zac r vs gs R) ((1 : Int32) <<< (x &&& 31)) i).1)))], [], XH tx n (nI P, nI C, nI R, nI L, hs, ss, cs, gs, vs) dr rd (nI D, sm, nI N, nI K, ce, de, ke, se) i0 i1 kp dd tr m)
      refine zq_pick [0, 1, 2, 3, 4, 5, 6] rfl ?_
      show zq_G _ _ _ _ _ 12 ([(0, .ref 32), (1, .int x), (2, .int y), (3, .int z), (4, .int ((zac ((zrg (fun r => zac r vs gs R) ((1 : Int32) <<< (x &&& 31)) i).1) vs gs R) &&& (((zrg (fun r => zac r vs gs R) ((1 : Int32) <<< (x &&& 31)) i).2) ^^^ (-1)))), (5, .int (((zrg (fun r => zac r vs gs R) ((1 : Int32) <<< (x &&& 31)) i).2) ||| ((zac ((zrg (fun r => zac r vs gs R) ((1 : Int32) <<< (x &&& 31)) i).1) vs gs R) &&& (((zrg (fun r => zac r vs gs R) ((1 : Int32) <<< (x &&& 31)) i).2) ^^^ (-1))))), (6, .int (nI (i + 1)))], [], XH tx n (nI P, nI C, nI R, nI L, hs, ss, cs, gs, vs) dr rd (nI D, sm, nI N, nI K, ce, de, ke, se) i0 i1 kp dd tr m)
      exact ih12 (lt_ext hI12 (decide_eq_false (fun q => q c33)))
    · show zq_G _ _ _ _ _ 36 ([(0, .ref 32), (1, .int x), (2, .int y), (3, .int z), (4, .int ((zrg (fun r => zac r vs gs R) ((1 : Int32) <<< (x &&& 31)) i).1)), (5, .int ((zrg (fun r => zac r vs gs R) ((1 : Int32) <<< (x &&& 31)) i).2)), (6, .int (nI i)), (7, .int (zlad (fun a => zown de N (nI a) y z) ((zrg (fun r => zac r vs gs R) ((1 : Int32) <<< (x &&& 31)) i).1)))], [], XH tx n (nI P, nI C, nI R, nI L, hs, ss, cs, gs, vs) dr rd (nI D, sm, nI N, nI K, ce, de, ke, se) i0 i1 kp dd tr m)
      refine zq_b [zq_il 7] [zq_ilchk 7] 38 rfl (by decide +kernel) ?_
      show zq_G _ _ _ _ _ 38 ([(0, .ref 32), (1, .int x), (2, .int y), (3, .int z), (4, .int ((zrg (fun r => zac r vs gs R) ((1 : Int32) <<< (x &&& 31)) i).1)), (5, .int ((zrg (fun r => zac r vs gs R) ((1 : Int32) <<< (x &&& 31)) i).2)), (6, .int (nI i)), (7, .int (zlad (fun a => zown de N (nI a) y z) ((zrg (fun r => zac r vs gs R) ((1 : Int32) <<< (x &&& 31)) i).1)))], [.int (zlad (fun a => zown de N (nI a) y z) ((zrg (fun r => zac r vs gs R) ((1 : Int32) <<< (x &&& 31)) i).1))], XH tx n (nI P, nI C, nI R, nI L, hs, ss, cs, gs, vs) dr rd (nI D, sm, nI N, nI K, ce, de, ke, se) i0 i1 kp dd tr m)
      exact zq_iret (by decide +kernel) rfl (by unfold zwho; rw [zfs_at hi12 (decide_eq_true c33) hI12]) rfl
  · show zq_G _ _ _ _ _ 12 ([(0, .ref 32), (1, .int x), (2, .int y), (3, .int z), (4, .int ((zrg (fun r => zac r vs gs R) ((1 : Int32) <<< (x &&& 31)) 8).1)), (5, .int ((zrg (fun r => zac r vs gs R) ((1 : Int32) <<< (x &&& 31)) 8).2)), (6, .int 8)], [], XH tx n (nI P, nI C, nI R, nI L, hs, ss, cs, gs, vs) dr rd (nI D, sm, nI N, nI K, ce, de, ke, se) i0 i1 kp dd tr m)
    refine zq_b [zq_il 6, zq_k 8] [zq_ilchk 6, zq_kchk 8] 16 rfl (by decide +kernel) ?_
    show zq_G _ _ _ _ _ 16 ([(0, .ref 32), (1, .int x), (2, .int y), (3, .int z), (4, .int ((zrg (fun r => zac r vs gs R) ((1 : Int32) <<< (x &&& 31)) 8).1)), (5, .int ((zrg (fun r => zac r vs gs R) ((1 : Int32) <<< (x &&& 31)) 8).2)), (6, .int 8)], [.int 8, .int 8], XH tx n (nI P, nI C, nI R, nI L, hs, ss, cs, gs, vs) dr rd (nI D, sm, nI N, nI K, ce, de, ke, se) i0 i1 kp dd tr m)
    refine zq_if .ge 68 (8 ≤ 8) (by decide +kernel) (zq_cge (a := 8) (b := 8) (by omega) (by omega)) (fun c16 => ?_) (fun c16 => absurd (by omega) c16)
    show zq_G _ _ _ _ _ 68 ([(0, .ref 32), (1, .int x), (2, .int y), (3, .int z), (4, .int ((zrg (fun r => zac r vs gs R) ((1 : Int32) <<< (x &&& 31)) 8).1)), (5, .int ((zrg (fun r => zac r vs gs R) ((1 : Int32) <<< (x &&& 31)) 8).2)), (6, .int 8)], [], XH tx n (nI P, nI C, nI R, nI L, hs, ss, cs, gs, vs) dr rd (nI D, sm, nI N, nI K, ce, de, ke, se) i0 i1 kp dd tr m)
    refine zq_b [zq_k (-9)] [zq_kchk (-9)] 70 rfl (by decide +kernel) ?_
    show zq_G _ _ _ _ _ 70 ([(0, .ref 32), (1, .int x), (2, .int y), (3, .int z), (4, .int ((zrg (fun r => zac r vs gs R) ((1 : Int32) <<< (x &&& 31)) 8).1)), (5, .int ((zrg (fun r => zac r vs gs R) ((1 : Int32) <<< (x &&& 31)) 8).2)), (6, .int 8)], [.int (-9)], XH tx n (nI P, nI C, nI R, nI L, hs, ss, cs, gs, vs) dr rd (nI D, sm, nI N, nI K, ce, de, ke, se) i0 i1 kp dd tr m)
    exact zq_iret (by decide +kernel) rfl (by unfold zwho; rw [zfs_no hI12]) rfl
set_option maxHeartbeats 4000000 in
set_option maxRecDepth 100000 in
theorem c_comesBack {x : Int32} (hR : R ≤ 6) : zq_P l mX1_comesBack 3 [.ref 32, .int x] (XH tx n (nI P, nI C, nI R, nI L, hs, ss, cs, gs, vs) dr rd (nI D, sm, nI N, nI K, ce, de, ke, se) i0 i1 kp dd tr m) (some (.int (zb (zbit (zrc (fun r => zac r gs vs R) (zac ((1 : Int32) <<< (x &&& 31)) gs vs R) 8) x = 1)))) (XH tx n (nI P, nI C, nI R, nI L, hs, ss, cs, gs, vs) dr rd (nI D, sm, nI N, nI K, ce, de, ke, se) i0 i1 kp dd tr m) := by
  refine zq_start (by decide +kernel) rfl (Nat.le_of_ble_eq_true rfl) ?_
  show zq_G _ _ _ _ _ 0 ([(0, .ref 32), (1, .int x)], [], XH tx n (nI P, nI C, nI R, nI L, hs, ss, cs, gs, vs) dr rd (nI D, sm, nI N, nI K, ce, de, ke, se) i0 i1 kp dd tr m)
  refine zq_b [zq_al 0, zq_get 1 0, zq_k 1, zq_il 1, zq_ishl (1 <<< (x &&& 31))] [zq_alchk 0, zq_getchk 1 0, zq_kchk 1, zq_ilchk 1, zq_is .ishl 1] 7 rfl (by decide +kernel) ?_
  refine ⟨rfl, ?_⟩
  show zq_G _ _ _ _ _ 7 ([(0, .ref 32), (1, .int x)], [.int (1 <<< (x &&& 31)), .ref 2], XH tx n (nI P, nI C, nI R, nI L, hs, ss, cs, gs, vs) dr rd (nI D, sm, nI N, nI K, ce, de, ke, se) i0 i1 kp dd tr m)
  refine zq_callV (av := [.int (1 <<< (x &&& 31))]) (rest := []) (by decide +kernel) k1_45 (c_actsGivenBy (x := (1 <<< (x &&& 31))) hR) rfl rfl rfl rfl ?_
  show zq_G _ _ _ _ _ 10 ([(0, .ref 32), (1, .int x)], [.int (zac (1 <<< (x &&& 31)) gs vs R)], XH tx n (nI P, nI C, nI R, nI L, hs, ss, cs, gs, vs) dr rd (nI D, sm, nI N, nI K, ce, de, ke, se) i0 i1 kp dd tr m)
  refine zq_b [zq_is1 2, zq_k 0, zq_is1 3] [zq_is1chk 2, zq_kchk 0, zq_is1chk 3] 13 rfl (by decide +kernel) ?_
  show zq_G _ _ _ _ _ 13 ([(0, .ref 32), (1, .int x), (2, .int (zac (1 <<< (x &&& 31)) gs vs R)), (3, .int 0)], [], XH tx n (nI P, nI C, nI R, nI L, hs, ss, cs, gs, vs) dr rd (nI D, sm, nI N, nI K, ce, de, ke, se) i0 i1 kp dd tr m)
  refine zq_loop (fun i => ([(0, .ref 32), (1, .int x), (2, .int (zrc (fun r => zac r gs vs R) (zac ((1 : Int32) <<< (x &&& 31)) gs vs R) i)), (3, .int (nI i))], [], XH tx n (nI P, nI C, nI R, nI L, hs, ss, cs, gs, vs) dr rd (nI D, sm, nI N, nI K, ce, de, ke, se) i0 i1 kp dd tr m)) (fun i => True) (8) (0) (by omega) (trivial) (fun i hl13 hi13 hI13 ih13 => ?_) (fun hI13 => ?_)
  · show zq_G _ _ _ _ _ 13 ([(0, .ref 32), (1, .int x), (2, .int (zrc (fun r => zac r gs vs R) (zac ((1 : Int32) <<< (x &&& 31)) gs vs R) i)), (3, .int (nI i))], [], XH tx n (nI P, nI C, nI R, nI L, hs, ss, cs, gs, vs) dr rd (nI D, sm, nI N, nI K, ce, de, ke, se) i0 i1 kp dd tr m)
    refine zq_b [zq_il 3, zq_k 8] [zq_ilchk 3, zq_kchk 8] 16 rfl (by decide +kernel) ?_
    show zq_G _ _ _ _ _ 16 ([(0, .ref 32), (1, .int x), (2, .int (zrc (fun r => zac r gs vs R) (zac ((1 : Int32) <<< (x &&& 31)) gs vs R) i)), (3, .int (nI i))], [.int 8, .int (nI i)], XH tx n (nI P, nI C, nI R, nI L, hs, ss, cs, gs, vs) dr rd (nI D, sm, nI N, nI K, ce, de, ke, se) i0 i1 kp dd tr m)
    refine zq_if .ge 36 (8 ≤ i) (by decide +kernel) (zq_cge (a := i) (b := 8) (by omega) (by omega)) (fun c16 => absurd c16 (by omega)) (fun c16 => ?_)
    show zq_G _ _ _ _ _ 19 ([(0, .ref 32), (1, .int x), (2, .int (zrc (fun r => zac r gs vs R) (zac ((1 : Int32) <<< (x &&& 31)) gs vs R) i)), (3, .int (nI i))], [], XH tx n (nI P, nI C, nI R, nI L, hs, ss, cs, gs, vs) dr rd (nI D, sm, nI N, nI K, ce, de, ke, se) i0 i1 kp dd tr m)
    refine zq_b [zq_il 2, zq_al 0, zq_get 1 0, zq_il 2] [zq_ilchk 2, zq_alchk 0, zq_getchk 1 0, zq_ilchk 2] 25 rfl (by decide +kernel) ?_
    show zq_G _ _ _ _ _ 25 ([(0, .ref 32), (1, .int x), (2, .int (zrc (fun r => zac r gs vs R) (zac ((1 : Int32) <<< (x &&& 31)) gs vs R) i)), (3, .int (nI i))], [.int (zrc (fun r => zac r gs vs R) (zac ((1 : Int32) <<< (x &&& 31)) gs vs R) i), .ref 2, .int (zrc (fun r => zac r gs vs R) (zac ((1 : Int32) <<< (x &&& 31)) gs vs R) i)], XH tx n (nI P, nI C, nI R, nI L, hs, ss, cs, gs, vs) dr rd (nI D, sm, nI N, nI K, ce, de, ke, se) i0 i1 kp dd tr m)
    refine zq_callV (av := [.int (zrc (fun r => zac r gs vs R) (zac ((1 : Int32) <<< (x &&& 31)) gs vs R) i)]) (rest := [.int (zrc (fun r => zac r gs vs R) (zac ((1 : Int32) <<< (x &&& 31)) gs vs R) i)]) (by decide +kernel) k1_45 (c_actsGivenBy (x := (zrc (fun r => zac r gs vs R) (zac ((1 : Int32) <<< (x &&& 31)) gs vs R) i)) hR) rfl rfl rfl rfl ?_
    show zq_G _ _ _ _ _ 28 ([(0, .ref 32), (1, .int x), (2, .int (zrc (fun r => zac r gs vs R) (zac ((1 : Int32) <<< (x &&& 31)) gs vs R) i)), (3, .int (nI i))], [.int (zac (zrc (fun r => zac r gs vs R) (zac ((1 : Int32) <<< (x &&& 31)) gs vs R) i) gs vs R), .int (zrc (fun r => zac r gs vs R) (zac ((1 : Int32) <<< (x &&& 31)) gs vs R) i)], XH tx n (nI P, nI C, nI R, nI L, hs, ss, cs, gs, vs) dr rd (nI D, sm, nI N, nI K, ce, de, ke, se) i0 i1 kp dd tr m)
    refine zq_b [zq_ior ((zrc (fun r => zac r gs vs R) (zac ((1 : Int32) <<< (x &&& 31)) gs vs R) i) ||| (zac (zrc (fun r => zac r gs vs R) (zac ((1 : Int32) <<< (x &&& 31)) gs vs R) i) gs vs R)), zq_is1 2, zq_inc 3 1 (nI (i + 1)), zq_go] [zq_is .ior 1, zq_is1chk 2, zq_incchk 3 1, zq_gochk] 13 rfl (by decide +kernel) ?_
    refine ⟨rfl, nI_add i 1, ?_⟩
    show zq_G _ _ _ _ _ 13 ([(0, .ref 32), (1, .int x), (2, .int ((zrc (fun r => zac r gs vs R) (zac ((1 : Int32) <<< (x &&& 31)) gs vs R) i) ||| (zac (zrc (fun r => zac r gs vs R) (zac ((1 : Int32) <<< (x &&& 31)) gs vs R) i) gs vs R))), (3, .int (nI (i + 1)))], [], XH tx n (nI P, nI C, nI R, nI L, hs, ss, cs, gs, vs) dr rd (nI D, sm, nI N, nI K, ce, de, ke, se) i0 i1 kp dd tr m)
    exact ih13 trivial
  · show zq_G _ _ _ _ _ 13 ([(0, .ref 32), (1, .int x), (2, .int (zrc (fun r => zac r gs vs R) (zac ((1 : Int32) <<< (x &&& 31)) gs vs R) 8)), (3, .int 8)], [], XH tx n (nI P, nI C, nI R, nI L, hs, ss, cs, gs, vs) dr rd (nI D, sm, nI N, nI K, ce, de, ke, se) i0 i1 kp dd tr m)
    refine zq_b [zq_il 3, zq_k 8] [zq_ilchk 3, zq_kchk 8] 16 rfl (by decide +kernel) ?_
    show zq_G _ _ _ _ _ 16 ([(0, .ref 32), (1, .int x), (2, .int (zrc (fun r => zac r gs vs R) (zac ((1 : Int32) <<< (x &&& 31)) gs vs R) 8)), (3, .int 8)], [.int 8, .int 8], XH tx n (nI P, nI C, nI R, nI L, hs, ss, cs, gs, vs) dr rd (nI D, sm, nI N, nI K, ce, de, ke, se) i0 i1 kp dd tr m)
    refine zq_if .ge 36 (8 ≤ 8) (by decide +kernel) (zq_cge (a := 8) (b := 8) (by omega) (by omega)) (fun c16 => ?_) (fun c16 => absurd (by omega) c16)
    show zq_G _ _ _ _ _ 36 ([(0, .ref 32), (1, .int x), (2, .int (zrc (fun r => zac r gs vs R) (zac ((1 : Int32) <<< (x &&& 31)) gs vs R) 8)), (3, .int 8)], [], XH tx n (nI P, nI C, nI R, nI L, hs, ss, cs, gs, vs) dr rd (nI D, sm, nI N, nI K, ce, de, ke, se) i0 i1 kp dd tr m)
    refine zq_b [zq_il 2, zq_il 1] [zq_ilchk 2, zq_ilchk 1] 38 rfl (by decide +kernel) ?_
    show zq_G _ _ _ _ _ 38 ([(0, .ref 32), (1, .int x), (2, .int (zrc (fun r => zac r gs vs R) (zac ((1 : Int32) <<< (x &&& 31)) gs vs R) 8)), (3, .int 8)], [.int x, .int (zrc (fun r => zac r gs vs R) (zac ((1 : Int32) <<< (x &&& 31)) gs vs R) 8)], XH tx n (nI P, nI C, nI R, nI L, hs, ss, cs, gs, vs) dr rd (nI D, sm, nI N, nI K, ce, de, ke, se) i0 i1 kp dd tr m)
    refine zq_callN (av := [.int (zrc (fun r => zac r gs vs R) (zac ((1 : Int32) <<< (x &&& 31)) gs vs R) 8), .int x]) (rest := []) (by decide +kernel) k1_29 (c_bit (x := (zrc (fun r => zac r gs vs R) (zac ((1 : Int32) <<< (x &&& 31)) gs vs R) 8)) (p := x)) rfl rfl ?_
    show zq_G _ _ _ _ _ 41 ([(0, .ref 32), (1, .int x), (2, .int (zrc (fun r => zac r gs vs R) (zac ((1 : Int32) <<< (x &&& 31)) gs vs R) 8)), (3, .int 8)], [.int (zbit (zrc (fun r => zac r gs vs R) (zac ((1 : Int32) <<< (x &&& 31)) gs vs R) 8) x)], XH tx n (nI P, nI C, nI R, nI L, hs, ss, cs, gs, vs) dr rd (nI D, sm, nI N, nI K, ce, de, ke, se) i0 i1 kp dd tr m)
    refine zq_b [zq_k 1] [zq_kchk 1] 42 rfl (by decide +kernel) ?_
    show zq_G _ _ _ _ _ 42 ([(0, .ref 32), (1, .int x), (2, .int (zrc (fun r => zac r gs vs R) (zac ((1 : Int32) <<< (x &&& 31)) gs vs R) 8)), (3, .int 8)], [.int 1, .int (zbit (zrc (fun r => zac r gs vs R) (zac ((1 : Int32) <<< (x &&& 31)) gs vs R) 8) x)], XH tx n (nI P, nI C, nI R, nI L, hs, ss, cs, gs, vs) dr rd (nI D, sm, nI N, nI K, ce, de, ke, se) i0 i1 kp dd tr m)
    refine zq_if .ne 49 (¬ (zbit (zrc (fun r => zac r gs vs R) (zac ((1 : Int32) <<< (x &&& 31)) gs vs R) 8) x) = 1) (by decide +kernel) (Iff.rfl) (fun c42 => ?_) (fun c42 => ?_)
    · show zq_G _ _ _ _ _ 49 ([(0, .ref 32), (1, .int x), (2, .int (zrc (fun r => zac r gs vs R) (zac ((1 : Int32) <<< (x &&& 31)) gs vs R) 8)), (3, .int 8)], [], XH tx n (nI P, nI C, nI R, nI L, hs, ss, cs, gs, vs) dr rd (nI D, sm, nI N, nI K, ce, de, ke, se) i0 i1 kp dd tr m)
      refine zq_b [zq_k 0] [zq_kchk 0] 50 rfl (by decide +kernel) ?_
      show zq_G _ _ _ _ _ 50 ([(0, .ref 32), (1, .int x), (2, .int (zrc (fun r => zac r gs vs R) (zac ((1 : Int32) <<< (x &&& 31)) gs vs R) 8)), (3, .int 8)], [.int 0], XH tx n (nI P, nI C, nI R, nI L, hs, ss, cs, gs, vs) dr rd (nI D, sm, nI N, nI K, ce, de, ke, se) i0 i1 kp dd tr m)
      exact zq_zret (by decide +kernel) rfl (Or.inl rfl) (zb_r (zb_f c42)) rfl
    · show zq_G _ _ _ _ _ 45 ([(0, .ref 32), (1, .int x), (2, .int (zrc (fun r => zac r gs vs R) (zac ((1 : Int32) <<< (x &&& 31)) gs vs R) 8)), (3, .int 8)], [], XH tx n (nI P, nI C, nI R, nI L, hs, ss, cs, gs, vs) dr rd (nI D, sm, nI N, nI K, ce, de, ke, se) i0 i1 kp dd tr m)
      refine zq_b [zq_k 1, zq_go] [zq_kchk 1, zq_gochk] 50 rfl (by decide +kernel) ?_
      show zq_G _ _ _ _ _ 50 ([(0, .ref 32), (1, .int x), (2, .int (zrc (fun r => zac r gs vs R) (zac ((1 : Int32) <<< (x &&& 31)) gs vs R) 8)), (3, .int 8)], [.int 1], XH tx n (nI P, nI C, nI R, nI L, hs, ss, cs, gs, vs) dr rd (nI D, sm, nI N, nI K, ce, de, ke, se) i0 i1 kp dd tr m)
      exact zq_zret (by decide +kernel) rfl (Or.inr rfl) (zb_r (zb_t (Decidable.not_not.mp c42))) rfl
set_option maxHeartbeats 4000000 in
set_option maxRecDepth 100000 in
theorem c_get {Q : Nat} {k : Nat} (hQ : Q < 12) (hk : k < 5) : zq_P l mX0_get 1 [.ref 33, .int (nI k)] (XH tx n (nI P, nI C, nI R, nI L, hs, ss, cs, gs, vs) dr rd (nI D, sm, nI N, nI K, ce, de, ke, se) i0 i1 kp (nI Q) tr m) (some (.int (de (Q * 5 + k)))) (XH tx n (nI P, nI C, nI R, nI L, hs, ss, cs, gs, vs) dr rd (nI D, sm, nI N, nI K, ce, de, ke, se) i0 i1 kp (nI Q) tr m) := by
  refine zq_start (by decide +kernel) rfl (Nat.le_of_ble_eq_true rfl) ?_
  show zq_G _ _ _ _ _ 0 ([(0, .ref 33), (1, .int (nI k))], [], XH tx n (nI P, nI C, nI R, nI L, hs, ss, cs, gs, vs) dr rd (nI D, sm, nI N, nI K, ce, de, ke, se) i0 i1 kp (nI Q) tr m)
  refine zq_b [zq_al 0, zq_get 0 1, zq_al 0, zq_get 0 2, zq_il 1] [zq_alchk 0, zq_getchk 0 1, zq_alchk 0, zq_getchk 0 2, zq_ilchk 1] 9 rfl (by decide +kernel) ?_
  show zq_G _ _ _ _ _ 9 ([(0, .ref 33), (1, .int (nI k))], [.int (nI k), .int (nI Q), .ref 15], XH tx n (nI P, nI C, nI R, nI L, hs, ss, cs, gs, vs) dr rd (nI D, sm, nI N, nI K, ce, de, ke, se) i0 i1 kp (nI Q) tr m)
  refine zq_callV (av := [.int (nI Q), .int (nI k)]) (rest := []) (by decide +kernel) k0_21 (c_ofDeed (i := Q) (k := k) (by omega) (by omega)) rfl rfl rfl rfl ?_
  show zq_G _ _ _ _ _ 12 ([(0, .ref 33), (1, .int (nI k))], [.int (de (Q * 5 + k))], XH tx n (nI P, nI C, nI R, nI L, hs, ss, cs, gs, vs) dr rd (nI D, sm, nI N, nI K, ce, de, ke, se) i0 i1 kp (nI Q) tr m)
  exact zq_iret (by decide +kernel) rfl rfl rfl
set_option maxHeartbeats 4000000 in
set_option maxRecDepth 100000 in
theorem c_plain_35 {Q : Nat} (hQ : Q < 12) : zq_P l mX6_worth 2 [.ref 35, .ref 33] (XH tx n (nI P, nI C, nI R, nI L, hs, ss, cs, gs, vs) dr rd (nI D, sm, nI N, nI K, ce, de, ke, se) i0 i1 kp (nI Q) tr m) (some (.int (de (Q * 5 + 2)))) (XH tx n (nI P, nI C, nI R, nI L, hs, ss, cs, gs, vs) dr rd (nI D, sm, nI N, nI K, ce, de, ke, se) i0 i1 kp (nI Q) (tr + 1) m) := by
  refine zq_start (by decide +kernel) rfl (Nat.le_of_ble_eq_true rfl) ?_
  show zq_G _ _ _ _ _ 0 ([(0, .ref 35), (1, .ref 33)], [], XH tx n (nI P, nI C, nI R, nI L, hs, ss, cs, gs, vs) dr rd (nI D, sm, nI N, nI K, ce, de, ke, se) i0 i1 kp (nI Q) tr m)
  refine zq_b [zq_al 1, zq_dup, zq_get 0 3, zq_kj 1, zq_ladd (tr + 1), zq_putj 0 3, zq_al 1, zq_k 2] [zq_alchk 1, zq_is .dup 1, zq_getchk 0 3, zq_klchk 1, zq_is .ladd 1, zq_putchk 0 3 .long, zq_alchk 1, zq_kchk 2] 12 rfl (by decide +kernel) ?_
  refine ⟨rfl, ?_⟩
  show zq_G _ _ _ _ _ 12 ([(0, .ref 35), (1, .ref 33)], [.int 2, .ref 33], XH tx n (nI P, nI C, nI R, nI L, hs, ss, cs, gs, vs) dr rd (nI D, sm, nI N, nI K, ce, de, ke, se) i0 i1 kp (nI Q) (tr + 1) m)
  refine zq_callV (av := [.int 2]) (rest := []) (by decide +kernel) k6_15 (c_get (Q := Q) (k := 2) (by omega) (by omega)) rfl rfl rfl rfl ?_
  show zq_G _ _ _ _ _ 15 ([(0, .ref 35), (1, .ref 33)], [.int (de (Q * 5 + 2))], XH tx n (nI P, nI C, nI R, nI L, hs, ss, cs, gs, vs) dr rd (nI D, sm, nI N, nI K, ce, de, ke, se) i0 i1 kp (nI Q) (tr + 1) m)
  exact zq_iret (by decide +kernel) rfl rfl rfl
set_option maxHeartbeats 4000000 in
set_option maxRecDepth 100000 in
theorem c_plain_36 {Q : Nat} (hQ : Q < 12) : zq_P l mX6_worth 2 [.ref 36, .ref 33] (XH tx n (nI P, nI C, nI R, nI L, hs, ss, cs, gs, vs) dr rd (nI D, sm, nI N, nI K, ce, de, ke, se) i0 i1 kp (nI Q) tr m) (some (.int (de (Q * 5 + 2)))) (XH tx n (nI P, nI C, nI R, nI L, hs, ss, cs, gs, vs) dr rd (nI D, sm, nI N, nI K, ce, de, ke, se) i0 i1 kp (nI Q) (tr + 1) m) := by
  refine zq_start (by decide +kernel) rfl (Nat.le_of_ble_eq_true rfl) ?_
  show zq_G _ _ _ _ _ 0 ([(0, .ref 36), (1, .ref 33)], [], XH tx n (nI P, nI C, nI R, nI L, hs, ss, cs, gs, vs) dr rd (nI D, sm, nI N, nI K, ce, de, ke, se) i0 i1 kp (nI Q) tr m)
  refine zq_b [zq_al 1, zq_dup, zq_get 0 3, zq_kj 1, zq_ladd (tr + 1), zq_putj 0 3, zq_al 1, zq_k 2] [zq_alchk 1, zq_is .dup 1, zq_getchk 0 3, zq_klchk 1, zq_is .ladd 1, zq_putchk 0 3 .long, zq_alchk 1, zq_kchk 2] 12 rfl (by decide +kernel) ?_
  refine ⟨rfl, ?_⟩
  show zq_G _ _ _ _ _ 12 ([(0, .ref 36), (1, .ref 33)], [.int 2, .ref 33], XH tx n (nI P, nI C, nI R, nI L, hs, ss, cs, gs, vs) dr rd (nI D, sm, nI N, nI K, ce, de, ke, se) i0 i1 kp (nI Q) (tr + 1) m)
  refine zq_callV (av := [.int 2]) (rest := []) (by decide +kernel) k6_15 (c_get (Q := Q) (k := 2) (by omega) (by omega)) rfl rfl rfl rfl ?_
  show zq_G _ _ _ _ _ 15 ([(0, .ref 36), (1, .ref 33)], [.int (de (Q * 5 + 2))], XH tx n (nI P, nI C, nI R, nI L, hs, ss, cs, gs, vs) dr rd (nI D, sm, nI N, nI K, ce, de, ke, se) i0 i1 kp (nI Q) (tr + 1) m)
  exact zq_iret (by decide +kernel) rfl rfl rfl
set_option maxHeartbeats 4000000 in
set_option maxRecDepth 100000 in
theorem c_plain_37 {Q : Nat} (hQ : Q < 12) : zq_P l mX6_worth 2 [.ref 37, .ref 33] (XH tx n (nI P, nI C, nI R, nI L, hs, ss, cs, gs, vs) dr rd (nI D, sm, nI N, nI K, ce, de, ke, se) i0 i1 kp (nI Q) tr m) (some (.int (de (Q * 5 + 2)))) (XH tx n (nI P, nI C, nI R, nI L, hs, ss, cs, gs, vs) dr rd (nI D, sm, nI N, nI K, ce, de, ke, se) i0 i1 kp (nI Q) (tr + 1) m) := by
  refine zq_start (by decide +kernel) rfl (Nat.le_of_ble_eq_true rfl) ?_
  show zq_G _ _ _ _ _ 0 ([(0, .ref 37), (1, .ref 33)], [], XH tx n (nI P, nI C, nI R, nI L, hs, ss, cs, gs, vs) dr rd (nI D, sm, nI N, nI K, ce, de, ke, se) i0 i1 kp (nI Q) tr m)
  refine zq_b [zq_al 1, zq_dup, zq_get 0 3, zq_kj 1, zq_ladd (tr + 1), zq_putj 0 3, zq_al 1, zq_k 2] [zq_alchk 1, zq_is .dup 1, zq_getchk 0 3, zq_klchk 1, zq_is .ladd 1, zq_putchk 0 3 .long, zq_alchk 1, zq_kchk 2] 12 rfl (by decide +kernel) ?_
  refine ⟨rfl, ?_⟩
  show zq_G _ _ _ _ _ 12 ([(0, .ref 37), (1, .ref 33)], [.int 2, .ref 33], XH tx n (nI P, nI C, nI R, nI L, hs, ss, cs, gs, vs) dr rd (nI D, sm, nI N, nI K, ce, de, ke, se) i0 i1 kp (nI Q) (tr + 1) m)
  refine zq_callV (av := [.int 2]) (rest := []) (by decide +kernel) k6_15 (c_get (Q := Q) (k := 2) (by omega) (by omega)) rfl rfl rfl rfl ?_
  show zq_G _ _ _ _ _ 15 ([(0, .ref 37), (1, .ref 33)], [.int (de (Q * 5 + 2))], XH tx n (nI P, nI C, nI R, nI L, hs, ss, cs, gs, vs) dr rd (nI D, sm, nI N, nI K, ce, de, ke, se) i0 i1 kp (nI Q) (tr + 1) m)
  exact zq_iret (by decide +kernel) rfl rfl rfl
set_option maxHeartbeats 4000000 in
set_option maxRecDepth 100000 in
theorem c_plain_38 {Q : Nat} (hQ : Q < 12) : zq_P l mX6_worth 2 [.ref 38, .ref 33] (XH tx n (nI P, nI C, nI R, nI L, hs, ss, cs, gs, vs) dr rd (nI D, sm, nI N, nI K, ce, de, ke, se) i0 i1 kp (nI Q) tr m) (some (.int (de (Q * 5 + 2)))) (XH tx n (nI P, nI C, nI R, nI L, hs, ss, cs, gs, vs) dr rd (nI D, sm, nI N, nI K, ce, de, ke, se) i0 i1 kp (nI Q) (tr + 1) m) := by
  refine zq_start (by decide +kernel) rfl (Nat.le_of_ble_eq_true rfl) ?_
  show zq_G _ _ _ _ _ 0 ([(0, .ref 38), (1, .ref 33)], [], XH tx n (nI P, nI C, nI R, nI L, hs, ss, cs, gs, vs) dr rd (nI D, sm, nI N, nI K, ce, de, ke, se) i0 i1 kp (nI Q) tr m)
  refine zq_b [zq_al 1, zq_dup, zq_get 0 3, zq_kj 1, zq_ladd (tr + 1), zq_putj 0 3, zq_al 1, zq_k 2] [zq_alchk 1, zq_is .dup 1, zq_getchk 0 3, zq_klchk 1, zq_is .ladd 1, zq_putchk 0 3 .long, zq_alchk 1, zq_kchk 2] 12 rfl (by decide +kernel) ?_
  refine ⟨rfl, ?_⟩
  show zq_G _ _ _ _ _ 12 ([(0, .ref 38), (1, .ref 33)], [.int 2, .ref 33], XH tx n (nI P, nI C, nI R, nI L, hs, ss, cs, gs, vs) dr rd (nI D, sm, nI N, nI K, ce, de, ke, se) i0 i1 kp (nI Q) (tr + 1) m)
  refine zq_callV (av := [.int 2]) (rest := []) (by decide +kernel) k6_15 (c_get (Q := Q) (k := 2) (by omega) (by omega)) rfl rfl rfl rfl ?_
  show zq_G _ _ _ _ _ 15 ([(0, .ref 38), (1, .ref 33)], [.int (de (Q * 5 + 2))], XH tx n (nI P, nI C, nI R, nI L, hs, ss, cs, gs, vs) dr rd (nI D, sm, nI N, nI K, ce, de, ke, se) i0 i1 kp (nI Q) (tr + 1) m)
  exact zq_iret (by decide +kernel) rfl rfl rfl
set_option maxHeartbeats 4000000 in
set_option maxRecDepth 100000 in
theorem c_plain_39 {Q : Nat} (hQ : Q < 12) : zq_P l mX6_worth 2 [.ref 39, .ref 33] (XH tx n (nI P, nI C, nI R, nI L, hs, ss, cs, gs, vs) dr rd (nI D, sm, nI N, nI K, ce, de, ke, se) i0 i1 kp (nI Q) tr m) (some (.int (de (Q * 5 + 2)))) (XH tx n (nI P, nI C, nI R, nI L, hs, ss, cs, gs, vs) dr rd (nI D, sm, nI N, nI K, ce, de, ke, se) i0 i1 kp (nI Q) (tr + 1) m) := by
  refine zq_start (by decide +kernel) rfl (Nat.le_of_ble_eq_true rfl) ?_
  show zq_G _ _ _ _ _ 0 ([(0, .ref 39), (1, .ref 33)], [], XH tx n (nI P, nI C, nI R, nI L, hs, ss, cs, gs, vs) dr rd (nI D, sm, nI N, nI K, ce, de, ke, se) i0 i1 kp (nI Q) tr m)
  refine zq_b [zq_al 1, zq_dup, zq_get 0 3, zq_kj 1, zq_ladd (tr + 1), zq_putj 0 3, zq_al 1, zq_k 2] [zq_alchk 1, zq_is .dup 1, zq_getchk 0 3, zq_klchk 1, zq_is .ladd 1, zq_putchk 0 3 .long, zq_alchk 1, zq_kchk 2] 12 rfl (by decide +kernel) ?_
  refine ⟨rfl, ?_⟩
  show zq_G _ _ _ _ _ 12 ([(0, .ref 39), (1, .ref 33)], [.int 2, .ref 33], XH tx n (nI P, nI C, nI R, nI L, hs, ss, cs, gs, vs) dr rd (nI D, sm, nI N, nI K, ce, de, ke, se) i0 i1 kp (nI Q) (tr + 1) m)
  refine zq_callV (av := [.int 2]) (rest := []) (by decide +kernel) k6_15 (c_get (Q := Q) (k := 2) (by omega) (by omega)) rfl rfl rfl rfl ?_
  show zq_G _ _ _ _ _ 15 ([(0, .ref 39), (1, .ref 33)], [.int (de (Q * 5 + 2))], XH tx n (nI P, nI C, nI R, nI L, hs, ss, cs, gs, vs) dr rd (nI D, sm, nI N, nI K, ce, de, ke, se) i0 i1 kp (nI Q) (tr + 1) m)
  exact zq_iret (by decide +kernel) rfl rfl rfl
set_option maxHeartbeats 4000000 in
set_option maxRecDepth 100000 in
theorem c_plain_40 {Q : Nat} (hQ : Q < 12) : zq_P l mX6_worth 2 [.ref 40, .ref 33] (XH tx n (nI P, nI C, nI R, nI L, hs, ss, cs, gs, vs) dr rd (nI D, sm, nI N, nI K, ce, de, ke, se) i0 i1 kp (nI Q) tr m) (some (.int (de (Q * 5 + 2)))) (XH tx n (nI P, nI C, nI R, nI L, hs, ss, cs, gs, vs) dr rd (nI D, sm, nI N, nI K, ce, de, ke, se) i0 i1 kp (nI Q) (tr + 1) m) := by
  refine zq_start (by decide +kernel) rfl (Nat.le_of_ble_eq_true rfl) ?_
  show zq_G _ _ _ _ _ 0 ([(0, .ref 40), (1, .ref 33)], [], XH tx n (nI P, nI C, nI R, nI L, hs, ss, cs, gs, vs) dr rd (nI D, sm, nI N, nI K, ce, de, ke, se) i0 i1 kp (nI Q) tr m)
  refine zq_b [zq_al 1, zq_dup, zq_get 0 3, zq_kj 1, zq_ladd (tr + 1), zq_putj 0 3, zq_al 1, zq_k 2] [zq_alchk 1, zq_is .dup 1, zq_getchk 0 3, zq_klchk 1, zq_is .ladd 1, zq_putchk 0 3 .long, zq_alchk 1, zq_kchk 2] 12 rfl (by decide +kernel) ?_
  refine ⟨rfl, ?_⟩
  show zq_G _ _ _ _ _ 12 ([(0, .ref 40), (1, .ref 33)], [.int 2, .ref 33], XH tx n (nI P, nI C, nI R, nI L, hs, ss, cs, gs, vs) dr rd (nI D, sm, nI N, nI K, ce, de, ke, se) i0 i1 kp (nI Q) (tr + 1) m)
  refine zq_callV (av := [.int 2]) (rest := []) (by decide +kernel) k6_15 (c_get (Q := Q) (k := 2) (by omega) (by omega)) rfl rfl rfl rfl ?_
  show zq_G _ _ _ _ _ 15 ([(0, .ref 40), (1, .ref 33)], [.int (de (Q * 5 + 2))], XH tx n (nI P, nI C, nI R, nI L, hs, ss, cs, gs, vs) dr rd (nI D, sm, nI N, nI K, ce, de, ke, se) i0 i1 kp (nI Q) (tr + 1) m)
  exact zq_iret (by decide +kernel) rfl rfl rfl
set_option maxHeartbeats 4000000 in
set_option maxRecDepth 100000 in
theorem c_posed_36 {Q : Nat} {wq : Nat} (hQ : Q < 12) (hw0 : de (Q * 5 + 0) = nI wq) (hw6 : wq < 6) : zq_P l mX7_worth 3 [.ref 36, .ref 33] (XH tx n (nI P, nI C, nI R, nI L, hs, ss, cs, gs, vs) dr rd (nI D, sm, nI N, nI K, ce, de, ke, se) i0 i1 kp (nI Q) tr m) (some (.int (de (Q * 5 + 2) + hs wq))) (XH tx n (nI P, nI C, nI R, nI L, hs, ss, cs, gs, vs) dr rd (nI D, sm, nI N, nI K, ce, de, ke, se) i0 i1 kp (nI Q) ((tr + 10) + 1) m) := by
  refine zq_start (by decide +kernel) rfl (Nat.le_of_ble_eq_true rfl) ?_
  show zq_G _ _ _ _ _ 0 ([(0, .ref 36), (1, .ref 33)], [], XH tx n (nI P, nI C, nI R, nI L, hs, ss, cs, gs, vs) dr rd (nI D, sm, nI N, nI K, ce, de, ke, se) i0 i1 kp (nI Q) tr m)
  refine zq_b [zq_al 1, zq_dup, zq_get 0 3, zq_kj 10, zq_ladd (tr + 10), zq_putj 0 3, zq_al 0, zq_al 1] [zq_alchk 1, zq_is .dup 1, zq_getchk 0 3, zq_klchk 10, zq_is .ladd 1, zq_putchk 0 3 .long, zq_alchk 0, zq_alchk 1] 14 rfl (by decide +kernel) ?_
  refine ⟨rfl, ?_⟩
  show zq_G _ _ _ _ _ 14 ([(0, .ref 36), (1, .ref 33)], [.ref 33, .ref 36], XH tx n (nI P, nI C, nI R, nI L, hs, ss, cs, gs, vs) dr rd (nI D, sm, nI N, nI K, ce, de, ke, se) i0 i1 kp (nI Q) (tr + 10) m)
  refine zq_callU (av := [.ref 33]) (rest := []) (by decide +kernel) k7_17 (c_plain_36 (Q := Q) (by omega)) rfl rfl rfl (by decide) ?_
  show zq_G _ _ _ _ _ 17 ([(0, .ref 36), (1, .ref 33)], [.int (de (Q * 5 + 2))], XH tx n (nI P, nI C, nI R, nI L, hs, ss, cs, gs, vs) dr rd (nI D, sm, nI N, nI K, ce, de, ke, se) i0 i1 kp (nI Q) ((tr + 10) + 1) m)
  refine zq_b [zq_al 1, zq_get 0 0, zq_get 9 4, zq_al 1, zq_k 0] [zq_alchk 1, zq_getchk 0 0, zq_getchk 9 4, zq_alchk 1, zq_kchk 0] 26 rfl (by decide +kernel) ?_
  show zq_G _ _ _ _ _ 26 ([(0, .ref 36), (1, .ref 33)], [.int 0, .ref 33, .ref 3, .int (de (Q * 5 + 2))], XH tx n (nI P, nI C, nI R, nI L, hs, ss, cs, gs, vs) dr rd (nI D, sm, nI N, nI K, ce, de, ke, se) i0 i1 kp (nI Q) ((tr + 10) + 1) m)
  refine zq_callV (av := [.int 0]) (rest := [.ref 3, .int (de (Q * 5 + 2))]) (by decide +kernel) k7_31 (c_get (Q := Q) (k := 0) (by omega) (by omega)) rfl rfl rfl rfl ?_
  show zq_G _ _ _ _ _ 29 ([(0, .ref 36), (1, .ref 33)], [.int (de (Q * 5 + 0)), .ref 3, .int (de (Q * 5 + 2))], XH tx n (nI P, nI C, nI R, nI L, hs, ss, cs, gs, vs) dr rd (nI D, sm, nI N, nI K, ce, de, ke, se) i0 i1 kp (nI Q) ((tr + 10) + 1) m)
  refine zq_eq (σ2 := ([(0, .ref 36), (1, .ref 33)], [.int (nI wq), .ref 3, .int (de (Q * 5 + 2))], XH tx n (nI P, nI C, nI R, nI L, hs, ss, cs, gs, vs) dr rd (nI D, sm, nI N, nI K, ce, de, ke, se) i0 i1 kp (nI Q) ((tr + 10) + 1) m)) (by rw [hw0]) ?_
  refine zq_b [zq_iald wq (hs wq), zq_iadd ((de (Q * 5 + 2)) + (hs wq))] [zq_is .iaload 1, zq_is .iadd 1] 31 rfl (by decide +kernel) ?_
  refine ⟨rfl, (by omega), (by omega), rfl, rfl, ?_⟩
  show zq_G _ _ _ _ _ 31 ([(0, .ref 36), (1, .ref 33)], [.int ((de (Q * 5 + 2)) + (hs wq))], XH tx n (nI P, nI C, nI R, nI L, hs, ss, cs, gs, vs) dr rd (nI D, sm, nI N, nI K, ce, de, ke, se) i0 i1 kp (nI Q) ((tr + 10) + 1) m)
  exact zq_iret (by decide +kernel) rfl rfl rfl
set_option maxHeartbeats 4000000 in
set_option maxRecDepth 100000 in
theorem c_posed_38 {Q : Nat} {wq : Nat} (hQ : Q < 12) (hw0 : de (Q * 5 + 0) = nI wq) (hw6 : wq < 6) : zq_P l mX7_worth 3 [.ref 38, .ref 33] (XH tx n (nI P, nI C, nI R, nI L, hs, ss, cs, gs, vs) dr rd (nI D, sm, nI N, nI K, ce, de, ke, se) i0 i1 kp (nI Q) tr m) (some (.int (de (Q * 5 + 2) + hs wq))) (XH tx n (nI P, nI C, nI R, nI L, hs, ss, cs, gs, vs) dr rd (nI D, sm, nI N, nI K, ce, de, ke, se) i0 i1 kp (nI Q) ((tr + 10) + 1) m) := by
  refine zq_start (by decide +kernel) rfl (Nat.le_of_ble_eq_true rfl) ?_
  show zq_G _ _ _ _ _ 0 ([(0, .ref 38), (1, .ref 33)], [], XH tx n (nI P, nI C, nI R, nI L, hs, ss, cs, gs, vs) dr rd (nI D, sm, nI N, nI K, ce, de, ke, se) i0 i1 kp (nI Q) tr m)
  refine zq_b [zq_al 1, zq_dup, zq_get 0 3, zq_kj 10, zq_ladd (tr + 10), zq_putj 0 3, zq_al 0, zq_al 1] [zq_alchk 1, zq_is .dup 1, zq_getchk 0 3, zq_klchk 10, zq_is .ladd 1, zq_putchk 0 3 .long, zq_alchk 0, zq_alchk 1] 14 rfl (by decide +kernel) ?_
  refine ⟨rfl, ?_⟩
  show zq_G _ _ _ _ _ 14 ([(0, .ref 38), (1, .ref 33)], [.ref 33, .ref 38], XH tx n (nI P, nI C, nI R, nI L, hs, ss, cs, gs, vs) dr rd (nI D, sm, nI N, nI K, ce, de, ke, se) i0 i1 kp (nI Q) (tr + 10) m)
  refine zq_callU (av := [.ref 33]) (rest := []) (by decide +kernel) k7_17 (c_plain_38 (Q := Q) (by omega)) rfl rfl rfl (by decide) ?_
  show zq_G _ _ _ _ _ 17 ([(0, .ref 38), (1, .ref 33)], [.int (de (Q * 5 + 2))], XH tx n (nI P, nI C, nI R, nI L, hs, ss, cs, gs, vs) dr rd (nI D, sm, nI N, nI K, ce, de, ke, se) i0 i1 kp (nI Q) ((tr + 10) + 1) m)
  refine zq_b [zq_al 1, zq_get 0 0, zq_get 9 4, zq_al 1, zq_k 0] [zq_alchk 1, zq_getchk 0 0, zq_getchk 9 4, zq_alchk 1, zq_kchk 0] 26 rfl (by decide +kernel) ?_
  show zq_G _ _ _ _ _ 26 ([(0, .ref 38), (1, .ref 33)], [.int 0, .ref 33, .ref 3, .int (de (Q * 5 + 2))], XH tx n (nI P, nI C, nI R, nI L, hs, ss, cs, gs, vs) dr rd (nI D, sm, nI N, nI K, ce, de, ke, se) i0 i1 kp (nI Q) ((tr + 10) + 1) m)
  refine zq_callV (av := [.int 0]) (rest := [.ref 3, .int (de (Q * 5 + 2))]) (by decide +kernel) k7_31 (c_get (Q := Q) (k := 0) (by omega) (by omega)) rfl rfl rfl rfl ?_
  show zq_G _ _ _ _ _ 29 ([(0, .ref 38), (1, .ref 33)], [.int (de (Q * 5 + 0)), .ref 3, .int (de (Q * 5 + 2))], XH tx n (nI P, nI C, nI R, nI L, hs, ss, cs, gs, vs) dr rd (nI D, sm, nI N, nI K, ce, de, ke, se) i0 i1 kp (nI Q) ((tr + 10) + 1) m)
  refine zq_eq (σ2 := ([(0, .ref 38), (1, .ref 33)], [.int (nI wq), .ref 3, .int (de (Q * 5 + 2))], XH tx n (nI P, nI C, nI R, nI L, hs, ss, cs, gs, vs) dr rd (nI D, sm, nI N, nI K, ce, de, ke, se) i0 i1 kp (nI Q) ((tr + 10) + 1) m)) (by rw [hw0]) ?_
  refine zq_b [zq_iald wq (hs wq), zq_iadd ((de (Q * 5 + 2)) + (hs wq))] [zq_is .iaload 1, zq_is .iadd 1] 31 rfl (by decide +kernel) ?_
  refine ⟨rfl, (by omega), (by omega), rfl, rfl, ?_⟩
  show zq_G _ _ _ _ _ 31 ([(0, .ref 38), (1, .ref 33)], [.int ((de (Q * 5 + 2)) + (hs wq))], XH tx n (nI P, nI C, nI R, nI L, hs, ss, cs, gs, vs) dr rd (nI D, sm, nI N, nI K, ce, de, ke, se) i0 i1 kp (nI Q) ((tr + 10) + 1) m)
  exact zq_iret (by decide +kernel) rfl rfl rfl
set_option maxHeartbeats 4000000 in
set_option maxRecDepth 100000 in
theorem c_hidden_37 {Q : Nat} (hQ : Q < 12) : zq_P l mX3_worth 3 [.ref 37, .ref 33] (XH tx n (nI P, nI C, nI R, nI L, hs, ss, cs, gs, vs) dr rd (nI D, sm, nI N, nI K, ce, de, ke, se) i0 i1 kp (nI Q) tr m) (some (.int (de (Q * 5 + 2) - de (Q * 5 + 3) / 5))) (XH tx n (nI P, nI C, nI R, nI L, hs, ss, cs, gs, vs) dr rd (nI D, sm, nI N, nI K, ce, de, ke, se) i0 i1 kp (nI Q) ((tr + 100) + 1) m) := by
  refine zq_start (by decide +kernel) rfl (Nat.le_of_ble_eq_true rfl) ?_
  show zq_G _ _ _ _ _ 0 ([(0, .ref 37), (1, .ref 33)], [], XH tx n (nI P, nI C, nI R, nI L, hs, ss, cs, gs, vs) dr rd (nI D, sm, nI N, nI K, ce, de, ke, se) i0 i1 kp (nI Q) tr m)
  refine zq_b [zq_al 1, zq_dup, zq_get 0 3, zq_kj 100, zq_ladd (tr + 100), zq_putj 0 3, zq_al 0, zq_al 1] [zq_alchk 1, zq_is .dup 1, zq_getchk 0 3, zq_klchk 100, zq_is .ladd 1, zq_putchk 0 3 .long, zq_alchk 0, zq_alchk 1] 14 rfl (by decide +kernel) ?_
  refine ⟨rfl, ?_⟩
  show zq_G _ _ _ _ _ 14 ([(0, .ref 37), (1, .ref 33)], [.ref 33, .ref 37], XH tx n (nI P, nI C, nI R, nI L, hs, ss, cs, gs, vs) dr rd (nI D, sm, nI N, nI K, ce, de, ke, se) i0 i1 kp (nI Q) (tr + 100) m)
  refine zq_callU (av := [.ref 33]) (rest := []) (by decide +kernel) k3_17 (c_plain_37 (Q := Q) (by omega)) rfl rfl rfl (by decide) ?_
  show zq_G _ _ _ _ _ 17 ([(0, .ref 37), (1, .ref 33)], [.int (de (Q * 5 + 2))], XH tx n (nI P, nI C, nI R, nI L, hs, ss, cs, gs, vs) dr rd (nI D, sm, nI N, nI K, ce, de, ke, se) i0 i1 kp (nI Q) ((tr + 100) + 1) m)
  refine zq_b [zq_al 1, zq_k 3] [zq_alchk 1, zq_kchk 3] 19 rfl (by decide +kernel) ?_
  show zq_G _ _ _ _ _ 19 ([(0, .ref 37), (1, .ref 33)], [.int 3, .ref 33, .int (de (Q * 5 + 2))], XH tx n (nI P, nI C, nI R, nI L, hs, ss, cs, gs, vs) dr rd (nI D, sm, nI N, nI K, ce, de, ke, se) i0 i1 kp (nI Q) ((tr + 100) + 1) m)
  refine zq_callV (av := [.int 3]) (rest := [.int (de (Q * 5 + 2))]) (by decide +kernel) k3_21 (c_get (Q := Q) (k := 3) (by omega) (by omega)) rfl rfl rfl rfl ?_
  show zq_G _ _ _ _ _ 22 ([(0, .ref 37), (1, .ref 33)], [.int (de (Q * 5 + 3)), .int (de (Q * 5 + 2))], XH tx n (nI P, nI C, nI R, nI L, hs, ss, cs, gs, vs) dr rd (nI D, sm, nI N, nI K, ce, de, ke, se) i0 i1 kp (nI Q) ((tr + 100) + 1) m)
  refine zq_b [zq_k 5, zq_idiv ((de (Q * 5 + 3)) / 5), zq_isub ((de (Q * 5 + 2)) - ((de (Q * 5 + 3)) / 5))] [zq_kchk 5, zq_is .idiv 1, zq_is .isub 1] 25 rfl (by decide +kernel) ?_
  refine ⟨(by decide), rfl, rfl, ?_⟩
  show zq_G _ _ _ _ _ 25 ([(0, .ref 37), (1, .ref 33)], [.int ((de (Q * 5 + 2)) - ((de (Q * 5 + 3)) / 5))], XH tx n (nI P, nI C, nI R, nI L, hs, ss, cs, gs, vs) dr rd (nI D, sm, nI N, nI K, ce, de, ke, se) i0 i1 kp (nI Q) ((tr + 100) + 1) m)
  exact zq_iret (by decide +kernel) rfl rfl rfl
set_option maxHeartbeats 4000000 in
set_option maxRecDepth 100000 in
theorem c_hidden_39 {Q : Nat} (hQ : Q < 12) : zq_P l mX3_worth 3 [.ref 39, .ref 33] (XH tx n (nI P, nI C, nI R, nI L, hs, ss, cs, gs, vs) dr rd (nI D, sm, nI N, nI K, ce, de, ke, se) i0 i1 kp (nI Q) tr m) (some (.int (de (Q * 5 + 2) - de (Q * 5 + 3) / 5))) (XH tx n (nI P, nI C, nI R, nI L, hs, ss, cs, gs, vs) dr rd (nI D, sm, nI N, nI K, ce, de, ke, se) i0 i1 kp (nI Q) ((tr + 100) + 1) m) := by
  refine zq_start (by decide +kernel) rfl (Nat.le_of_ble_eq_true rfl) ?_
  show zq_G _ _ _ _ _ 0 ([(0, .ref 39), (1, .ref 33)], [], XH tx n (nI P, nI C, nI R, nI L, hs, ss, cs, gs, vs) dr rd (nI D, sm, nI N, nI K, ce, de, ke, se) i0 i1 kp (nI Q) tr m)
  refine zq_b [zq_al 1, zq_dup, zq_get 0 3, zq_kj 100, zq_ladd (tr + 100), zq_putj 0 3, zq_al 0, zq_al 1] [zq_alchk 1, zq_is .dup 1, zq_getchk 0 3, zq_klchk 100, zq_is .ladd 1, zq_putchk 0 3 .long, zq_alchk 0, zq_alchk 1] 14 rfl (by decide +kernel) ?_
  refine ⟨rfl, ?_⟩
  show zq_G _ _ _ _ _ 14 ([(0, .ref 39), (1, .ref 33)], [.ref 33, .ref 39], XH tx n (nI P, nI C, nI R, nI L, hs, ss, cs, gs, vs) dr rd (nI D, sm, nI N, nI K, ce, de, ke, se) i0 i1 kp (nI Q) (tr + 100) m)
  refine zq_callU (av := [.ref 33]) (rest := []) (by decide +kernel) k3_17 (c_plain_39 (Q := Q) (by omega)) rfl rfl rfl (by decide) ?_
  show zq_G _ _ _ _ _ 17 ([(0, .ref 39), (1, .ref 33)], [.int (de (Q * 5 + 2))], XH tx n (nI P, nI C, nI R, nI L, hs, ss, cs, gs, vs) dr rd (nI D, sm, nI N, nI K, ce, de, ke, se) i0 i1 kp (nI Q) ((tr + 100) + 1) m)
  refine zq_b [zq_al 1, zq_k 3] [zq_alchk 1, zq_kchk 3] 19 rfl (by decide +kernel) ?_
  show zq_G _ _ _ _ _ 19 ([(0, .ref 39), (1, .ref 33)], [.int 3, .ref 33, .int (de (Q * 5 + 2))], XH tx n (nI P, nI C, nI R, nI L, hs, ss, cs, gs, vs) dr rd (nI D, sm, nI N, nI K, ce, de, ke, se) i0 i1 kp (nI Q) ((tr + 100) + 1) m)
  refine zq_callV (av := [.int 3]) (rest := [.int (de (Q * 5 + 2))]) (by decide +kernel) k3_21 (c_get (Q := Q) (k := 3) (by omega) (by omega)) rfl rfl rfl rfl ?_
  show zq_G _ _ _ _ _ 22 ([(0, .ref 39), (1, .ref 33)], [.int (de (Q * 5 + 3)), .int (de (Q * 5 + 2))], XH tx n (nI P, nI C, nI R, nI L, hs, ss, cs, gs, vs) dr rd (nI D, sm, nI N, nI K, ce, de, ke, se) i0 i1 kp (nI Q) ((tr + 100) + 1) m)
  refine zq_b [zq_k 5, zq_idiv ((de (Q * 5 + 3)) / 5), zq_isub ((de (Q * 5 + 2)) - ((de (Q * 5 + 3)) / 5))] [zq_kchk 5, zq_is .idiv 1, zq_is .isub 1] 25 rfl (by decide +kernel) ?_
  refine ⟨(by decide), rfl, rfl, ?_⟩
  show zq_G _ _ _ _ _ 25 ([(0, .ref 39), (1, .ref 33)], [.int ((de (Q * 5 + 2)) - ((de (Q * 5 + 3)) / 5))], XH tx n (nI P, nI C, nI R, nI L, hs, ss, cs, gs, vs) dr rd (nI D, sm, nI N, nI K, ce, de, ke, se) i0 i1 kp (nI Q) ((tr + 100) + 1) m)
  exact zq_iret (by decide +kernel) rfl rfl rfl
set_option maxHeartbeats 4000000 in
set_option maxRecDepth 100000 in
theorem c_lawful_38 {Q : Nat} {wq : Nat} (hQ : Q < 12) (hw0 : de (Q * 5 + 0) = nI wq) (hw6 : wq < 6) : zq_P l mX4_worth 4 [.ref 38, .ref 33] (XH tx n (nI P, nI C, nI R, nI L, hs, ss, cs, gs, vs) dr rd (nI D, sm, nI N, nI K, ce, de, ke, se) i0 i1 kp (nI Q) tr m) (some (.int ((de (Q * 5 + 2) + hs wq) * 2))) (XH tx n (nI P, nI C, nI R, nI L, hs, ss, cs, gs, vs) dr rd (nI D, sm, nI N, nI K, ce, de, ke, se) i0 i1 kp (nI Q) (((tr + 1000) + 10) + 1) m) := by
  refine zq_start (by decide +kernel) rfl (Nat.le_of_ble_eq_true rfl) ?_
  show zq_G _ _ _ _ _ 0 ([(0, .ref 38), (1, .ref 33)], [], XH tx n (nI P, nI C, nI R, nI L, hs, ss, cs, gs, vs) dr rd (nI D, sm, nI N, nI K, ce, de, ke, se) i0 i1 kp (nI Q) tr m)
  refine zq_b [zq_al 1, zq_dup, zq_get 0 3, zq_kj 1000, zq_ladd (tr + 1000), zq_putj 0 3, zq_al 0, zq_al 1] [zq_alchk 1, zq_is .dup 1, zq_getchk 0 3, zq_klchk 1000, zq_is .ladd 1, zq_putchk 0 3 .long, zq_alchk 0, zq_alchk 1] 14 rfl (by decide +kernel) ?_
  refine ⟨rfl, ?_⟩
  show zq_G _ _ _ _ _ 14 ([(0, .ref 38), (1, .ref 33)], [.ref 33, .ref 38], XH tx n (nI P, nI C, nI R, nI L, hs, ss, cs, gs, vs) dr rd (nI D, sm, nI N, nI K, ce, de, ke, se) i0 i1 kp (nI Q) (tr + 1000) m)
  refine zq_callU (av := [.ref 33]) (rest := []) (by decide +kernel) k4_15 (c_posed_38 (Q := Q) (wq := wq) (by omega) hw0 hw6) rfl rfl rfl (by decide) ?_
  show zq_G _ _ _ _ _ 17 ([(0, .ref 38), (1, .ref 33)], [.int (de (Q * 5 + 2) + hs wq)], XH tx n (nI P, nI C, nI R, nI L, hs, ss, cs, gs, vs) dr rd (nI D, sm, nI N, nI K, ce, de, ke, se) i0 i1 kp (nI Q) (((tr + 1000) + 10) + 1) m)
  refine zq_b [zq_k 2, zq_imul ((de (Q * 5 + 2) + hs wq) * 2)] [zq_kchk 2, zq_is .imul 1] 19 rfl (by decide +kernel) ?_
  refine ⟨rfl, ?_⟩
  show zq_G _ _ _ _ _ 19 ([(0, .ref 38), (1, .ref 33)], [.int ((de (Q * 5 + 2) + hs wq) * 2)], XH tx n (nI P, nI C, nI R, nI L, hs, ss, cs, gs, vs) dr rd (nI D, sm, nI N, nI K, ce, de, ke, se) i0 i1 kp (nI Q) (((tr + 1000) + 10) + 1) m)
  exact zq_iret (by decide +kernel) rfl rfl rfl
set_option maxHeartbeats 4000000 in
set_option maxRecDepth 100000 in
theorem c_clouded_39 {Q : Nat} (hQ : Q < 12) : zq_P l mX2_worth 4 [.ref 39, .ref 33] (XH tx n (nI P, nI C, nI R, nI L, hs, ss, cs, gs, vs) dr rd (nI D, sm, nI N, nI K, ce, de, ke, se) i0 i1 kp (nI Q) tr m) (some (.int ((de (Q * 5 + 2) - de (Q * 5 + 3) / 5) + nI C))) (XH tx n (nI P, nI C, nI R, nI L, hs, ss, cs, gs, vs) dr rd (nI D, sm, nI N, nI K, ce, de, ke, se) i0 i1 kp (nI Q) (((tr + 10000) + 100) + 1) m) := by
  refine zq_start (by decide +kernel) rfl (Nat.le_of_ble_eq_true rfl) ?_
  show zq_G _ _ _ _ _ 0 ([(0, .ref 39), (1, .ref 33)], [], XH tx n (nI P, nI C, nI R, nI L, hs, ss, cs, gs, vs) dr rd (nI D, sm, nI N, nI K, ce, de, ke, se) i0 i1 kp (nI Q) tr m)
  refine zq_b [zq_al 1, zq_dup, zq_get 0 3, zq_kj 10000, zq_ladd (tr + 10000), zq_putj 0 3, zq_al 0, zq_al 1] [zq_alchk 1, zq_is .dup 1, zq_getchk 0 3, zq_klchk 10000, zq_is .ladd 1, zq_putchk 0 3 .long, zq_alchk 0, zq_alchk 1] 14 rfl (by decide +kernel) ?_
  refine ⟨rfl, ?_⟩
  show zq_G _ _ _ _ _ 14 ([(0, .ref 39), (1, .ref 33)], [.ref 33, .ref 39], XH tx n (nI P, nI C, nI R, nI L, hs, ss, cs, gs, vs) dr rd (nI D, sm, nI N, nI K, ce, de, ke, se) i0 i1 kp (nI Q) (tr + 10000) m)
  refine zq_callU (av := [.ref 33]) (rest := []) (by decide +kernel) k2_15 (c_hidden_39 (Q := Q) (by omega)) rfl rfl rfl (by decide) ?_
  show zq_G _ _ _ _ _ 17 ([(0, .ref 39), (1, .ref 33)], [.int (de (Q * 5 + 2) - de (Q * 5 + 3) / 5)], XH tx n (nI P, nI C, nI R, nI L, hs, ss, cs, gs, vs) dr rd (nI D, sm, nI N, nI K, ce, de, ke, se) i0 i1 kp (nI Q) (((tr + 10000) + 100) + 1) m)
  refine zq_b [zq_al 1, zq_get 0 0, zq_get 9 1, zq_iadd ((de (Q * 5 + 2) - de (Q * 5 + 3) / 5) + (nI C))] [zq_alchk 1, zq_getchk 0 0, zq_getchk 9 1, zq_is .iadd 1] 25 rfl (by decide +kernel) ?_
  refine ⟨rfl, ?_⟩
  show zq_G _ _ _ _ _ 25 ([(0, .ref 39), (1, .ref 33)], [.int ((de (Q * 5 + 2) - de (Q * 5 + 3) / 5) + (nI C))], XH tx n (nI P, nI C, nI R, nI L, hs, ss, cs, gs, vs) dr rd (nI D, sm, nI N, nI K, ce, de, ke, se) i0 i1 kp (nI Q) (((tr + 10000) + 100) + 1) m)
  exact zq_iret (by decide +kernel) rfl rfl rfl
set_option maxHeartbeats 4000000 in
set_option maxRecDepth 100000 in
theorem c_twice_40 {Q : Nat} (hQ : Q < 12) (hN : N ≤ 12) : zq_P l mX10_worth 3 [.ref 40, .ref 33] (XH tx n (nI P, nI C, nI R, nI L, hs, ss, cs, gs, vs) dr rd (nI D, sm, nI N, nI K, ce, de, ke, se) i0 i1 kp (nI Q) tr m) (some (.int (de (Q * 5 + 2) + nI (zct (fun i => decide (de (i * 5 + 1) = de (Q * 5 + 1))) N)))) (XH tx n (nI P, nI C, nI R, nI L, hs, ss, cs, gs, vs) dr rd (nI D, sm, nI N, nI K, ce, de, ke, se) i0 i1 kp (nI Q) ((tr + 100000) + 1) m) := by
  refine zq_start (by decide +kernel) rfl (Nat.le_of_ble_eq_true rfl) ?_
  show zq_G _ _ _ _ _ 0 ([(0, .ref 40), (1, .ref 33)], [], XH tx n (nI P, nI C, nI R, nI L, hs, ss, cs, gs, vs) dr rd (nI D, sm, nI N, nI K, ce, de, ke, se) i0 i1 kp (nI Q) tr m)
  refine zq_b [zq_al 1, zq_dup, zq_get 0 3, zq_kj 100000, zq_ladd (tr + 100000), zq_putj 0 3, zq_al 0, zq_al 1] [zq_alchk 1, zq_is .dup 1, zq_getchk 0 3, zq_klchk 100000, zq_is .ladd 1, zq_putchk 0 3 .long, zq_alchk 0, zq_alchk 1] 14 rfl (by decide +kernel) ?_
  refine ⟨rfl, ?_⟩
  show zq_G _ _ _ _ _ 14 ([(0, .ref 40), (1, .ref 33)], [.ref 33, .ref 40], XH tx n (nI P, nI C, nI R, nI L, hs, ss, cs, gs, vs) dr rd (nI D, sm, nI N, nI K, ce, de, ke, se) i0 i1 kp (nI Q) (tr + 100000) m)
  refine zq_callU (av := [.ref 33]) (rest := []) (by decide +kernel) k10_17 (c_plain_40 (Q := Q) (by omega)) rfl rfl rfl (by decide) ?_
  show zq_G _ _ _ _ _ 17 ([(0, .ref 40), (1, .ref 33)], [.int (de (Q * 5 + 2))], XH tx n (nI P, nI C, nI R, nI L, hs, ss, cs, gs, vs) dr rd (nI D, sm, nI N, nI K, ce, de, ke, se) i0 i1 kp (nI Q) ((tr + 100000) + 1) m)
  refine zq_b [zq_al 1, zq_get 0 1, zq_al 1, zq_k 1] [zq_alchk 1, zq_getchk 0 1, zq_alchk 1, zq_kchk 1] 23 rfl (by decide +kernel) ?_
  show zq_G _ _ _ _ _ 23 ([(0, .ref 40), (1, .ref 33)], [.int 1, .ref 33, .ref 15, .int (de (Q * 5 + 2))], XH tx n (nI P, nI C, nI R, nI L, hs, ss, cs, gs, vs) dr rd (nI D, sm, nI N, nI K, ce, de, ke, se) i0 i1 kp (nI Q) ((tr + 100000) + 1) m)
  refine zq_callV (av := [.int 1]) (rest := [.ref 15, .int (de (Q * 5 + 2))]) (by decide +kernel) k10_25 (c_get (Q := Q) (k := 1) (by omega) (by omega)) rfl rfl rfl rfl ?_
  show zq_G _ _ _ _ _ 26 ([(0, .ref 40), (1, .ref 33)], [.int (de (Q * 5 + 1)), .ref 15, .int (de (Q * 5 + 2))], XH tx n (nI P, nI C, nI R, nI L, hs, ss, cs, gs, vs) dr rd (nI D, sm, nI N, nI K, ce, de, ke, se) i0 i1 kp (nI Q) ((tr + 100000) + 1) m)
  refine zq_callV (av := [.int (de (Q * 5 + 1))]) (rest := [.int (de (Q * 5 + 2))]) (by decide +kernel) k10_29 (c_deedsOfAct (x := (de (Q * 5 + 1))) hN) rfl rfl rfl rfl ?_
  show zq_G _ _ _ _ _ 29 ([(0, .ref 40), (1, .ref 33)], [.int (nI (zct (fun i => decide (de (i * 5 + 1) = (de (Q * 5 + 1)))) N)), .int (de (Q * 5 + 2))], XH tx n (nI P, nI C, nI R, nI L, hs, ss, cs, gs, vs) dr rd (nI D, sm, nI N, nI K, ce, de, ke, se) i0 i1 kp (nI Q) ((tr + 100000) + 1) m)
  refine zq_b [zq_iadd ((de (Q * 5 + 2)) + (nI (zct (fun i => decide (de (i * 5 + 1) = (de (Q * 5 + 1)))) N)))] [zq_is .iadd 1] 30 rfl (by decide +kernel) ?_
  refine ⟨rfl, ?_⟩
  show zq_G _ _ _ _ _ 30 ([(0, .ref 40), (1, .ref 33)], [.int ((de (Q * 5 + 2)) + (nI (zct (fun i => decide (de (i * 5 + 1) = (de (Q * 5 + 1)))) N)))], XH tx n (nI P, nI C, nI R, nI L, hs, ss, cs, gs, vs) dr rd (nI D, sm, nI N, nI K, ce, de, ke, se) i0 i1 kp (nI Q) ((tr + 100000) + 1) m)
  exact zq_iret (by decide +kernel) rfl rfl rfl
end XV3
end
section
section XV4
variable {l : Launch} {tx : Nat → Int32} {n : Int32} {t dr : zT} {rd : zR} {w i0 i1 : zN} {kp : Nat → Int32} {dd : Int32} {tr : Int64} {m : Nat → zq_C} {h : zq_H}
variable {P C R L D N K Z : Nat} {hs ss cs gs vs ce de ke se : Nat → Int32} {sm : Int32} {cn ga va : Nat → Nat}
set_option maxHeartbeats 4000000 in
set_option maxRecDepth 100000 in
theorem x_isBeyond {x : Int32} {q : Nat} (hq : q < 2147483648) : zq_P l mX11_isBeyond 0 [.int x, .int (nI q)] (h) (some (.int (zb (x.toInt < 0 ∨ (q : Int) < x.toInt)))) (h) := by
  refine zq_start (by decide +kernel) rfl (Nat.le_of_ble_eq_true rfl) ?_
  show zq_G _ _ _ _ _ 0 ([(0, .int x), (1, .int (nI q))], [], h)
  refine zq_b [zq_il 0] [zq_ilchk 0] 1 rfl (by decide +kernel) ?_
  show zq_G _ _ _ _ _ 1 ([(0, .int x), (1, .int (nI q))], [.int x], h)
  refine zq_ifz .lt 9 (x.toInt < (0 : Int)) (by decide +kernel) (zq_tn .lt x (n := 0) (by omega)) (fun c1 => ?_) (fun c1 => ?_)
  · show zq_G _ _ _ _ _ 9 ([(0, .int x), (1, .int (nI q))], [], h)
    refine zq_b [zq_k 1, zq_go] [zq_kchk 1, zq_gochk] 14 rfl (by decide +kernel) ?_
    show zq_G _ _ _ _ _ 14 ([(0, .int x), (1, .int (nI q))], [.int 1], h)
    exact zq_zret (by decide +kernel) rfl (Or.inr rfl) (zb_r (zb_t (by omega))) rfl
  · show zq_G _ _ _ _ _ 4 ([(0, .int x), (1, .int (nI q))], [], h)
    refine zq_b [zq_il 0, zq_il 1] [zq_ilchk 0, zq_ilchk 1] 6 rfl (by decide +kernel) ?_
    show zq_G _ _ _ _ _ 6 ([(0, .int x), (1, .int (nI q))], [.int (nI q), .int x], h)
    refine zq_if .le 13 (x.toInt ≤ (q : Int)) (by decide +kernel) (zq_tn .le x (n := q) (by omega)) (fun c6 => ?_) (fun c6 => ?_)
    · show zq_G _ _ _ _ _ 13 ([(0, .int x), (1, .int (nI q))], [], h)
      refine zq_b [zq_k 0] [zq_kchk 0] 14 rfl (by decide +kernel) ?_
      show zq_G _ _ _ _ _ 14 ([(0, .int x), (1, .int (nI q))], [.int 0], h)
      exact zq_zret (by decide +kernel) rfl (Or.inl rfl) (zb_r (zb_f (by omega))) rfl
    · show zq_G _ _ _ _ _ 9 ([(0, .int x), (1, .int (nI q))], [], h)
      refine zq_b [zq_k 1, zq_go] [zq_kchk 1, zq_gochk] 14 rfl (by decide +kernel) ?_
      show zq_G _ _ _ _ _ 14 ([(0, .int x), (1, .int (nI q))], [.int 1], h)
      exact zq_zret (by decide +kernel) rfl (Or.inr rfl) (zb_r (zb_t (by omega))) rfl
set_option maxHeartbeats 4000000 in
set_option maxRecDepth 100000 in
theorem x_isBeyondN {p : Nat} {q : Nat} (hp : p < 2147483648) (hq : q < 2147483648) : zq_P l mX11_isBeyond 0 [.int (nI p), .int (nI q)] (h) (some (.int (zb (q < p)))) (h) := by
  refine zq_start (by decide +kernel) rfl (Nat.le_of_ble_eq_true rfl) ?_
  show zq_G _ _ _ _ _ 0 ([(0, .int (nI p)), (1, .int (nI q))], [], h)
  refine zq_b [zq_il 0] [zq_ilchk 0] 1 rfl (by decide +kernel) ?_
  show zq_G _ _ _ _ _ 1 ([(0, .int (nI p)), (1, .int (nI q))], [.int (nI p)], h)
  refine zq_ifz .lt 9 (p < 0) (by decide +kernel) (zq_clt (a := p) (b := 0) (by omega) (by omega)) (fun c1 => absurd c1 (by omega)) (fun c1 => ?_)
  show zq_G _ _ _ _ _ 4 ([(0, .int (nI p)), (1, .int (nI q))], [], h)
  refine zq_b [zq_il 0, zq_il 1] [zq_ilchk 0, zq_ilchk 1] 6 rfl (by decide +kernel) ?_
  show zq_G _ _ _ _ _ 6 ([(0, .int (nI p)), (1, .int (nI q))], [.int (nI q), .int (nI p)], h)
  refine zq_if .le 13 (p ≤ q) (by decide +kernel) (zq_cle (a := p) (b := q) (by omega) (by omega)) (fun c6 => ?_) (fun c6 => ?_)
  · show zq_G _ _ _ _ _ 13 ([(0, .int (nI p)), (1, .int (nI q))], [], h)
    refine zq_b [zq_k 0] [zq_kchk 0] 14 rfl (by decide +kernel) ?_
    show zq_G _ _ _ _ _ 14 ([(0, .int (nI p)), (1, .int (nI q))], [.int 0], h)
    exact zq_zret (by decide +kernel) rfl (Or.inl rfl) (zb_r (zb_f (by omega))) rfl
  · show zq_G _ _ _ _ _ 9 ([(0, .int (nI p)), (1, .int (nI q))], [], h)
    refine zq_b [zq_k 1, zq_go] [zq_kchk 1, zq_gochk] 14 rfl (by decide +kernel) ?_
    show zq_G _ _ _ _ _ 14 ([(0, .int (nI p)), (1, .int (nI q))], [.int 1], h)
    exact zq_zret (by decide +kernel) rfl (Or.inr rfl) (zb_r (zb_t (by omega))) rfl
set_option maxHeartbeats 4000000 in
set_option maxRecDepth 100000 in
theorem x_hasPerson {p : Int32} (hP : P ≤ 6) : zq_P l mX9_hasPerson 0 [.ref 2, .int p] (XH tx n (nI P, nI C, nI R, nI L, hs, ss, cs, gs, vs) dr rd (nI D, sm, nI N, nI K, ce, de, ke, se) i0 i1 kp dd tr m) (some (.int (zb (0 ≤ p.toInt ∧ p.toInt < (P : Int))))) (XH tx n (nI P, nI C, nI R, nI L, hs, ss, cs, gs, vs) dr rd (nI D, sm, nI N, nI K, ce, de, ke, se) i0 i1 kp dd tr m) := by
  refine zq_start (by decide +kernel) rfl (Nat.le_of_ble_eq_true rfl) ?_
  show zq_G _ _ _ _ _ 0 ([(0, .ref 2), (1, .int p)], [], XH tx n (nI P, nI C, nI R, nI L, hs, ss, cs, gs, vs) dr rd (nI D, sm, nI N, nI K, ce, de, ke, se) i0 i1 kp dd tr m)
  refine zq_b [zq_il 1] [zq_ilchk 1] 1 rfl (by decide +kernel) ?_
  show zq_G _ _ _ _ _ 1 ([(0, .ref 2), (1, .int p)], [.int p], XH tx n (nI P, nI C, nI R, nI L, hs, ss, cs, gs, vs) dr rd (nI D, sm, nI N, nI K, ce, de, ke, se) i0 i1 kp dd tr m)
  refine zq_ifz .lt 16 (p.toInt < (0 : Int)) (by decide +kernel) (zq_tn .lt p (n := 0) (by omega)) (fun c1 => ?_) (fun c1 => ?_)
  · show zq_G _ _ _ _ _ 16 ([(0, .ref 2), (1, .int p)], [], XH tx n (nI P, nI C, nI R, nI L, hs, ss, cs, gs, vs) dr rd (nI D, sm, nI N, nI K, ce, de, ke, se) i0 i1 kp dd tr m)
    refine zq_b [zq_k 0] [zq_kchk 0] 17 rfl (by decide +kernel) ?_
    show zq_G _ _ _ _ _ 17 ([(0, .ref 2), (1, .int p)], [.int 0], XH tx n (nI P, nI C, nI R, nI L, hs, ss, cs, gs, vs) dr rd (nI D, sm, nI N, nI K, ce, de, ke, se) i0 i1 kp dd tr m)
    exact zq_zret (by decide +kernel) rfl (Or.inl rfl) (zb_r (zb_f (by omega))) rfl
  · show zq_G _ _ _ _ _ 4 ([(0, .ref 2), (1, .int p)], [], XH tx n (nI P, nI C, nI R, nI L, hs, ss, cs, gs, vs) dr rd (nI D, sm, nI N, nI K, ce, de, ke, se) i0 i1 kp dd tr m)
    refine zq_b [zq_il 1, zq_al 0, zq_get 9 0] [zq_ilchk 1, zq_alchk 0, zq_getchk 9 0] 9 rfl (by decide +kernel) ?_
    show zq_G _ _ _ _ _ 9 ([(0, .ref 2), (1, .int p)], [.int (nI P), .int p], XH tx n (nI P, nI C, nI R, nI L, hs, ss, cs, gs, vs) dr rd (nI D, sm, nI N, nI K, ce, de, ke, se) i0 i1 kp dd tr m)
    refine zq_if .ge 16 ((P : Int) ≤ p.toInt) (by decide +kernel) (zq_tn .ge p (n := P) (by omega)) (fun c9 => ?_) (fun c9 => ?_)
    · show zq_G _ _ _ _ _ 16 ([(0, .ref 2), (1, .int p)], [], XH tx n (nI P, nI C, nI R, nI L, hs, ss, cs, gs, vs) dr rd (nI D, sm, nI N, nI K, ce, de, ke, se) i0 i1 kp dd tr m)
      refine zq_b [zq_k 0] [zq_kchk 0] 17 rfl (by decide +kernel) ?_
      show zq_G _ _ _ _ _ 17 ([(0, .ref 2), (1, .int p)], [.int 0], XH tx n (nI P, nI C, nI R, nI L, hs, ss, cs, gs, vs) dr rd (nI D, sm, nI N, nI K, ce, de, ke, se) i0 i1 kp dd tr m)
      exact zq_zret (by decide +kernel) rfl (Or.inl rfl) (zb_r (zb_f (by omega))) rfl
    · show zq_G _ _ _ _ _ 12 ([(0, .ref 2), (1, .int p)], [], XH tx n (nI P, nI C, nI R, nI L, hs, ss, cs, gs, vs) dr rd (nI D, sm, nI N, nI K, ce, de, ke, se) i0 i1 kp dd tr m)
      refine zq_b [zq_k 1, zq_go] [zq_kchk 1, zq_gochk] 17 rfl (by decide +kernel) ?_
      show zq_G _ _ _ _ _ 17 ([(0, .ref 2), (1, .int p)], [.int 1], XH tx n (nI P, nI C, nI R, nI L, hs, ss, cs, gs, vs) dr rd (nI D, sm, nI N, nI K, ce, de, ke, se) i0 i1 kp dd tr m)
      exact zq_zret (by decide +kernel) rfl (Or.inr rfl) (zb_r (zb_t (by omega))) rfl
set_option maxHeartbeats 4000000 in
set_option maxRecDepth 100000 in
theorem x_hasPersonN {p : Nat} (hP : P ≤ 6) (hp : p < 2147483648) : zq_P l mX9_hasPerson 0 [.ref 2, .int (nI p)] (XH tx n (nI P, nI C, nI R, nI L, hs, ss, cs, gs, vs) dr rd (nI D, sm, nI N, nI K, ce, de, ke, se) i0 i1 kp dd tr m) (some (.int (zb (p < P)))) (XH tx n (nI P, nI C, nI R, nI L, hs, ss, cs, gs, vs) dr rd (nI D, sm, nI N, nI K, ce, de, ke, se) i0 i1 kp dd tr m) := by
  refine zq_start (by decide +kernel) rfl (Nat.le_of_ble_eq_true rfl) ?_
  show zq_G _ _ _ _ _ 0 ([(0, .ref 2), (1, .int (nI p))], [], XH tx n (nI P, nI C, nI R, nI L, hs, ss, cs, gs, vs) dr rd (nI D, sm, nI N, nI K, ce, de, ke, se) i0 i1 kp dd tr m)
  refine zq_b [zq_il 1] [zq_ilchk 1] 1 rfl (by decide +kernel) ?_
  show zq_G _ _ _ _ _ 1 ([(0, .ref 2), (1, .int (nI p))], [.int (nI p)], XH tx n (nI P, nI C, nI R, nI L, hs, ss, cs, gs, vs) dr rd (nI D, sm, nI N, nI K, ce, de, ke, se) i0 i1 kp dd tr m)
  refine zq_ifz .lt 16 (p < 0) (by decide +kernel) (zq_clt (a := p) (b := 0) (by omega) (by omega)) (fun c1 => absurd c1 (by omega)) (fun c1 => ?_)
  show zq_G _ _ _ _ _ 4 ([(0, .ref 2), (1, .int (nI p))], [], XH tx n (nI P, nI C, nI R, nI L, hs, ss, cs, gs, vs) dr rd (nI D, sm, nI N, nI K, ce, de, ke, se) i0 i1 kp dd tr m)
  refine zq_b [zq_il 1, zq_al 0, zq_get 9 0] [zq_ilchk 1, zq_alchk 0, zq_getchk 9 0] 9 rfl (by decide +kernel) ?_
  show zq_G _ _ _ _ _ 9 ([(0, .ref 2), (1, .int (nI p))], [.int (nI P), .int (nI p)], XH tx n (nI P, nI C, nI R, nI L, hs, ss, cs, gs, vs) dr rd (nI D, sm, nI N, nI K, ce, de, ke, se) i0 i1 kp dd tr m)
  refine zq_if .ge 16 (P ≤ p) (by decide +kernel) (zq_cge (a := p) (b := P) (by omega) (by omega)) (fun c9 => ?_) (fun c9 => ?_)
  · show zq_G _ _ _ _ _ 16 ([(0, .ref 2), (1, .int (nI p))], [], XH tx n (nI P, nI C, nI R, nI L, hs, ss, cs, gs, vs) dr rd (nI D, sm, nI N, nI K, ce, de, ke, se) i0 i1 kp dd tr m)
    refine zq_b [zq_k 0] [zq_kchk 0] 17 rfl (by decide +kernel) ?_
    show zq_G _ _ _ _ _ 17 ([(0, .ref 2), (1, .int (nI p))], [.int 0], XH tx n (nI P, nI C, nI R, nI L, hs, ss, cs, gs, vs) dr rd (nI D, sm, nI N, nI K, ce, de, ke, se) i0 i1 kp dd tr m)
    exact zq_zret (by decide +kernel) rfl (Or.inl rfl) (zb_r (zb_f (by omega))) rfl
  · show zq_G _ _ _ _ _ 12 ([(0, .ref 2), (1, .int (nI p))], [], XH tx n (nI P, nI C, nI R, nI L, hs, ss, cs, gs, vs) dr rd (nI D, sm, nI N, nI K, ce, de, ke, se) i0 i1 kp dd tr m)
    refine zq_b [zq_k 1, zq_go] [zq_kchk 1, zq_gochk] 17 rfl (by decide +kernel) ?_
    show zq_G _ _ _ _ _ 17 ([(0, .ref 2), (1, .int (nI p))], [.int 1], XH tx n (nI P, nI C, nI R, nI L, hs, ss, cs, gs, vs) dr rd (nI D, sm, nI N, nI K, ce, de, ke, se) i0 i1 kp dd tr m)
    exact zq_zret (by decide +kernel) rfl (Or.inr rfl) (zb_r (zb_t (by omega))) rfl
set_option maxHeartbeats 4000000 in
set_option maxRecDepth 100000 in
theorem x_areBits {b : Int32} (hP : P ≤ 6) : zq_P l mX9_areBits 0 [.ref 2, .int b] (XH tx n (nI P, nI C, nI R, nI L, hs, ss, cs, gs, vs) dr rd (nI D, sm, nI N, nI K, ce, de, ke, se) i0 i1 kp dd tr m) (some (.int (zb (0 ≤ b.toInt ∧ b.toInt < (zp2 P : Int))))) (XH tx n (nI P, nI C, nI R, nI L, hs, ss, cs, gs, vs) dr rd (nI D, sm, nI N, nI K, ce, de, ke, se) i0 i1 kp dd tr m) := by
  refine zq_start (by decide +kernel) rfl (Nat.le_of_ble_eq_true rfl) ?_
  show zq_G _ _ _ _ _ 0 ([(0, .ref 2), (1, .int b)], [], XH tx n (nI P, nI C, nI R, nI L, hs, ss, cs, gs, vs) dr rd (nI D, sm, nI N, nI K, ce, de, ke, se) i0 i1 kp dd tr m)
  have hp2 := zp2_lt P (by omega)
  refine zq_b [zq_il 1] [zq_ilchk 1] 1 rfl (by decide +kernel) ?_
  show zq_G _ _ _ _ _ 1 ([(0, .ref 2), (1, .int b)], [.int b], XH tx n (nI P, nI C, nI R, nI L, hs, ss, cs, gs, vs) dr rd (nI D, sm, nI N, nI K, ce, de, ke, se) i0 i1 kp dd tr m)
  refine zq_ifz .lt 18 (b.toInt < (0 : Int)) (by decide +kernel) (zq_tn .lt b (n := 0) (by omega)) (fun c1 => ?_) (fun c1 => ?_)
  · show zq_G _ _ _ _ _ 18 ([(0, .ref 2), (1, .int b)], [], XH tx n (nI P, nI C, nI R, nI L, hs, ss, cs, gs, vs) dr rd (nI D, sm, nI N, nI K, ce, de, ke, se) i0 i1 kp dd tr m)
    refine zq_b [zq_k 0] [zq_kchk 0] 19 rfl (by decide +kernel) ?_
    show zq_G _ _ _ _ _ 19 ([(0, .ref 2), (1, .int b)], [.int 0], XH tx n (nI P, nI C, nI R, nI L, hs, ss, cs, gs, vs) dr rd (nI D, sm, nI N, nI K, ce, de, ke, se) i0 i1 kp dd tr m)
    exact zq_zret (by decide +kernel) rfl (Or.inl rfl) (zb_r (zb_f (by omega))) rfl
  · show zq_G _ _ _ _ _ 4 ([(0, .ref 2), (1, .int b)], [], XH tx n (nI P, nI C, nI R, nI L, hs, ss, cs, gs, vs) dr rd (nI D, sm, nI N, nI K, ce, de, ke, se) i0 i1 kp dd tr m)
    refine zq_b [zq_il 1, zq_k 1, zq_al 0, zq_get 9 0, zq_ishl (nI (zp2 P))] [zq_ilchk 1, zq_kchk 1, zq_alchk 0, zq_getchk 9 0, zq_is .ishl 1] 11 rfl (by decide +kernel) ?_
    refine ⟨(zp2_sh P (by omega)), ?_⟩
    show zq_G _ _ _ _ _ 11 ([(0, .ref 2), (1, .int b)], [.int (nI (zp2 P)), .int b], XH tx n (nI P, nI C, nI R, nI L, hs, ss, cs, gs, vs) dr rd (nI D, sm, nI N, nI K, ce, de, ke, se) i0 i1 kp dd tr m)
    refine zq_if .ge 18 ((zp2 P : Int) ≤ b.toInt) (by decide +kernel) (zq_tn .ge b (n := zp2 P) (by omega)) (fun c11 => ?_) (fun c11 => ?_)
    · show zq_G _ _ _ _ _ 18 ([(0, .ref 2), (1, .int b)], [], XH tx n (nI P, nI C, nI R, nI L, hs, ss, cs, gs, vs) dr rd (nI D, sm, nI N, nI K, ce, de, ke, se) i0 i1 kp dd tr m)
      refine zq_b [zq_k 0] [zq_kchk 0] 19 rfl (by decide +kernel) ?_
      show zq_G _ _ _ _ _ 19 ([(0, .ref 2), (1, .int b)], [.int 0], XH tx n (nI P, nI C, nI R, nI L, hs, ss, cs, gs, vs) dr rd (nI D, sm, nI N, nI K, ce, de, ke, se) i0 i1 kp dd tr m)
      exact zq_zret (by decide +kernel) rfl (Or.inl rfl) (zb_r (zb_f (by omega))) rfl
    · show zq_G _ _ _ _ _ 14 ([(0, .ref 2), (1, .int b)], [], XH tx n (nI P, nI C, nI R, nI L, hs, ss, cs, gs, vs) dr rd (nI D, sm, nI N, nI K, ce, de, ke, se) i0 i1 kp dd tr m)
      refine zq_b [zq_k 1, zq_go] [zq_kchk 1, zq_gochk] 19 rfl (by decide +kernel) ?_
      show zq_G _ _ _ _ _ 19 ([(0, .ref 2), (1, .int b)], [.int 1], XH tx n (nI P, nI C, nI R, nI L, hs, ss, cs, gs, vs) dr rd (nI D, sm, nI N, nI K, ce, de, ke, se) i0 i1 kp dd tr m)
      exact zq_zret (by decide +kernel) rfl (Or.inr rfl) (zb_r (zb_t (by omega))) rfl
set_option maxHeartbeats 4000000 in
set_option maxRecDepth 100000 in
theorem x_hasDeed {i : Int32} (hN : N ≤ 12) : zq_P l mX5_hasDeed 0 [.ref 15, .int i] (XH tx n (nI P, nI C, nI R, nI L, hs, ss, cs, gs, vs) dr rd (nI D, sm, nI N, nI K, ce, de, ke, se) i0 i1 kp dd tr m) (some (.int (zb (0 ≤ i.toInt ∧ i.toInt < (N : Int))))) (XH tx n (nI P, nI C, nI R, nI L, hs, ss, cs, gs, vs) dr rd (nI D, sm, nI N, nI K, ce, de, ke, se) i0 i1 kp dd tr m) := by
  refine zq_start (by decide +kernel) rfl (Nat.le_of_ble_eq_true rfl) ?_
  show zq_G _ _ _ _ _ 0 ([(0, .ref 15), (1, .int i)], [], XH tx n (nI P, nI C, nI R, nI L, hs, ss, cs, gs, vs) dr rd (nI D, sm, nI N, nI K, ce, de, ke, se) i0 i1 kp dd tr m)
  refine zq_b [zq_il 1] [zq_ilchk 1] 1 rfl (by decide +kernel) ?_
  show zq_G _ _ _ _ _ 1 ([(0, .ref 15), (1, .int i)], [.int i], XH tx n (nI P, nI C, nI R, nI L, hs, ss, cs, gs, vs) dr rd (nI D, sm, nI N, nI K, ce, de, ke, se) i0 i1 kp dd tr m)
  refine zq_ifz .lt 16 (i.toInt < (0 : Int)) (by decide +kernel) (zq_tn .lt i (n := 0) (by omega)) (fun c1 => ?_) (fun c1 => ?_)
  · show zq_G _ _ _ _ _ 16 ([(0, .ref 15), (1, .int i)], [], XH tx n (nI P, nI C, nI R, nI L, hs, ss, cs, gs, vs) dr rd (nI D, sm, nI N, nI K, ce, de, ke, se) i0 i1 kp dd tr m)
    refine zq_b [zq_k 0] [zq_kchk 0] 17 rfl (by decide +kernel) ?_
    show zq_G _ _ _ _ _ 17 ([(0, .ref 15), (1, .int i)], [.int 0], XH tx n (nI P, nI C, nI R, nI L, hs, ss, cs, gs, vs) dr rd (nI D, sm, nI N, nI K, ce, de, ke, se) i0 i1 kp dd tr m)
    exact zq_zret (by decide +kernel) rfl (Or.inl rfl) (zb_r (zb_f (by omega))) rfl
  · show zq_G _ _ _ _ _ 4 ([(0, .ref 15), (1, .int i)], [], XH tx n (nI P, nI C, nI R, nI L, hs, ss, cs, gs, vs) dr rd (nI D, sm, nI N, nI K, ce, de, ke, se) i0 i1 kp dd tr m)
    refine zq_b [zq_il 1, zq_al 0, zq_get 5 3] [zq_ilchk 1, zq_alchk 0, zq_getchk 5 3] 9 rfl (by decide +kernel) ?_
    show zq_G _ _ _ _ _ 9 ([(0, .ref 15), (1, .int i)], [.int (nI N), .int i], XH tx n (nI P, nI C, nI R, nI L, hs, ss, cs, gs, vs) dr rd (nI D, sm, nI N, nI K, ce, de, ke, se) i0 i1 kp dd tr m)
    refine zq_if .ge 16 ((N : Int) ≤ i.toInt) (by decide +kernel) (zq_tn .ge i (n := N) (by omega)) (fun c9 => ?_) (fun c9 => ?_)
    · show zq_G _ _ _ _ _ 16 ([(0, .ref 15), (1, .int i)], [], XH tx n (nI P, nI C, nI R, nI L, hs, ss, cs, gs, vs) dr rd (nI D, sm, nI N, nI K, ce, de, ke, se) i0 i1 kp dd tr m)
      refine zq_b [zq_k 0] [zq_kchk 0] 17 rfl (by decide +kernel) ?_
      show zq_G _ _ _ _ _ 17 ([(0, .ref 15), (1, .int i)], [.int 0], XH tx n (nI P, nI C, nI R, nI L, hs, ss, cs, gs, vs) dr rd (nI D, sm, nI N, nI K, ce, de, ke, se) i0 i1 kp dd tr m)
      exact zq_zret (by decide +kernel) rfl (Or.inl rfl) (zb_r (zb_f (by omega))) rfl
    · show zq_G _ _ _ _ _ 12 ([(0, .ref 15), (1, .int i)], [], XH tx n (nI P, nI C, nI R, nI L, hs, ss, cs, gs, vs) dr rd (nI D, sm, nI N, nI K, ce, de, ke, se) i0 i1 kp dd tr m)
      refine zq_b [zq_k 1, zq_go] [zq_kchk 1, zq_gochk] 17 rfl (by decide +kernel) ?_
      show zq_G _ _ _ _ _ 17 ([(0, .ref 15), (1, .int i)], [.int 1], XH tx n (nI P, nI C, nI R, nI L, hs, ss, cs, gs, vs) dr rd (nI D, sm, nI N, nI K, ce, de, ke, se) i0 i1 kp dd tr m)
      exact zq_zret (by decide +kernel) rfl (Or.inr rfl) (zb_r (zb_t (by omega))) rfl
set_option maxHeartbeats 4000000 in
set_option maxRecDepth 100000 in
theorem x_hasDeedN {i : Nat} (hN : N ≤ 12) (hi : i < 2147483648) : zq_P l mX5_hasDeed 0 [.ref 15, .int (nI i)] (XH tx n (nI P, nI C, nI R, nI L, hs, ss, cs, gs, vs) dr rd (nI D, sm, nI N, nI K, ce, de, ke, se) i0 i1 kp dd tr m) (some (.int (zb (i < N)))) (XH tx n (nI P, nI C, nI R, nI L, hs, ss, cs, gs, vs) dr rd (nI D, sm, nI N, nI K, ce, de, ke, se) i0 i1 kp dd tr m) := by
  refine zq_start (by decide +kernel) rfl (Nat.le_of_ble_eq_true rfl) ?_
  show zq_G _ _ _ _ _ 0 ([(0, .ref 15), (1, .int (nI i))], [], XH tx n (nI P, nI C, nI R, nI L, hs, ss, cs, gs, vs) dr rd (nI D, sm, nI N, nI K, ce, de, ke, se) i0 i1 kp dd tr m)
  refine zq_b [zq_il 1] [zq_ilchk 1] 1 rfl (by decide +kernel) ?_
  show zq_G _ _ _ _ _ 1 ([(0, .ref 15), (1, .int (nI i))], [.int (nI i)], XH tx n (nI P, nI C, nI R, nI L, hs, ss, cs, gs, vs) dr rd (nI D, sm, nI N, nI K, ce, de, ke, se) i0 i1 kp dd tr m)
  refine zq_ifz .lt 16 (i < 0) (by decide +kernel) (zq_clt (a := i) (b := 0) (by omega) (by omega)) (fun c1 => absurd c1 (by omega)) (fun c1 => ?_)
  show zq_G _ _ _ _ _ 4 ([(0, .ref 15), (1, .int (nI i))], [], XH tx n (nI P, nI C, nI R, nI L, hs, ss, cs, gs, vs) dr rd (nI D, sm, nI N, nI K, ce, de, ke, se) i0 i1 kp dd tr m)
  refine zq_b [zq_il 1, zq_al 0, zq_get 5 3] [zq_ilchk 1, zq_alchk 0, zq_getchk 5 3] 9 rfl (by decide +kernel) ?_
  show zq_G _ _ _ _ _ 9 ([(0, .ref 15), (1, .int (nI i))], [.int (nI N), .int (nI i)], XH tx n (nI P, nI C, nI R, nI L, hs, ss, cs, gs, vs) dr rd (nI D, sm, nI N, nI K, ce, de, ke, se) i0 i1 kp dd tr m)
  refine zq_if .ge 16 (N ≤ i) (by decide +kernel) (zq_cge (a := i) (b := N) (by omega) (by omega)) (fun c9 => ?_) (fun c9 => ?_)
  · show zq_G _ _ _ _ _ 16 ([(0, .ref 15), (1, .int (nI i))], [], XH tx n (nI P, nI C, nI R, nI L, hs, ss, cs, gs, vs) dr rd (nI D, sm, nI N, nI K, ce, de, ke, se) i0 i1 kp dd tr m)
    refine zq_b [zq_k 0] [zq_kchk 0] 17 rfl (by decide +kernel) ?_
    show zq_G _ _ _ _ _ 17 ([(0, .ref 15), (1, .int (nI i))], [.int 0], XH tx n (nI P, nI C, nI R, nI L, hs, ss, cs, gs, vs) dr rd (nI D, sm, nI N, nI K, ce, de, ke, se) i0 i1 kp dd tr m)
    exact zq_zret (by decide +kernel) rfl (Or.inl rfl) (zb_r (zb_f (by omega))) rfl
  · show zq_G _ _ _ _ _ 12 ([(0, .ref 15), (1, .int (nI i))], [], XH tx n (nI P, nI C, nI R, nI L, hs, ss, cs, gs, vs) dr rd (nI D, sm, nI N, nI K, ce, de, ke, se) i0 i1 kp dd tr m)
    refine zq_b [zq_k 1, zq_go] [zq_kchk 1, zq_gochk] 17 rfl (by decide +kernel) ?_
    show zq_G _ _ _ _ _ 17 ([(0, .ref 15), (1, .int (nI i))], [.int 1], XH tx n (nI P, nI C, nI R, nI L, hs, ss, cs, gs, vs) dr rd (nI D, sm, nI N, nI K, ce, de, ke, se) i0 i1 kp dd tr m)
    exact zq_zret (by decide +kernel) rfl (Or.inr rfl) (zb_r (zb_t (by omega))) rfl
set_option maxHeartbeats 4000000 in
set_option maxRecDepth 100000 in
theorem x_keptOnN {b : Nat} (hb : b < D) (hD : D ≤ 99) : zq_P l mX5_keptOn 0 [.ref 15, .int (nI b)] (XH tx n (nI P, nI C, nI R, nI L, hs, ss, cs, gs, vs) dr rd (nI D, sm, nI N, nI K, ce, de, ke, se) i0 i1 kp dd tr m) (some (.int (ke b))) (XH tx n (nI P, nI C, nI R, nI L, hs, ss, cs, gs, vs) dr rd (nI D, sm, nI N, nI K, ce, de, ke, se) i0 i1 kp dd tr m) := by
  refine zq_start (by decide +kernel) rfl (Nat.le_of_ble_eq_true rfl) ?_
  show zq_G _ _ _ _ _ 0 ([(0, .ref 15), (1, .int (nI b))], [], XH tx n (nI P, nI C, nI R, nI L, hs, ss, cs, gs, vs) dr rd (nI D, sm, nI N, nI K, ce, de, ke, se) i0 i1 kp dd tr m)
  refine zq_b [zq_il 1] [zq_ilchk 1] 1 rfl (by decide +kernel) ?_
  show zq_G _ _ _ _ _ 1 ([(0, .ref 15), (1, .int (nI b))], [.int (nI b)], XH tx n (nI P, nI C, nI R, nI L, hs, ss, cs, gs, vs) dr rd (nI D, sm, nI N, nI K, ce, de, ke, se) i0 i1 kp dd tr m)
  refine zq_ifz .lt 21 (b < 0) (by decide +kernel) (zq_clt (a := b) (b := 0) (by omega) (by omega)) (fun c1 => absurd c1 (by omega)) (fun c1 => ?_)
  show zq_G _ _ _ _ _ 4 ([(0, .ref 15), (1, .int (nI b))], [], XH tx n (nI P, nI C, nI R, nI L, hs, ss, cs, gs, vs) dr rd (nI D, sm, nI N, nI K, ce, de, ke, se) i0 i1 kp dd tr m)
  refine zq_b [zq_il 1, zq_al 0, zq_get 5 1] [zq_ilchk 1, zq_alchk 0, zq_getchk 5 1] 9 rfl (by decide +kernel) ?_
  show zq_G _ _ _ _ _ 9 ([(0, .ref 15), (1, .int (nI b))], [.int (nI D), .int (nI b)], XH tx n (nI P, nI C, nI R, nI L, hs, ss, cs, gs, vs) dr rd (nI D, sm, nI N, nI K, ce, de, ke, se) i0 i1 kp dd tr m)
  refine zq_if .ge 21 (D ≤ b) (by decide +kernel) (zq_cge (a := b) (b := D) (by omega) (by omega)) (fun c9 => absurd c9 (by omega)) (fun c9 => ?_)
  show zq_G _ _ _ _ _ 12 ([(0, .ref 15), (1, .int (nI b))], [], XH tx n (nI P, nI C, nI R, nI L, hs, ss, cs, gs, vs) dr rd (nI D, sm, nI N, nI K, ce, de, ke, se) i0 i1 kp dd tr m)
  refine zq_b [zq_al 0, zq_get 5 7, zq_il 1, zq_iald b (ke b), zq_go] [zq_alchk 0, zq_getchk 5 7, zq_ilchk 1, zq_is .iaload 1, zq_gochk] 22 rfl (by decide +kernel) ?_
  refine ⟨rfl, (by omega), (by omega), rfl, ?_⟩
  show zq_G _ _ _ _ _ 22 ([(0, .ref 15), (1, .int (nI b))], [.int (ke b)], XH tx n (nI P, nI C, nI R, nI L, hs, ss, cs, gs, vs) dr rd (nI D, sm, nI N, nI K, ce, de, ke, se) i0 i1 kp dd tr m)
  exact zq_iret (by decide +kernel) rfl rfl rfl
set_option maxHeartbeats 4000000 in
set_option maxRecDepth 100000 in
theorem x_type_bad {x : Int32} (hb : x.toInt < 0 ∨ 255 < x.toInt) : zq_P l mX11_type 1 [.ref 0, .int x] (XH tx (nI Z) (nI P, nI C, nI R, nI L, hs, ss, cs, gs, vs) dr rd (nI D, sm, nI N, nI K, ce, de, ke, se) i0 i1 kp dd tr m) (some (.int (-1))) (XH tx (nI Z) (nI P, nI C, nI R, nI L, hs, ss, cs, gs, vs) dr rd (nI D, sm, nI N, nI K, ce, de, ke, se) i0 i1 kp dd tr m) := by
  refine zq_start (by decide +kernel) rfl (Nat.le_of_ble_eq_true rfl) ?_
  show zq_G _ _ _ _ _ 0 ([(0, .ref 0), (1, .int x)], [], XH tx (nI Z) (nI P, nI C, nI R, nI L, hs, ss, cs, gs, vs) dr rd (nI D, sm, nI N, nI K, ce, de, ke, se) i0 i1 kp dd tr m)
  refine zq_b [zq_il 1, zq_k 255] [zq_ilchk 1, zq_kchk 255] 4 rfl (by decide +kernel) ?_
  show zq_G _ _ _ _ _ 4 ([(0, .ref 0), (1, .int x)], [.int 255, .int x], XH tx (nI Z) (nI P, nI C, nI R, nI L, hs, ss, cs, gs, vs) dr rd (nI D, sm, nI N, nI K, ce, de, ke, se) i0 i1 kp dd tr m)
  refine zq_callS (av := [.int x, .int 255]) (rest := []) (by decide +kernel) k11_87 (x_isBeyond (x := x) (q := 255) (by omega)) rfl rfl ?_
  show zq_G _ _ _ _ _ 7 ([(0, .ref 0), (1, .int x)], [.int (zb (x.toInt < 0 ∨ (255 : Int) < x.toInt))], XH tx (nI Z) (nI P, nI C, nI R, nI L, hs, ss, cs, gs, vs) dr rd (nI D, sm, nI N, nI K, ce, de, ke, se) i0 i1 kp dd tr m)
  refine zq_ifz .eq 12 (¬ (x.toInt < 0 ∨ (255 : Int) < x.toInt)) (by decide +kernel) (zb_eq _) (fun c7 => ?_) (fun c7 => ?_)
  · show zq_G _ _ _ _ _ 12 ([(0, .ref 0), (1, .int x)], [], XH tx (nI Z) (nI P, nI C, nI R, nI L, hs, ss, cs, gs, vs) dr rd (nI D, sm, nI N, nI K, ce, de, ke, se) i0 i1 kp dd tr m)
    exact absurd hb (by omega)
  · show zq_G _ _ _ _ _ 10 ([(0, .ref 0), (1, .int x)], [], XH tx (nI Z) (nI P, nI C, nI R, nI L, hs, ss, cs, gs, vs) dr rd (nI D, sm, nI N, nI K, ce, de, ke, se) i0 i1 kp dd tr m)
    refine zq_b [zq_k (-1)] [zq_kchk (-1)] 11 rfl (by decide +kernel) ?_
    show zq_G _ _ _ _ _ 11 ([(0, .ref 0), (1, .int x)], [.int (-1)], XH tx (nI Z) (nI P, nI C, nI R, nI L, hs, ss, cs, gs, vs) dr rd (nI D, sm, nI N, nI K, ce, de, ke, se) i0 i1 kp dd tr m)
    exact zq_iret (by decide +kernel) rfl rfl rfl
set_option maxHeartbeats 4000000 in
set_option maxRecDepth 100000 in
theorem x_type_full {a : Nat} (ha : a ≤ 255) (hZ : Z = 200) : zq_P l mX11_type 1 [.ref 0, .int (nI a)] (XH tx (nI Z) (nI P, nI C, nI R, nI L, hs, ss, cs, gs, vs) dr rd (nI D, sm, nI N, nI K, ce, de, ke, se) i0 i1 kp dd tr m) (some (.int (-3))) (XH tx (nI Z) (nI P, nI C, nI R, nI L, hs, ss, cs, gs, vs) dr rd (nI D, sm, nI N, nI K, ce, de, ke, se) i0 i1 kp dd tr m) := by
  refine zq_start (by decide +kernel) rfl (Nat.le_of_ble_eq_true rfl) ?_
  show zq_G _ _ _ _ _ 0 ([(0, .ref 0), (1, .int (nI a))], [], XH tx (nI Z) (nI P, nI C, nI R, nI L, hs, ss, cs, gs, vs) dr rd (nI D, sm, nI N, nI K, ce, de, ke, se) i0 i1 kp dd tr m)
  refine zq_b [zq_il 1, zq_k 255] [zq_ilchk 1, zq_kchk 255] 4 rfl (by decide +kernel) ?_
  show zq_G _ _ _ _ _ 4 ([(0, .ref 0), (1, .int (nI a))], [.int 255, .int (nI a)], XH tx (nI Z) (nI P, nI C, nI R, nI L, hs, ss, cs, gs, vs) dr rd (nI D, sm, nI N, nI K, ce, de, ke, se) i0 i1 kp dd tr m)
  refine zq_callS (av := [.int (nI a), .int 255]) (rest := []) (by decide +kernel) k11_87 (x_isBeyondN (p := a) (q := 255) (by omega) (by omega)) rfl rfl ?_
  show zq_G _ _ _ _ _ 7 ([(0, .ref 0), (1, .int (nI a))], [.int (zb (255 < a))], XH tx (nI Z) (nI P, nI C, nI R, nI L, hs, ss, cs, gs, vs) dr rd (nI D, sm, nI N, nI K, ce, de, ke, se) i0 i1 kp dd tr m)
  refine zq_ifz .eq 12 (¬ (255 < a)) (by decide +kernel) (zb_eq _) (fun c7 => ?_) (fun c7 => absurd (by omega) c7)
  show zq_G _ _ _ _ _ 12 ([(0, .ref 0), (1, .int (nI a))], [], XH tx (nI Z) (nI P, nI C, nI R, nI L, hs, ss, cs, gs, vs) dr rd (nI D, sm, nI N, nI K, ce, de, ke, se) i0 i1 kp dd tr m)
  refine zq_b [zq_al 0, zq_get 11 1, zq_k 200] [zq_alchk 0, zq_getchk 11 1, zq_kchk 200] 19 rfl (by decide +kernel) ?_
  show zq_G _ _ _ _ _ 19 ([(0, .ref 0), (1, .int (nI a))], [.int 200, .int (nI Z)], XH tx (nI Z) (nI P, nI C, nI R, nI L, hs, ss, cs, gs, vs) dr rd (nI D, sm, nI N, nI K, ce, de, ke, se) i0 i1 kp dd tr m)
  refine zq_if .lt 25 (Z < 200) (by decide +kernel) (zq_clt (a := Z) (b := 200) (by omega) (by omega)) (fun c19 => absurd c19 (by omega)) (fun c19 => ?_)
  show zq_G _ _ _ _ _ 22 ([(0, .ref 0), (1, .int (nI a))], [], XH tx (nI Z) (nI P, nI C, nI R, nI L, hs, ss, cs, gs, vs) dr rd (nI D, sm, nI N, nI K, ce, de, ke, se) i0 i1 kp dd tr m)
  refine zq_b [zq_k (-3)] [zq_kchk (-3)] 24 rfl (by decide +kernel) ?_
  show zq_G _ _ _ _ _ 24 ([(0, .ref 0), (1, .int (nI a))], [.int (-3)], XH tx (nI Z) (nI P, nI C, nI R, nI L, hs, ss, cs, gs, vs) dr rd (nI D, sm, nI N, nI K, ce, de, ke, se) i0 i1 kp dd tr m)
  exact zq_iret (by decide +kernel) rfl rfl rfl
set_option maxHeartbeats 4000000 in
set_option maxRecDepth 100000 in
theorem x_type {a : Nat} (ha : a ≤ 255) (hZ : Z < 200) : zq_P l mX11_type 1 [.ref 0, .int (nI a)] (XH tx (nI Z) (nI P, nI C, nI R, nI L, hs, ss, cs, gs, vs) dr rd (nI D, sm, nI N, nI K, ce, de, ke, se) i0 i1 kp dd tr m) (some (.int (nI (Z + 1)))) (XH (upd tx Z (nI a)) (nI (Z + 1)) (nI P, nI C, nI R, nI L, hs, ss, cs, gs, vs) dr rd (nI D, sm, nI N, nI K, ce, de, ke, se) i0 i1 kp dd tr m) := by
  refine zq_start (by decide +kernel) rfl (Nat.le_of_ble_eq_true rfl) ?_
  show zq_G _ _ _ _ _ 0 ([(0, .ref 0), (1, .int (nI a))], [], XH tx (nI Z) (nI P, nI C, nI R, nI L, hs, ss, cs, gs, vs) dr rd (nI D, sm, nI N, nI K, ce, de, ke, se) i0 i1 kp dd tr m)
  refine zq_b [zq_il 1, zq_k 255] [zq_ilchk 1, zq_kchk 255] 4 rfl (by decide +kernel) ?_
  show zq_G _ _ _ _ _ 4 ([(0, .ref 0), (1, .int (nI a))], [.int 255, .int (nI a)], XH tx (nI Z) (nI P, nI C, nI R, nI L, hs, ss, cs, gs, vs) dr rd (nI D, sm, nI N, nI K, ce, de, ke, se) i0 i1 kp dd tr m)
  refine zq_callS (av := [.int (nI a), .int 255]) (rest := []) (by decide +kernel) k11_87 (x_isBeyondN (p := a) (q := 255) (by omega) (by omega)) rfl rfl ?_
  show zq_G _ _ _ _ _ 7 ([(0, .ref 0), (1, .int (nI a))], [.int (zb (255 < a))], XH tx (nI Z) (nI P, nI C, nI R, nI L, hs, ss, cs, gs, vs) dr rd (nI D, sm, nI N, nI K, ce, de, ke, se) i0 i1 kp dd tr m)
  refine zq_ifz .eq 12 (¬ (255 < a)) (by decide +kernel) (zb_eq _) (fun c7 => ?_) (fun c7 => absurd (by omega) c7)
  show zq_G _ _ _ _ _ 12 ([(0, .ref 0), (1, .int (nI a))], [], XH tx (nI Z) (nI P, nI C, nI R, nI L, hs, ss, cs, gs, vs) dr rd (nI D, sm, nI N, nI K, ce, de, ke, se) i0 i1 kp dd tr m)
  refine zq_b [zq_al 0, zq_get 11 1, zq_k 200] [zq_alchk 0, zq_getchk 11 1, zq_kchk 200] 19 rfl (by decide +kernel) ?_
  show zq_G _ _ _ _ _ 19 ([(0, .ref 0), (1, .int (nI a))], [.int 200, .int (nI Z)], XH tx (nI Z) (nI P, nI C, nI R, nI L, hs, ss, cs, gs, vs) dr rd (nI D, sm, nI N, nI K, ce, de, ke, se) i0 i1 kp dd tr m)
  refine zq_if .lt 25 (Z < 200) (by decide +kernel) (zq_clt (a := Z) (b := 200) (by omega) (by omega)) (fun c19 => ?_) (fun c19 => absurd (by omega) c19)
  show zq_G _ _ _ _ _ 25 ([(0, .ref 0), (1, .int (nI a))], [], XH tx (nI Z) (nI P, nI C, nI R, nI L, hs, ss, cs, gs, vs) dr rd (nI D, sm, nI N, nI K, ce, de, ke, se) i0 i1 kp dd tr m)
  refine zq_b [zq_al 0, zq_get 11 0, zq_al 0, zq_get 11 1, zq_il 1, zq_iast Z, zq_al 0, zq_dup, zq_get 11 1, zq_k 1, zq_iadd (nI (Z + 1)), zq_puti 11 1, zq_al 0, zq_get 11 1] [zq_alchk 0, zq_getchk 11 0, zq_alchk 0, zq_getchk 11 1, zq_ilchk 1, zq_is .iastore 1, zq_alchk 0, zq_is .dup 1, zq_getchk 11 1, zq_kchk 1, zq_is .iadd 1, zq_putchk 11 1 .int, zq_alchk 0, zq_getchk 11 1] 49 rfl (by decide +kernel) ?_
  refine ⟨rfl, (by omega), (by omega), (nI_add Z 1), ?_⟩
  show zq_G _ _ _ _ _ 49 ([(0, .ref 0), (1, .int (nI a))], [.int (nI (Z + 1))], XH (upd tx Z (nI a)) (nI (Z + 1)) (nI P, nI C, nI R, nI L, hs, ss, cs, gs, vs) dr rd (nI D, sm, nI N, nI K, ce, de, ke, se) i0 i1 kp dd tr m)
  exact zq_iret (by decide +kernel) rfl rfl rfl
set_option maxHeartbeats 4000000 in
set_option maxRecDepth 100000 in
theorem x_clear   : zq_P l mX11_clear 0 [.ref 0] (XH tx (nI Z) (nI P, nI C, nI R, nI L, hs, ss, cs, gs, vs) dr rd (nI D, sm, nI N, nI K, ce, de, ke, se) i0 i1 kp dd tr m) (some (.int (nI Z))) (XH tx 0 (nI P, nI C, nI R, nI L, hs, ss, cs, gs, vs) dr rd (nI D, sm, nI N, nI K, ce, de, ke, se) i0 i1 kp dd tr m) := by
  refine zq_start (by decide +kernel) rfl (Nat.le_of_ble_eq_true rfl) ?_
  show zq_G _ _ _ _ _ 0 ([(0, .ref 0)], [], XH tx (nI Z) (nI P, nI C, nI R, nI L, hs, ss, cs, gs, vs) dr rd (nI D, sm, nI N, nI K, ce, de, ke, se) i0 i1 kp dd tr m)
  refine zq_b [zq_al 0, zq_get 11 1, zq_is1 1, zq_al 0, zq_k 0, zq_puti 11 1, zq_il 1] [zq_alchk 0, zq_getchk 11 1, zq_is1chk 1, zq_alchk 0, zq_kchk 0, zq_putchk 11 1 .int, zq_ilchk 1] 11 rfl (by decide +kernel) ?_
  show zq_G _ _ _ _ _ 11 ([(0, .ref 0), (1, .int (nI Z))], [.int (nI Z)], XH tx 0 (nI P, nI C, nI R, nI L, hs, ss, cs, gs, vs) dr rd (nI D, sm, nI N, nI K, ce, de, ke, se) i0 i1 kp dd tr m)
  exact zq_iret (by decide +kernel) rfl rfl rfl
set_option maxHeartbeats 4000000 in
set_option maxRecDepth 100000 in
theorem x_person_bad {x : Int32} {y : Int32} (hP : P ≤ 6) (hb : ¬ (0 ≤ x.toInt ∧ x.toInt < (P : Int) ∧ 0 ≤ y.toInt ∧ y.toInt ≤ 2)) : zq_P l mX11_person 1 [.ref 0, .int x, .int y] (XH tx (nI Z) (nI P, nI C, nI R, nI L, hs, ss, cs, gs, vs) dr rd (nI D, sm, nI N, nI K, ce, de, ke, se) i0 i1 kp dd tr m) (some (.int (-1))) (XH tx (nI Z) (nI P, nI C, nI R, nI L, hs, ss, cs, gs, vs) dr rd (nI D, sm, nI N, nI K, ce, de, ke, se) i0 i1 kp dd tr m) := by
  refine zq_start (by decide +kernel) rfl (Nat.le_of_ble_eq_true rfl) ?_
  show zq_G _ _ _ _ _ 0 ([(0, .ref 0), (1, .int x), (2, .int y)], [], XH tx (nI Z) (nI P, nI C, nI R, nI L, hs, ss, cs, gs, vs) dr rd (nI D, sm, nI N, nI K, ce, de, ke, se) i0 i1 kp dd tr m)
  refine zq_b [zq_al 0, zq_get 11 2, zq_il 1] [zq_alchk 0, zq_getchk 11 2, zq_ilchk 1] 5 rfl (by decide +kernel) ?_
  show zq_G _ _ _ _ _ 5 ([(0, .ref 0), (1, .int x), (2, .int y)], [.int x, .ref 2], XH tx (nI Z) (nI P, nI C, nI R, nI L, hs, ss, cs, gs, vs) dr rd (nI D, sm, nI N, nI K, ce, de, ke, se) i0 i1 kp dd tr m)
  refine zq_callV (av := [.int x]) (rest := []) (by decide +kernel) k11_105 (x_hasPerson (p := x) hP) rfl rfl rfl rfl ?_
  show zq_G _ _ _ _ _ 8 ([(0, .ref 0), (1, .int x), (2, .int y)], [.int (zb (0 ≤ x.toInt ∧ x.toInt < (P : Int)))], XH tx (nI Z) (nI P, nI C, nI R, nI L, hs, ss, cs, gs, vs) dr rd (nI D, sm, nI N, nI K, ce, de, ke, se) i0 i1 kp dd tr m)
  refine zq_ifz .eq 19 (¬ (0 ≤ x.toInt ∧ x.toInt < (P : Int))) (by decide +kernel) (zb_eq _) (fun c8 => ?_) (fun c8 => ?_)
  · show zq_G _ _ _ _ _ 19 ([(0, .ref 0), (1, .int x), (2, .int y)], [], XH tx (nI Z) (nI P, nI C, nI R, nI L, hs, ss, cs, gs, vs) dr rd (nI D, sm, nI N, nI K, ce, de, ke, se) i0 i1 kp dd tr m)
    refine zq_b [zq_k (-1)] [zq_kchk (-1)] 20 rfl (by decide +kernel) ?_
    show zq_G _ _ _ _ _ 20 ([(0, .ref 0), (1, .int x), (2, .int y)], [.int (-1)], XH tx (nI Z) (nI P, nI C, nI R, nI L, hs, ss, cs, gs, vs) dr rd (nI D, sm, nI N, nI K, ce, de, ke, se) i0 i1 kp dd tr m)
    exact zq_iret (by decide +kernel) rfl rfl rfl
  · show zq_G _ _ _ _ _ 11 ([(0, .ref 0), (1, .int x), (2, .int y)], [], XH tx (nI Z) (nI P, nI C, nI R, nI L, hs, ss, cs, gs, vs) dr rd (nI D, sm, nI N, nI K, ce, de, ke, se) i0 i1 kp dd tr m)
    refine zq_b [zq_il 2, zq_k 2] [zq_ilchk 2, zq_kchk 2] 13 rfl (by decide +kernel) ?_
    show zq_G _ _ _ _ _ 13 ([(0, .ref 0), (1, .int x), (2, .int y)], [.int 2, .int y], XH tx (nI Z) (nI P, nI C, nI R, nI L, hs, ss, cs, gs, vs) dr rd (nI D, sm, nI N, nI K, ce, de, ke, se) i0 i1 kp dd tr m)
    refine zq_callS (av := [.int y, .int 2]) (rest := []) (by decide +kernel) k11_87 (x_isBeyond (x := y) (q := 2) (by omega)) rfl rfl ?_
    show zq_G _ _ _ _ _ 16 ([(0, .ref 0), (1, .int x), (2, .int y)], [.int (zb (y.toInt < 0 ∨ (2 : Int) < y.toInt))], XH tx (nI Z) (nI P, nI C, nI R, nI L, hs, ss, cs, gs, vs) dr rd (nI D, sm, nI N, nI K, ce, de, ke, se) i0 i1 kp dd tr m)
    refine zq_ifz .eq 21 (¬ (y.toInt < 0 ∨ (2 : Int) < y.toInt)) (by decide +kernel) (zb_eq _) (fun c16 => ?_) (fun c16 => ?_)
    · show zq_G _ _ _ _ _ 21 ([(0, .ref 0), (1, .int x), (2, .int y)], [], XH tx (nI Z) (nI P, nI C, nI R, nI L, hs, ss, cs, gs, vs) dr rd (nI D, sm, nI N, nI K, ce, de, ke, se) i0 i1 kp dd tr m)
      exact absurd hb (by omega)
    · show zq_G _ _ _ _ _ 19 ([(0, .ref 0), (1, .int x), (2, .int y)], [], XH tx (nI Z) (nI P, nI C, nI R, nI L, hs, ss, cs, gs, vs) dr rd (nI D, sm, nI N, nI K, ce, de, ke, se) i0 i1 kp dd tr m)
      refine zq_b [zq_k (-1)] [zq_kchk (-1)] 20 rfl (by decide +kernel) ?_
      show zq_G _ _ _ _ _ 20 ([(0, .ref 0), (1, .int x), (2, .int y)], [.int (-1)], XH tx (nI Z) (nI P, nI C, nI R, nI L, hs, ss, cs, gs, vs) dr rd (nI D, sm, nI N, nI K, ce, de, ke, se) i0 i1 kp dd tr m)
      exact zq_iret (by decide +kernel) rfl rfl rfl
set_option maxHeartbeats 4000000 in
set_option maxRecDepth 100000 in
theorem x_person_0 {a : Nat} (ha : a < P) (hP : P ≤ 6) : zq_P l mX11_person 6 [.ref 0, .int (nI a), .int 0] (XH tx (nI Z) (nI P, nI C, nI R, nI L, hs, ss, cs, gs, vs) dr rd (nI D, sm, nI N, nI K, ce, de, ke, se) i0 i1 kp dd tr m) (some (.int (hs a))) (XH tx (nI Z) (nI P, nI C, nI R, nI L, hs, ss, cs, gs, vs) dr rd (nI D, sm, nI N, nI K, ce, de, ke, se) i0 i1 kp dd tr m) := by
  refine zq_start (by decide +kernel) rfl (Nat.le_of_ble_eq_true rfl) ?_
  show zq_G _ _ _ _ _ 0 ([(0, .ref 0), (1, .int (nI a)), (2, .int 0)], [], XH tx (nI Z) (nI P, nI C, nI R, nI L, hs, ss, cs, gs, vs) dr rd (nI D, sm, nI N, nI K, ce, de, ke, se) i0 i1 kp dd tr m)
  refine zq_b [zq_al 0, zq_get 11 2, zq_il 1] [zq_alchk 0, zq_getchk 11 2, zq_ilchk 1] 5 rfl (by decide +kernel) ?_
  show zq_G _ _ _ _ _ 5 ([(0, .ref 0), (1, .int (nI a)), (2, .int 0)], [.int (nI a), .ref 2], XH tx (nI Z) (nI P, nI C, nI R, nI L, hs, ss, cs, gs, vs) dr rd (nI D, sm, nI N, nI K, ce, de, ke, se) i0 i1 kp dd tr m)
  refine zq_callV (av := [.int (nI a)]) (rest := []) (by decide +kernel) k11_105 (x_hasPersonN (p := a) hP (by omega)) rfl rfl rfl rfl ?_
  show zq_G _ _ _ _ _ 8 ([(0, .ref 0), (1, .int (nI a)), (2, .int 0)], [.int (zb (a < P))], XH tx (nI Z) (nI P, nI C, nI R, nI L, hs, ss, cs, gs, vs) dr rd (nI D, sm, nI N, nI K, ce, de, ke, se) i0 i1 kp dd tr m)
  refine zq_ifz .eq 19 (¬ (a < P)) (by decide +kernel) (zb_eq _) (fun c8 => absurd c8 (by omega)) (fun c8 => ?_)
  show zq_G _ _ _ _ _ 11 ([(0, .ref 0), (1, .int (nI a)), (2, .int 0)], [], XH tx (nI Z) (nI P, nI C, nI R, nI L, hs, ss, cs, gs, vs) dr rd (nI D, sm, nI N, nI K, ce, de, ke, se) i0 i1 kp dd tr m)
  refine zq_b [zq_il 2, zq_k 2] [zq_ilchk 2, zq_kchk 2] 13 rfl (by decide +kernel) ?_
  show zq_G _ _ _ _ _ 13 ([(0, .ref 0), (1, .int (nI a)), (2, .int 0)], [.int 2, .int 0], XH tx (nI Z) (nI P, nI C, nI R, nI L, hs, ss, cs, gs, vs) dr rd (nI D, sm, nI N, nI K, ce, de, ke, se) i0 i1 kp dd tr m)
  refine zq_callS (av := [.int 0, .int 2]) (rest := []) (by decide +kernel) k11_87 (x_isBeyondN (p := 0) (q := 2) (by omega) (by omega)) rfl rfl ?_
  show zq_G _ _ _ _ _ 16 ([(0, .ref 0), (1, .int (nI a)), (2, .int 0)], [.int (zb (2 < 0))], XH tx (nI Z) (nI P, nI C, nI R, nI L, hs, ss, cs, gs, vs) dr rd (nI D, sm, nI N, nI K, ce, de, ke, se) i0 i1 kp dd tr m)
  refine zq_ifz .eq 21 (¬ (2 < 0)) (by decide +kernel) (zb_eq _) (fun c16 => ?_) (fun c16 => absurd (by omega) c16)
  show zq_G _ _ _ _ _ 21 ([(0, .ref 0), (1, .int (nI a)), (2, .int 0)], [], XH tx (nI Z) (nI P, nI C, nI R, nI L, hs, ss, cs, gs, vs) dr rd (nI D, sm, nI N, nI K, ce, de, ke, se) i0 i1 kp dd tr m)
  refine zq_b [zq_il 2] [zq_ilchk 2] 22 rfl (by decide +kernel) ?_
  show zq_G _ _ _ _ _ 22 ([(0, .ref 0), (1, .int (nI a)), (2, .int 0)], [.int 0], XH tx (nI Z) (nI P, nI C, nI R, nI L, hs, ss, cs, gs, vs) dr rd (nI D, sm, nI N, nI K, ce, de, ke, se) i0 i1 kp dd tr m)
  refine zq_swc [(0, 48), (1, 58)] 68 (by decide +kernel) ⟨fun _ => ?_, fun c => absurd c (by decide), trivial⟩ (fun c => absurd (by decide) c.1)
  show zq_G _ _ _ _ _ 48 ([(0, .ref 0), (1, .int (nI a)), (2, .int 0)], [], XH tx (nI Z) (nI P, nI C, nI R, nI L, hs, ss, cs, gs, vs) dr rd (nI D, sm, nI N, nI K, ce, de, ke, se) i0 i1 kp dd tr m)
  refine zq_b [zq_al 0, zq_get 11 2, zq_get 9 4, zq_il 1, zq_iald a (hs a)] [zq_alchk 0, zq_getchk 11 2, zq_getchk 9 4, zq_ilchk 1, zq_is .iaload 1] 57 rfl (by decide +kernel) ?_
  refine ⟨rfl, (by omega), (by omega), rfl, ?_⟩
  show zq_G _ _ _ _ _ 57 ([(0, .ref 0), (1, .int (nI a)), (2, .int 0)], [.int (hs a)], XH tx (nI Z) (nI P, nI C, nI R, nI L, hs, ss, cs, gs, vs) dr rd (nI D, sm, nI N, nI K, ce, de, ke, se) i0 i1 kp dd tr m)
  exact zq_iret (by decide +kernel) rfl rfl rfl
set_option maxHeartbeats 4000000 in
set_option maxRecDepth 100000 in
theorem x_person_1 {a : Nat} (ha : a < P) (hP : P ≤ 6) : zq_P l mX11_person 6 [.ref 0, .int (nI a), .int 1] (XH tx (nI Z) (nI P, nI C, nI R, nI L, hs, ss, cs, gs, vs) dr rd (nI D, sm, nI N, nI K, ce, de, ke, se) i0 i1 kp dd tr m) (some (.int (ce a))) (XH tx (nI Z) (nI P, nI C, nI R, nI L, hs, ss, cs, gs, vs) dr rd (nI D, sm, nI N, nI K, ce, de, ke, se) i0 i1 kp dd tr m) := by
  refine zq_start (by decide +kernel) rfl (Nat.le_of_ble_eq_true rfl) ?_
  show zq_G _ _ _ _ _ 0 ([(0, .ref 0), (1, .int (nI a)), (2, .int 1)], [], XH tx (nI Z) (nI P, nI C, nI R, nI L, hs, ss, cs, gs, vs) dr rd (nI D, sm, nI N, nI K, ce, de, ke, se) i0 i1 kp dd tr m)
  refine zq_b [zq_al 0, zq_get 11 2, zq_il 1] [zq_alchk 0, zq_getchk 11 2, zq_ilchk 1] 5 rfl (by decide +kernel) ?_
  show zq_G _ _ _ _ _ 5 ([(0, .ref 0), (1, .int (nI a)), (2, .int 1)], [.int (nI a), .ref 2], XH tx (nI Z) (nI P, nI C, nI R, nI L, hs, ss, cs, gs, vs) dr rd (nI D, sm, nI N, nI K, ce, de, ke, se) i0 i1 kp dd tr m)
  refine zq_callV (av := [.int (nI a)]) (rest := []) (by decide +kernel) k11_105 (x_hasPersonN (p := a) hP (by omega)) rfl rfl rfl rfl ?_
  show zq_G _ _ _ _ _ 8 ([(0, .ref 0), (1, .int (nI a)), (2, .int 1)], [.int (zb (a < P))], XH tx (nI Z) (nI P, nI C, nI R, nI L, hs, ss, cs, gs, vs) dr rd (nI D, sm, nI N, nI K, ce, de, ke, se) i0 i1 kp dd tr m)
  refine zq_ifz .eq 19 (¬ (a < P)) (by decide +kernel) (zb_eq _) (fun c8 => absurd c8 (by omega)) (fun c8 => ?_)
  show zq_G _ _ _ _ _ 11 ([(0, .ref 0), (1, .int (nI a)), (2, .int 1)], [], XH tx (nI Z) (nI P, nI C, nI R, nI L, hs, ss, cs, gs, vs) dr rd (nI D, sm, nI N, nI K, ce, de, ke, se) i0 i1 kp dd tr m)
  refine zq_b [zq_il 2, zq_k 2] [zq_ilchk 2, zq_kchk 2] 13 rfl (by decide +kernel) ?_
  show zq_G _ _ _ _ _ 13 ([(0, .ref 0), (1, .int (nI a)), (2, .int 1)], [.int 2, .int 1], XH tx (nI Z) (nI P, nI C, nI R, nI L, hs, ss, cs, gs, vs) dr rd (nI D, sm, nI N, nI K, ce, de, ke, se) i0 i1 kp dd tr m)
  refine zq_callS (av := [.int 1, .int 2]) (rest := []) (by decide +kernel) k11_87 (x_isBeyondN (p := 1) (q := 2) (by omega) (by omega)) rfl rfl ?_
  show zq_G _ _ _ _ _ 16 ([(0, .ref 0), (1, .int (nI a)), (2, .int 1)], [.int (zb (2 < 1))], XH tx (nI Z) (nI P, nI C, nI R, nI L, hs, ss, cs, gs, vs) dr rd (nI D, sm, nI N, nI K, ce, de, ke, se) i0 i1 kp dd tr m)
  refine zq_ifz .eq 21 (¬ (2 < 1)) (by decide +kernel) (zb_eq _) (fun c16 => ?_) (fun c16 => absurd (by omega) c16)
  show zq_G _ _ _ _ _ 21 ([(0, .ref 0), (1, .int (nI a)), (2, .int 1)], [], XH tx (nI Z) (nI P, nI C, nI R, nI L, hs, ss, cs, gs, vs) dr rd (nI D, sm, nI N, nI K, ce, de, ke, se) i0 i1 kp dd tr m)
  refine zq_b [zq_il 2] [zq_ilchk 2] 22 rfl (by decide +kernel) ?_
  show zq_G _ _ _ _ _ 22 ([(0, .ref 0), (1, .int (nI a)), (2, .int 1)], [.int 1], XH tx (nI Z) (nI P, nI C, nI R, nI L, hs, ss, cs, gs, vs) dr rd (nI D, sm, nI N, nI K, ce, de, ke, se) i0 i1 kp dd tr m)
  refine zq_swc [(0, 48), (1, 58)] 68 (by decide +kernel) ⟨fun c => absurd c (by decide), fun _ => ?_, trivial⟩ (fun c => absurd (by decide) c.2.1)
  show zq_G _ _ _ _ _ 58 ([(0, .ref 0), (1, .int (nI a)), (2, .int 1)], [], XH tx (nI Z) (nI P, nI C, nI R, nI L, hs, ss, cs, gs, vs) dr rd (nI D, sm, nI N, nI K, ce, de, ke, se) i0 i1 kp dd tr m)
  refine zq_b [zq_al 0, zq_get 11 5, zq_get 5 5, zq_il 1, zq_iald a (ce a)] [zq_alchk 0, zq_getchk 11 5, zq_getchk 5 5, zq_ilchk 1, zq_is .iaload 1] 67 rfl (by decide +kernel) ?_
  refine ⟨rfl, (by omega), (by omega), rfl, ?_⟩
  show zq_G _ _ _ _ _ 67 ([(0, .ref 0), (1, .int (nI a)), (2, .int 1)], [.int (ce a)], XH tx (nI Z) (nI P, nI C, nI R, nI L, hs, ss, cs, gs, vs) dr rd (nI D, sm, nI N, nI K, ce, de, ke, se) i0 i1 kp dd tr m)
  exact zq_iret (by decide +kernel) rfl rfl rfl
set_option maxHeartbeats 4000000 in
set_option maxRecDepth 100000 in
theorem x_person_2 {a : Nat} (ha : a < P) (hP : P ≤ 6) (hC : C ≤ 8) (hce : ∀ j, j < P → ce j = nI (cn j) ∧ cn j ≤ 26) : zq_P l mX11_person 6 [.ref 0, .int (nI a), .int 2] (XH tx (nI Z) (nI P, nI C, nI R, nI L, hs, ss, cs, gs, vs) dr rd (nI D, sm, nI N, nI K, ce, de, ke, se) i0 i1 kp dd tr m) (some (.int (zbit (zseen C cs D P hs sm cn) (nI a)))) (XH tx (nI Z) (nI P, nI C, nI R, nI L, hs, ss, cs, gs, vs) dr rd (nI D, sm, nI N, nI K, ce, de, ke, se) i0 i1 kp dd tr m) := by
  refine zq_start (by decide +kernel) rfl (Nat.le_of_ble_eq_true rfl) ?_
  show zq_G _ _ _ _ _ 0 ([(0, .ref 0), (1, .int (nI a)), (2, .int 2)], [], XH tx (nI Z) (nI P, nI C, nI R, nI L, hs, ss, cs, gs, vs) dr rd (nI D, sm, nI N, nI K, ce, de, ke, se) i0 i1 kp dd tr m)
  refine zq_b [zq_al 0, zq_get 11 2, zq_il 1] [zq_alchk 0, zq_getchk 11 2, zq_ilchk 1] 5 rfl (by decide +kernel) ?_
  show zq_G _ _ _ _ _ 5 ([(0, .ref 0), (1, .int (nI a)), (2, .int 2)], [.int (nI a), .ref 2], XH tx (nI Z) (nI P, nI C, nI R, nI L, hs, ss, cs, gs, vs) dr rd (nI D, sm, nI N, nI K, ce, de, ke, se) i0 i1 kp dd tr m)
  refine zq_callV (av := [.int (nI a)]) (rest := []) (by decide +kernel) k11_105 (x_hasPersonN (p := a) hP (by omega)) rfl rfl rfl rfl ?_
  show zq_G _ _ _ _ _ 8 ([(0, .ref 0), (1, .int (nI a)), (2, .int 2)], [.int (zb (a < P))], XH tx (nI Z) (nI P, nI C, nI R, nI L, hs, ss, cs, gs, vs) dr rd (nI D, sm, nI N, nI K, ce, de, ke, se) i0 i1 kp dd tr m)
  refine zq_ifz .eq 19 (¬ (a < P)) (by decide +kernel) (zb_eq _) (fun c8 => absurd c8 (by omega)) (fun c8 => ?_)
  show zq_G _ _ _ _ _ 11 ([(0, .ref 0), (1, .int (nI a)), (2, .int 2)], [], XH tx (nI Z) (nI P, nI C, nI R, nI L, hs, ss, cs, gs, vs) dr rd (nI D, sm, nI N, nI K, ce, de, ke, se) i0 i1 kp dd tr m)
  refine zq_b [zq_il 2, zq_k 2] [zq_ilchk 2, zq_kchk 2] 13 rfl (by decide +kernel) ?_
  show zq_G _ _ _ _ _ 13 ([(0, .ref 0), (1, .int (nI a)), (2, .int 2)], [.int 2, .int 2], XH tx (nI Z) (nI P, nI C, nI R, nI L, hs, ss, cs, gs, vs) dr rd (nI D, sm, nI N, nI K, ce, de, ke, se) i0 i1 kp dd tr m)
  refine zq_callS (av := [.int 2, .int 2]) (rest := []) (by decide +kernel) k11_87 (x_isBeyondN (p := 2) (q := 2) (by omega) (by omega)) rfl rfl ?_
  show zq_G _ _ _ _ _ 16 ([(0, .ref 0), (1, .int (nI a)), (2, .int 2)], [.int (zb (2 < 2))], XH tx (nI Z) (nI P, nI C, nI R, nI L, hs, ss, cs, gs, vs) dr rd (nI D, sm, nI N, nI K, ce, de, ke, se) i0 i1 kp dd tr m)
  refine zq_ifz .eq 21 (¬ (2 < 2)) (by decide +kernel) (zb_eq _) (fun c16 => ?_) (fun c16 => absurd (by omega) c16)
  show zq_G _ _ _ _ _ 21 ([(0, .ref 0), (1, .int (nI a)), (2, .int 2)], [], XH tx (nI Z) (nI P, nI C, nI R, nI L, hs, ss, cs, gs, vs) dr rd (nI D, sm, nI N, nI K, ce, de, ke, se) i0 i1 kp dd tr m)
  refine zq_b [zq_il 2] [zq_ilchk 2] 22 rfl (by decide +kernel) ?_
  show zq_G _ _ _ _ _ 22 ([(0, .ref 0), (1, .int (nI a)), (2, .int 2)], [.int 2], XH tx (nI Z) (nI P, nI C, nI R, nI L, hs, ss, cs, gs, vs) dr rd (nI D, sm, nI N, nI K, ce, de, ke, se) i0 i1 kp dd tr m)
  refine zq_swc [(0, 48), (1, 58)] 68 (by decide +kernel) ⟨fun c => absurd c (by decide), fun c => absurd c (by decide), trivial⟩ (fun _ => ?_)
  show zq_G _ _ _ _ _ 68 ([(0, .ref 0), (1, .int (nI a)), (2, .int 2)], [], XH tx (nI Z) (nI P, nI C, nI R, nI L, hs, ss, cs, gs, vs) dr rd (nI D, sm, nI N, nI K, ce, de, ke, se) i0 i1 kp dd tr m)
  refine zq_b [zq_al 0, zq_get 11 5] [zq_alchk 0, zq_getchk 11 5] 72 rfl (by decide +kernel) ?_
  show zq_G _ _ _ _ _ 72 ([(0, .ref 0), (1, .int (nI a)), (2, .int 2)], [.ref 15], XH tx (nI Z) (nI P, nI C, nI R, nI L, hs, ss, cs, gs, vs) dr rd (nI D, sm, nI N, nI K, ce, de, ke, se) i0 i1 kp dd tr m)
  refine zq_callV (av := []) (rest := []) (by decide +kernel) k11_115 (c_seen hP hC hce) rfl rfl rfl rfl ?_
  show zq_G _ _ _ _ _ 75 ([(0, .ref 0), (1, .int (nI a)), (2, .int 2)], [.int (zseen C cs D P hs sm cn)], XH tx (nI Z) (nI P, nI C, nI R, nI L, hs, ss, cs, gs, vs) dr rd (nI D, sm, nI N, nI K, ce, de, ke, se) i0 i1 kp dd tr m)
  refine zq_b [zq_il 1] [zq_ilchk 1] 76 rfl (by decide +kernel) ?_
  show zq_G _ _ _ _ _ 76 ([(0, .ref 0), (1, .int (nI a)), (2, .int 2)], [.int (nI a), .int (zseen C cs D P hs sm cn)], XH tx (nI Z) (nI P, nI C, nI R, nI L, hs, ss, cs, gs, vs) dr rd (nI D, sm, nI N, nI K, ce, de, ke, se) i0 i1 kp dd tr m)
  refine zq_callS (av := [.int (zseen C cs D P hs sm cn), .int (nI a)]) (rest := []) (by decide +kernel) k11_119 (c_bit (x := (zseen C cs D P hs sm cn)) (p := (nI a))) rfl rfl ?_
  show zq_G _ _ _ _ _ 79 ([(0, .ref 0), (1, .int (nI a)), (2, .int 2)], [.int (zbit (zseen C cs D P hs sm cn) (nI a))], XH tx (nI Z) (nI P, nI C, nI R, nI L, hs, ss, cs, gs, vs) dr rd (nI D, sm, nI N, nI K, ce, de, ke, se) i0 i1 kp dd tr m)
  exact zq_iret (by decide +kernel) rfl rfl rfl
set_option maxHeartbeats 4000000 in
set_option maxRecDepth 100000 in
theorem x_cell_bad {x : Int32} {y : Int32} (hb : ¬ (0 ≤ x.toInt ∧ x.toInt < 25 ∧ 0 ≤ y.toInt ∧ y.toInt ≤ 1)) : zq_P l mX11_cell 1 [.ref 0, .int x, .int y] (XH tx (nI Z) (nI P, nI C, nI R, nI L, hs, ss, cs, gs, vs) dr rd (nI D, sm, nI N, nI K, ce, de, ke, se) i0 i1 kp dd tr m) (some (.int (-1))) (XH tx (nI Z) (nI P, nI C, nI R, nI L, hs, ss, cs, gs, vs) dr rd (nI D, sm, nI N, nI K, ce, de, ke, se) i0 i1 kp dd tr m) := by
  refine zq_start (by decide +kernel) rfl (Nat.le_of_ble_eq_true rfl) ?_
  show zq_G _ _ _ _ _ 0 ([(0, .ref 0), (1, .int x), (2, .int y)], [], XH tx (nI Z) (nI P, nI C, nI R, nI L, hs, ss, cs, gs, vs) dr rd (nI D, sm, nI N, nI K, ce, de, ke, se) i0 i1 kp dd tr m)
  refine zq_b [zq_il 1, zq_k 24] [zq_ilchk 1, zq_kchk 24] 3 rfl (by decide +kernel) ?_
  show zq_G _ _ _ _ _ 3 ([(0, .ref 0), (1, .int x), (2, .int y)], [.int 24, .int x], XH tx (nI Z) (nI P, nI C, nI R, nI L, hs, ss, cs, gs, vs) dr rd (nI D, sm, nI N, nI K, ce, de, ke, se) i0 i1 kp dd tr m)
  refine zq_callS (av := [.int x, .int 24]) (rest := []) (by decide +kernel) k11_87 (x_isBeyond (x := x) (q := 24) (by omega)) rfl rfl ?_
  show zq_G _ _ _ _ _ 6 ([(0, .ref 0), (1, .int x), (2, .int y)], [.int (zb (x.toInt < 0 ∨ (24 : Int) < x.toInt))], XH tx (nI Z) (nI P, nI C, nI R, nI L, hs, ss, cs, gs, vs) dr rd (nI D, sm, nI N, nI K, ce, de, ke, se) i0 i1 kp dd tr m)
  refine zq_ifz .ne 17 (x.toInt < 0 ∨ (24 : Int) < x.toInt) (by decide +kernel) (zb_ne _) (fun c6 => ?_) (fun c6 => ?_)
  · show zq_G _ _ _ _ _ 17 ([(0, .ref 0), (1, .int x), (2, .int y)], [], XH tx (nI Z) (nI P, nI C, nI R, nI L, hs, ss, cs, gs, vs) dr rd (nI D, sm, nI N, nI K, ce, de, ke, se) i0 i1 kp dd tr m)
    refine zq_b [zq_k (-1)] [zq_kchk (-1)] 18 rfl (by decide +kernel) ?_
    show zq_G _ _ _ _ _ 18 ([(0, .ref 0), (1, .int x), (2, .int y)], [.int (-1)], XH tx (nI Z) (nI P, nI C, nI R, nI L, hs, ss, cs, gs, vs) dr rd (nI D, sm, nI N, nI K, ce, de, ke, se) i0 i1 kp dd tr m)
    exact zq_iret (by decide +kernel) rfl rfl rfl
  · show zq_G _ _ _ _ _ 9 ([(0, .ref 0), (1, .int x), (2, .int y)], [], XH tx (nI Z) (nI P, nI C, nI R, nI L, hs, ss, cs, gs, vs) dr rd (nI D, sm, nI N, nI K, ce, de, ke, se) i0 i1 kp dd tr m)
    refine zq_b [zq_il 2, zq_k 1] [zq_ilchk 2, zq_kchk 1] 11 rfl (by decide +kernel) ?_
    show zq_G _ _ _ _ _ 11 ([(0, .ref 0), (1, .int x), (2, .int y)], [.int 1, .int y], XH tx (nI Z) (nI P, nI C, nI R, nI L, hs, ss, cs, gs, vs) dr rd (nI D, sm, nI N, nI K, ce, de, ke, se) i0 i1 kp dd tr m)
    refine zq_callS (av := [.int y, .int 1]) (rest := []) (by decide +kernel) k11_87 (x_isBeyond (x := y) (q := 1) (by omega)) rfl rfl ?_
    show zq_G _ _ _ _ _ 14 ([(0, .ref 0), (1, .int x), (2, .int y)], [.int (zb (y.toInt < 0 ∨ (1 : Int) < y.toInt))], XH tx (nI Z) (nI P, nI C, nI R, nI L, hs, ss, cs, gs, vs) dr rd (nI D, sm, nI N, nI K, ce, de, ke, se) i0 i1 kp dd tr m)
    refine zq_ifz .eq 19 (¬ (y.toInt < 0 ∨ (1 : Int) < y.toInt)) (by decide +kernel) (zb_eq _) (fun c14 => ?_) (fun c14 => ?_)
    · show zq_G _ _ _ _ _ 19 ([(0, .ref 0), (1, .int x), (2, .int y)], [], XH tx (nI Z) (nI P, nI C, nI R, nI L, hs, ss, cs, gs, vs) dr rd (nI D, sm, nI N, nI K, ce, de, ke, se) i0 i1 kp dd tr m)
      exact absurd hb (by omega)
    · show zq_G _ _ _ _ _ 17 ([(0, .ref 0), (1, .int x), (2, .int y)], [], XH tx (nI Z) (nI P, nI C, nI R, nI L, hs, ss, cs, gs, vs) dr rd (nI D, sm, nI N, nI K, ce, de, ke, se) i0 i1 kp dd tr m)
      refine zq_b [zq_k (-1)] [zq_kchk (-1)] 18 rfl (by decide +kernel) ?_
      show zq_G _ _ _ _ _ 18 ([(0, .ref 0), (1, .int x), (2, .int y)], [.int (-1)], XH tx (nI Z) (nI P, nI C, nI R, nI L, hs, ss, cs, gs, vs) dr rd (nI D, sm, nI N, nI K, ce, de, ke, se) i0 i1 kp dd tr m)
      exact zq_iret (by decide +kernel) rfl rfl rfl
set_option maxHeartbeats 4000000 in
set_option maxRecDepth 100000 in
theorem x_cell_0 {a : Nat} (ha : a < 25) (hP : P ≤ 6) : zq_P l mX11_cell 1 [.ref 0, .int (nI a), .int 0] (XH tx (nI Z) (nI P, nI C, nI R, nI L, hs, ss, cs, gs, vs) dr rd (nI D, sm, nI N, nI K, ce, de, ke, se) i0 i1 kp dd tr m) (some (.int (orB (fun p => decide (ce p = nI a)) P))) (XH tx (nI Z) (nI P, nI C, nI R, nI L, hs, ss, cs, gs, vs) dr rd (nI D, sm, nI N, nI K, ce, de, ke, se) i0 i1 kp dd tr m) := by
  refine zq_start (by decide +kernel) rfl (Nat.le_of_ble_eq_true rfl) ?_
  show zq_G _ _ _ _ _ 0 ([(0, .ref 0), (1, .int (nI a)), (2, .int 0)], [], XH tx (nI Z) (nI P, nI C, nI R, nI L, hs, ss, cs, gs, vs) dr rd (nI D, sm, nI N, nI K, ce, de, ke, se) i0 i1 kp dd tr m)
  refine zq_b [zq_il 1, zq_k 24] [zq_ilchk 1, zq_kchk 24] 3 rfl (by decide +kernel) ?_
  show zq_G _ _ _ _ _ 3 ([(0, .ref 0), (1, .int (nI a)), (2, .int 0)], [.int 24, .int (nI a)], XH tx (nI Z) (nI P, nI C, nI R, nI L, hs, ss, cs, gs, vs) dr rd (nI D, sm, nI N, nI K, ce, de, ke, se) i0 i1 kp dd tr m)
  refine zq_callS (av := [.int (nI a), .int 24]) (rest := []) (by decide +kernel) k11_87 (x_isBeyondN (p := a) (q := 24) (by omega) (by omega)) rfl rfl ?_
  show zq_G _ _ _ _ _ 6 ([(0, .ref 0), (1, .int (nI a)), (2, .int 0)], [.int (zb (24 < a))], XH tx (nI Z) (nI P, nI C, nI R, nI L, hs, ss, cs, gs, vs) dr rd (nI D, sm, nI N, nI K, ce, de, ke, se) i0 i1 kp dd tr m)
  refine zq_ifz .ne 17 (24 < a) (by decide +kernel) (zb_ne _) (fun c6 => absurd c6 (by omega)) (fun c6 => ?_)
  show zq_G _ _ _ _ _ 9 ([(0, .ref 0), (1, .int (nI a)), (2, .int 0)], [], XH tx (nI Z) (nI P, nI C, nI R, nI L, hs, ss, cs, gs, vs) dr rd (nI D, sm, nI N, nI K, ce, de, ke, se) i0 i1 kp dd tr m)
  refine zq_b [zq_il 2, zq_k 1] [zq_ilchk 2, zq_kchk 1] 11 rfl (by decide +kernel) ?_
  show zq_G _ _ _ _ _ 11 ([(0, .ref 0), (1, .int (nI a)), (2, .int 0)], [.int 1, .int 0], XH tx (nI Z) (nI P, nI C, nI R, nI L, hs, ss, cs, gs, vs) dr rd (nI D, sm, nI N, nI K, ce, de, ke, se) i0 i1 kp dd tr m)
  refine zq_callS (av := [.int 0, .int 1]) (rest := []) (by decide +kernel) k11_87 (x_isBeyondN (p := 0) (q := 1) (by omega) (by omega)) rfl rfl ?_
  show zq_G _ _ _ _ _ 14 ([(0, .ref 0), (1, .int (nI a)), (2, .int 0)], [.int (zb (1 < 0))], XH tx (nI Z) (nI P, nI C, nI R, nI L, hs, ss, cs, gs, vs) dr rd (nI D, sm, nI N, nI K, ce, de, ke, se) i0 i1 kp dd tr m)
  refine zq_ifz .eq 19 (¬ (1 < 0)) (by decide +kernel) (zb_eq _) (fun c14 => ?_) (fun c14 => absurd (by omega) c14)
  show zq_G _ _ _ _ _ 19 ([(0, .ref 0), (1, .int (nI a)), (2, .int 0)], [], XH tx (nI Z) (nI P, nI C, nI R, nI L, hs, ss, cs, gs, vs) dr rd (nI D, sm, nI N, nI K, ce, de, ke, se) i0 i1 kp dd tr m)
  refine zq_b [zq_il 2] [zq_ilchk 2] 20 rfl (by decide +kernel) ?_
  show zq_G _ _ _ _ _ 20 ([(0, .ref 0), (1, .int (nI a)), (2, .int 0)], [.int 0], XH tx (nI Z) (nI P, nI C, nI R, nI L, hs, ss, cs, gs, vs) dr rd (nI D, sm, nI N, nI K, ce, de, ke, se) i0 i1 kp dd tr m)
  refine zq_ifz .ne 34 (¬ 0 = 0) (by decide +kernel) (zq_cne (a := 0) (b := 0) (by omega) (by omega)) (fun c20 => absurd c20 (fun q => q rfl)) (fun c20 => ?_)
  show zq_G _ _ _ _ _ 23 ([(0, .ref 0), (1, .int (nI a)), (2, .int 0)], [], XH tx (nI Z) (nI P, nI C, nI R, nI L, hs, ss, cs, gs, vs) dr rd (nI D, sm, nI N, nI K, ce, de, ke, se) i0 i1 kp dd tr m)
  refine zq_b [zq_al 0, zq_get 11 5, zq_il 1] [zq_alchk 0, zq_getchk 11 5, zq_ilchk 1] 28 rfl (by decide +kernel) ?_
  show zq_G _ _ _ _ _ 28 ([(0, .ref 0), (1, .int (nI a)), (2, .int 0)], [.int (nI a), .ref 15], XH tx (nI Z) (nI P, nI C, nI R, nI L, hs, ss, cs, gs, vs) dr rd (nI D, sm, nI N, nI K, ce, de, ke, se) i0 i1 kp dd tr m)
  refine zq_callV (av := [.int (nI a)]) (rest := []) (by decide +kernel) k11_123 (c_peopleIn (x := (nI a)) hP) rfl rfl rfl rfl ?_
  show zq_G _ _ _ _ _ 31 ([(0, .ref 0), (1, .int (nI a)), (2, .int 0)], [.int (orB (fun p => decide (ce p = (nI a))) P)], XH tx (nI Z) (nI P, nI C, nI R, nI L, hs, ss, cs, gs, vs) dr rd (nI D, sm, nI N, nI K, ce, de, ke, se) i0 i1 kp dd tr m)
  refine zq_b [zq_go] [zq_gochk] 45 rfl (by decide +kernel) ?_
  show zq_G _ _ _ _ _ 45 ([(0, .ref 0), (1, .int (nI a)), (2, .int 0)], [.int (orB (fun p => decide (ce p = (nI a))) P)], XH tx (nI Z) (nI P, nI C, nI R, nI L, hs, ss, cs, gs, vs) dr rd (nI D, sm, nI N, nI K, ce, de, ke, se) i0 i1 kp dd tr m)
  exact zq_iret (by decide +kernel) rfl rfl rfl
set_option maxHeartbeats 4000000 in
set_option maxRecDepth 100000 in
theorem x_cell_1 {a : Nat} (ha : a < 25) : zq_P l mX11_cell 1 [.ref 0, .int (nI a), .int 1] (XH tx (nI Z) (nI P, nI C, nI R, nI L, hs, ss, cs, gs, vs) dr rd (nI D, sm, nI N, nI K, ce, de, ke, se) i0 i1 kp dd tr m) (some (.int (zbit sm (nI a)))) (XH tx (nI Z) (nI P, nI C, nI R, nI L, hs, ss, cs, gs, vs) dr rd (nI D, sm, nI N, nI K, ce, de, ke, se) i0 i1 kp dd tr m) := by
  refine zq_start (by decide +kernel) rfl (Nat.le_of_ble_eq_true rfl) ?_
  show zq_G _ _ _ _ _ 0 ([(0, .ref 0), (1, .int (nI a)), (2, .int 1)], [], XH tx (nI Z) (nI P, nI C, nI R, nI L, hs, ss, cs, gs, vs) dr rd (nI D, sm, nI N, nI K, ce, de, ke, se) i0 i1 kp dd tr m)
  refine zq_b [zq_il 1, zq_k 24] [zq_ilchk 1, zq_kchk 24] 3 rfl (by decide +kernel) ?_
  show zq_G _ _ _ _ _ 3 ([(0, .ref 0), (1, .int (nI a)), (2, .int 1)], [.int 24, .int (nI a)], XH tx (nI Z) (nI P, nI C, nI R, nI L, hs, ss, cs, gs, vs) dr rd (nI D, sm, nI N, nI K, ce, de, ke, se) i0 i1 kp dd tr m)
  refine zq_callS (av := [.int (nI a), .int 24]) (rest := []) (by decide +kernel) k11_87 (x_isBeyondN (p := a) (q := 24) (by omega) (by omega)) rfl rfl ?_
  show zq_G _ _ _ _ _ 6 ([(0, .ref 0), (1, .int (nI a)), (2, .int 1)], [.int (zb (24 < a))], XH tx (nI Z) (nI P, nI C, nI R, nI L, hs, ss, cs, gs, vs) dr rd (nI D, sm, nI N, nI K, ce, de, ke, se) i0 i1 kp dd tr m)
  refine zq_ifz .ne 17 (24 < a) (by decide +kernel) (zb_ne _) (fun c6 => absurd c6 (by omega)) (fun c6 => ?_)
  show zq_G _ _ _ _ _ 9 ([(0, .ref 0), (1, .int (nI a)), (2, .int 1)], [], XH tx (nI Z) (nI P, nI C, nI R, nI L, hs, ss, cs, gs, vs) dr rd (nI D, sm, nI N, nI K, ce, de, ke, se) i0 i1 kp dd tr m)
  refine zq_b [zq_il 2, zq_k 1] [zq_ilchk 2, zq_kchk 1] 11 rfl (by decide +kernel) ?_
  show zq_G _ _ _ _ _ 11 ([(0, .ref 0), (1, .int (nI a)), (2, .int 1)], [.int 1, .int 1], XH tx (nI Z) (nI P, nI C, nI R, nI L, hs, ss, cs, gs, vs) dr rd (nI D, sm, nI N, nI K, ce, de, ke, se) i0 i1 kp dd tr m)
  refine zq_callS (av := [.int 1, .int 1]) (rest := []) (by decide +kernel) k11_87 (x_isBeyondN (p := 1) (q := 1) (by omega) (by omega)) rfl rfl ?_
  show zq_G _ _ _ _ _ 14 ([(0, .ref 0), (1, .int (nI a)), (2, .int 1)], [.int (zb (1 < 1))], XH tx (nI Z) (nI P, nI C, nI R, nI L, hs, ss, cs, gs, vs) dr rd (nI D, sm, nI N, nI K, ce, de, ke, se) i0 i1 kp dd tr m)
  refine zq_ifz .eq 19 (¬ (1 < 1)) (by decide +kernel) (zb_eq _) (fun c14 => ?_) (fun c14 => absurd (by omega) c14)
  show zq_G _ _ _ _ _ 19 ([(0, .ref 0), (1, .int (nI a)), (2, .int 1)], [], XH tx (nI Z) (nI P, nI C, nI R, nI L, hs, ss, cs, gs, vs) dr rd (nI D, sm, nI N, nI K, ce, de, ke, se) i0 i1 kp dd tr m)
  refine zq_b [zq_il 2] [zq_ilchk 2] 20 rfl (by decide +kernel) ?_
  show zq_G _ _ _ _ _ 20 ([(0, .ref 0), (1, .int (nI a)), (2, .int 1)], [.int 1], XH tx (nI Z) (nI P, nI C, nI R, nI L, hs, ss, cs, gs, vs) dr rd (nI D, sm, nI N, nI K, ce, de, ke, se) i0 i1 kp dd tr m)
  refine zq_ifz .ne 34 (¬ 1 = 0) (by decide +kernel) (zq_cne (a := 1) (b := 0) (by omega) (by omega)) (fun c20 => ?_) (fun c20 => absurd (by decide) c20)
  show zq_G _ _ _ _ _ 34 ([(0, .ref 0), (1, .int (nI a)), (2, .int 1)], [], XH tx (nI Z) (nI P, nI C, nI R, nI L, hs, ss, cs, gs, vs) dr rd (nI D, sm, nI N, nI K, ce, de, ke, se) i0 i1 kp dd tr m)
  refine zq_b [zq_al 0, zq_get 11 5, zq_get 5 2, zq_il 1] [zq_alchk 0, zq_getchk 11 5, zq_getchk 5 2, zq_ilchk 1] 42 rfl (by decide +kernel) ?_
  show zq_G _ _ _ _ _ 42 ([(0, .ref 0), (1, .int (nI a)), (2, .int 1)], [.int (nI a), .int sm], XH tx (nI Z) (nI P, nI C, nI R, nI L, hs, ss, cs, gs, vs) dr rd (nI D, sm, nI N, nI K, ce, de, ke, se) i0 i1 kp dd tr m)
  refine zq_callS (av := [.int sm, .int (nI a)]) (rest := []) (by decide +kernel) k11_119 (c_bit (x := sm) (p := (nI a))) rfl rfl ?_
  show zq_G _ _ _ _ _ 45 ([(0, .ref 0), (1, .int (nI a)), (2, .int 1)], [.int (zbit sm (nI a))], XH tx (nI Z) (nI P, nI C, nI R, nI L, hs, ss, cs, gs, vs) dr rd (nI D, sm, nI N, nI K, ce, de, ke, se) i0 i1 kp dd tr m)
  exact zq_iret (by decide +kernel) rfl rfl rfl
set_option maxHeartbeats 4000000 in
set_option maxRecDepth 100000 in
theorem x_now_bad {x : Int32} (hb : x.toInt < 0 ∨ 4 < x.toInt) : zq_P l mX11_now 0 [.ref 0, .int x] (XH tx (nI Z) (nI P, nI C, nI R, nI L, hs, ss, cs, gs, vs) dr rd (nI D, sm, nI N, nI K, ce, de, ke, se) i0 i1 kp dd tr m) (some (.int (-1))) (XH tx (nI Z) (nI P, nI C, nI R, nI L, hs, ss, cs, gs, vs) dr rd (nI D, sm, nI N, nI K, ce, de, ke, se) i0 i1 kp dd tr m) := by
  refine zq_start (by decide +kernel) rfl (Nat.le_of_ble_eq_true rfl) ?_
  show zq_G _ _ _ _ _ 0 ([(0, .ref 0), (1, .int x)], [], XH tx (nI Z) (nI P, nI C, nI R, nI L, hs, ss, cs, gs, vs) dr rd (nI D, sm, nI N, nI K, ce, de, ke, se) i0 i1 kp dd tr m)
  refine zq_b [zq_il 1] [zq_ilchk 1] 1 rfl (by decide +kernel) ?_
  show zq_G _ _ _ _ _ 1 ([(0, .ref 0), (1, .int x)], [.int x], XH tx (nI Z) (nI P, nI C, nI R, nI L, hs, ss, cs, gs, vs) dr rd (nI D, sm, nI N, nI K, ce, de, ke, se) i0 i1 kp dd tr m)
  refine zq_swc [(0, 36), (1, 44), (2, 52), (3, 75), (4, 83)] 91 (by decide +kernel) ⟨fun c => absurd c (by omega), fun c => absurd c (by omega), fun c => absurd c (by omega), fun c => absurd c (by omega), fun c => absurd c (by omega), trivial⟩ (fun _ => ?_)
  show zq_G _ _ _ _ _ 91 ([(0, .ref 0), (1, .int x)], [], XH tx (nI Z) (nI P, nI C, nI R, nI L, hs, ss, cs, gs, vs) dr rd (nI D, sm, nI N, nI K, ce, de, ke, se) i0 i1 kp dd tr m)
  refine zq_b [zq_k (-1)] [zq_kchk (-1)] 92 rfl (by decide +kernel) ?_
  show zq_G _ _ _ _ _ 92 ([(0, .ref 0), (1, .int x)], [.int (-1)], XH tx (nI Z) (nI P, nI C, nI R, nI L, hs, ss, cs, gs, vs) dr rd (nI D, sm, nI N, nI K, ce, de, ke, se) i0 i1 kp dd tr m)
  exact zq_iret (by decide +kernel) rfl rfl rfl
set_option maxHeartbeats 4000000 in
set_option maxRecDepth 100000 in
theorem x_now_0   : zq_P l mX11_now 0 [.ref 0, .int 0] (XH tx (nI Z) (nI P, nI C, nI R, nI L, hs, ss, cs, gs, vs) dr rd (nI D, sm, nI N, nI K, ce, de, ke, se) i0 i1 kp dd tr m) (some (.int (nI D))) (XH tx (nI Z) (nI P, nI C, nI R, nI L, hs, ss, cs, gs, vs) dr rd (nI D, sm, nI N, nI K, ce, de, ke, se) i0 i1 kp dd tr m) := by
  refine zq_start (by decide +kernel) rfl (Nat.le_of_ble_eq_true rfl) ?_
  show zq_G _ _ _ _ _ 0 ([(0, .ref 0), (1, .int 0)], [], XH tx (nI Z) (nI P, nI C, nI R, nI L, hs, ss, cs, gs, vs) dr rd (nI D, sm, nI N, nI K, ce, de, ke, se) i0 i1 kp dd tr m)
  refine zq_b [zq_il 1] [zq_ilchk 1] 1 rfl (by decide +kernel) ?_
  show zq_G _ _ _ _ _ 1 ([(0, .ref 0), (1, .int 0)], [.int 0], XH tx (nI Z) (nI P, nI C, nI R, nI L, hs, ss, cs, gs, vs) dr rd (nI D, sm, nI N, nI K, ce, de, ke, se) i0 i1 kp dd tr m)
  refine zq_swc [(0, 36), (1, 44), (2, 52), (3, 75), (4, 83)] 91 (by decide +kernel) ⟨fun _ => ?_, fun c => absurd c (by decide), fun c => absurd c (by decide), fun c => absurd c (by decide), fun c => absurd c (by decide), trivial⟩ (fun c => absurd (by decide) c.1)
  show zq_G _ _ _ _ _ 36 ([(0, .ref 0), (1, .int 0)], [], XH tx (nI Z) (nI P, nI C, nI R, nI L, hs, ss, cs, gs, vs) dr rd (nI D, sm, nI N, nI K, ce, de, ke, se) i0 i1 kp dd tr m)
  refine zq_b [zq_al 0, zq_get 11 5, zq_get 5 1] [zq_alchk 0, zq_getchk 11 5, zq_getchk 5 1] 43 rfl (by decide +kernel) ?_
  show zq_G _ _ _ _ _ 43 ([(0, .ref 0), (1, .int 0)], [.int (nI D)], XH tx (nI Z) (nI P, nI C, nI R, nI L, hs, ss, cs, gs, vs) dr rd (nI D, sm, nI N, nI K, ce, de, ke, se) i0 i1 kp dd tr m)
  exact zq_iret (by decide +kernel) rfl rfl rfl
set_option maxHeartbeats 4000000 in
set_option maxRecDepth 100000 in
theorem x_now_1  (hP : P ≤ 6) (hC : C ≤ 8) (hce : ∀ j, j < P → ce j = nI (cn j) ∧ cn j ≤ 26) : zq_P l mX11_now 6 [.ref 0, .int 1] (XH tx (nI Z) (nI P, nI C, nI R, nI L, hs, ss, cs, gs, vs) dr rd (nI D, sm, nI N, nI K, ce, de, ke, se) i0 i1 kp dd tr m) (some (.int (zseen C cs D P hs sm cn))) (XH tx (nI Z) (nI P, nI C, nI R, nI L, hs, ss, cs, gs, vs) dr rd (nI D, sm, nI N, nI K, ce, de, ke, se) i0 i1 kp dd tr m) := by
  refine zq_start (by decide +kernel) rfl (Nat.le_of_ble_eq_true rfl) ?_
  show zq_G _ _ _ _ _ 0 ([(0, .ref 0), (1, .int 1)], [], XH tx (nI Z) (nI P, nI C, nI R, nI L, hs, ss, cs, gs, vs) dr rd (nI D, sm, nI N, nI K, ce, de, ke, se) i0 i1 kp dd tr m)
  refine zq_b [zq_il 1] [zq_ilchk 1] 1 rfl (by decide +kernel) ?_
  show zq_G _ _ _ _ _ 1 ([(0, .ref 0), (1, .int 1)], [.int 1], XH tx (nI Z) (nI P, nI C, nI R, nI L, hs, ss, cs, gs, vs) dr rd (nI D, sm, nI N, nI K, ce, de, ke, se) i0 i1 kp dd tr m)
  refine zq_swc [(0, 36), (1, 44), (2, 52), (3, 75), (4, 83)] 91 (by decide +kernel) ⟨fun c => absurd c (by decide), fun _ => ?_, fun c => absurd c (by decide), fun c => absurd c (by decide), fun c => absurd c (by decide), trivial⟩ (fun c => absurd (by decide) c.2.1)
  show zq_G _ _ _ _ _ 44 ([(0, .ref 0), (1, .int 1)], [], XH tx (nI Z) (nI P, nI C, nI R, nI L, hs, ss, cs, gs, vs) dr rd (nI D, sm, nI N, nI K, ce, de, ke, se) i0 i1 kp dd tr m)
  refine zq_b [zq_al 0, zq_get 11 5] [zq_alchk 0, zq_getchk 11 5] 48 rfl (by decide +kernel) ?_
  show zq_G _ _ _ _ _ 48 ([(0, .ref 0), (1, .int 1)], [.ref 15], XH tx (nI Z) (nI P, nI C, nI R, nI L, hs, ss, cs, gs, vs) dr rd (nI D, sm, nI N, nI K, ce, de, ke, se) i0 i1 kp dd tr m)
  refine zq_callV (av := []) (rest := []) (by decide +kernel) k11_115 (c_seen hP hC hce) rfl rfl rfl rfl ?_
  show zq_G _ _ _ _ _ 51 ([(0, .ref 0), (1, .int 1)], [.int (zseen C cs D P hs sm cn)], XH tx (nI Z) (nI P, nI C, nI R, nI L, hs, ss, cs, gs, vs) dr rd (nI D, sm, nI N, nI K, ce, de, ke, se) i0 i1 kp dd tr m)
  exact zq_iret (by decide +kernel) rfl rfl rfl
set_option maxHeartbeats 4000000 in
set_option maxRecDepth 100000 in
theorem x_now_2  (hC : C ≤ 8) : zq_P l mX11_now 6 [.ref 0, .int 2] (XH tx (nI Z) (nI P, nI C, nI R, nI L, hs, ss, cs, gs, vs) dr rd (nI D, sm, nI N, nI K, ce, de, ke, se) i0 i1 kp dd tr m) (some (.int (zb (zany (fun i => decide (cs i = nI D)) C = true)))) (XH tx (nI Z) (nI P, nI C, nI R, nI L, hs, ss, cs, gs, vs) dr rd (nI D, sm, nI N, nI K, ce, de, ke, se) i0 i1 kp dd tr m) := by
  refine zq_start (by decide +kernel) rfl (Nat.le_of_ble_eq_true rfl) ?_
  show zq_G _ _ _ _ _ 0 ([(0, .ref 0), (1, .int 2)], [], XH tx (nI Z) (nI P, nI C, nI R, nI L, hs, ss, cs, gs, vs) dr rd (nI D, sm, nI N, nI K, ce, de, ke, se) i0 i1 kp dd tr m)
  refine zq_b [zq_il 1] [zq_ilchk 1] 1 rfl (by decide +kernel) ?_
  show zq_G _ _ _ _ _ 1 ([(0, .ref 0), (1, .int 2)], [.int 2], XH tx (nI Z) (nI P, nI C, nI R, nI L, hs, ss, cs, gs, vs) dr rd (nI D, sm, nI N, nI K, ce, de, ke, se) i0 i1 kp dd tr m)
  refine zq_swc [(0, 36), (1, 44), (2, 52), (3, 75), (4, 83)] 91 (by decide +kernel) ⟨fun c => absurd c (by decide), fun c => absurd c (by decide), fun _ => ?_, fun c => absurd c (by decide), fun c => absurd c (by decide), trivial⟩ (fun c => absurd (by decide) c.2.2.1)
  show zq_G _ _ _ _ _ 52 ([(0, .ref 0), (1, .int 2)], [], XH tx (nI Z) (nI P, nI C, nI R, nI L, hs, ss, cs, gs, vs) dr rd (nI D, sm, nI N, nI K, ce, de, ke, se) i0 i1 kp dd tr m)
  refine zq_b [zq_al 0, zq_get 11 2, zq_al 0, zq_get 11 5, zq_get 5 1] [zq_alchk 0, zq_getchk 11 2, zq_alchk 0, zq_getchk 11 5, zq_getchk 5 1] 63 rfl (by decide +kernel) ?_
  show zq_G _ _ _ _ _ 63 ([(0, .ref 0), (1, .int 2)], [.int (nI D), .ref 2], XH tx (nI Z) (nI P, nI C, nI R, nI L, hs, ss, cs, gs, vs) dr rd (nI D, sm, nI N, nI K, ce, de, ke, se) i0 i1 kp dd tr m)
  refine zq_callV (av := [.int (nI D)]) (rest := []) (by decide +kernel) k11_132 (c_hasCloud (day := (nI D)) hC) rfl rfl rfl rfl ?_
  show zq_G _ _ _ _ _ 66 ([(0, .ref 0), (1, .int 2)], [.int (zb (zany (fun i => decide (cs i = (nI D))) C = true))], XH tx (nI Z) (nI P, nI C, nI R, nI L, hs, ss, cs, gs, vs) dr rd (nI D, sm, nI N, nI K, ce, de, ke, se) i0 i1 kp dd tr m)
  refine zq_ifz .eq 73 (¬ (zany (fun i => decide (cs i = (nI D))) C = true)) (by decide +kernel) (zb_eq _) (fun c66 => ?_) (fun c66 => ?_)
  · show zq_G _ _ _ _ _ 73 ([(0, .ref 0), (1, .int 2)], [], XH tx (nI Z) (nI P, nI C, nI R, nI L, hs, ss, cs, gs, vs) dr rd (nI D, sm, nI N, nI K, ce, de, ke, se) i0 i1 kp dd tr m)
    refine zq_b [zq_k 0] [zq_kchk 0] 74 rfl (by decide +kernel) ?_
    show zq_G _ _ _ _ _ 74 ([(0, .ref 0), (1, .int 2)], [.int 0], XH tx (nI Z) (nI P, nI C, nI R, nI L, hs, ss, cs, gs, vs) dr rd (nI D, sm, nI N, nI K, ce, de, ke, se) i0 i1 kp dd tr m)
    exact zq_iret (by decide +kernel) rfl (zb_r (zb_f c66)) rfl
  · show zq_G _ _ _ _ _ 69 ([(0, .ref 0), (1, .int 2)], [], XH tx (nI Z) (nI P, nI C, nI R, nI L, hs, ss, cs, gs, vs) dr rd (nI D, sm, nI N, nI K, ce, de, ke, se) i0 i1 kp dd tr m)
    refine zq_b [zq_k 1, zq_go] [zq_kchk 1, zq_gochk] 74 rfl (by decide +kernel) ?_
    show zq_G _ _ _ _ _ 74 ([(0, .ref 0), (1, .int 2)], [.int 1], XH tx (nI Z) (nI P, nI C, nI R, nI L, hs, ss, cs, gs, vs) dr rd (nI D, sm, nI N, nI K, ce, de, ke, se) i0 i1 kp dd tr m)
    exact zq_iret (by decide +kernel) rfl (zb_r (zb_t (Decidable.not_not.mp c66))) rfl
set_option maxHeartbeats 4000000 in
set_option maxRecDepth 100000 in
theorem x_now_3   : zq_P l mX11_now 0 [.ref 0, .int 3] (XH tx (nI Z) (nI P, nI C, nI R, nI L, hs, ss, cs, gs, vs) dr rd (nI D, sm, nI N, nI K, ce, de, ke, se) i0 i1 kp dd tr m) (some (.int sm)) (XH tx (nI Z) (nI P, nI C, nI R, nI L, hs, ss, cs, gs, vs) dr rd (nI D, sm, nI N, nI K, ce, de, ke, se) i0 i1 kp dd tr m) := by
  refine zq_start (by decide +kernel) rfl (Nat.le_of_ble_eq_true rfl) ?_
  show zq_G _ _ _ _ _ 0 ([(0, .ref 0), (1, .int 3)], [], XH tx (nI Z) (nI P, nI C, nI R, nI L, hs, ss, cs, gs, vs) dr rd (nI D, sm, nI N, nI K, ce, de, ke, se) i0 i1 kp dd tr m)
  refine zq_b [zq_il 1] [zq_ilchk 1] 1 rfl (by decide +kernel) ?_
  show zq_G _ _ _ _ _ 1 ([(0, .ref 0), (1, .int 3)], [.int 3], XH tx (nI Z) (nI P, nI C, nI R, nI L, hs, ss, cs, gs, vs) dr rd (nI D, sm, nI N, nI K, ce, de, ke, se) i0 i1 kp dd tr m)
  refine zq_swc [(0, 36), (1, 44), (2, 52), (3, 75), (4, 83)] 91 (by decide +kernel) ⟨fun c => absurd c (by decide), fun c => absurd c (by decide), fun c => absurd c (by decide), fun _ => ?_, fun c => absurd c (by decide), trivial⟩ (fun c => absurd (by decide) c.2.2.2.1)
  show zq_G _ _ _ _ _ 75 ([(0, .ref 0), (1, .int 3)], [], XH tx (nI Z) (nI P, nI C, nI R, nI L, hs, ss, cs, gs, vs) dr rd (nI D, sm, nI N, nI K, ce, de, ke, se) i0 i1 kp dd tr m)
  refine zq_b [zq_al 0, zq_get 11 5, zq_get 5 2] [zq_alchk 0, zq_getchk 11 5, zq_getchk 5 2] 82 rfl (by decide +kernel) ?_
  show zq_G _ _ _ _ _ 82 ([(0, .ref 0), (1, .int 3)], [.int sm], XH tx (nI Z) (nI P, nI C, nI R, nI L, hs, ss, cs, gs, vs) dr rd (nI D, sm, nI N, nI K, ce, de, ke, se) i0 i1 kp dd tr m)
  exact zq_iret (by decide +kernel) rfl rfl rfl
set_option maxHeartbeats 4000000 in
set_option maxRecDepth 100000 in
theorem x_now_4   : zq_P l mX11_now 0 [.ref 0, .int 4] (XH tx (nI Z) (nI P, nI C, nI R, nI L, hs, ss, cs, gs, vs) dr rd (nI D, sm, nI N, nI K, ce, de, ke, se) i0 i1 kp dd tr m) (some (.int (nI L))) (XH tx (nI Z) (nI P, nI C, nI R, nI L, hs, ss, cs, gs, vs) dr rd (nI D, sm, nI N, nI K, ce, de, ke, se) i0 i1 kp dd tr m) := by
  refine zq_start (by decide +kernel) rfl (Nat.le_of_ble_eq_true rfl) ?_
  show zq_G _ _ _ _ _ 0 ([(0, .ref 0), (1, .int 4)], [], XH tx (nI Z) (nI P, nI C, nI R, nI L, hs, ss, cs, gs, vs) dr rd (nI D, sm, nI N, nI K, ce, de, ke, se) i0 i1 kp dd tr m)
  refine zq_b [zq_il 1] [zq_ilchk 1] 1 rfl (by decide +kernel) ?_
  show zq_G _ _ _ _ _ 1 ([(0, .ref 0), (1, .int 4)], [.int 4], XH tx (nI Z) (nI P, nI C, nI R, nI L, hs, ss, cs, gs, vs) dr rd (nI D, sm, nI N, nI K, ce, de, ke, se) i0 i1 kp dd tr m)
  refine zq_swc [(0, 36), (1, 44), (2, 52), (3, 75), (4, 83)] 91 (by decide +kernel) ⟨fun c => absurd c (by decide), fun c => absurd c (by decide), fun c => absurd c (by decide), fun c => absurd c (by decide), fun _ => ?_, trivial⟩ (fun c => absurd (by decide) c.2.2.2.2.1)
  show zq_G _ _ _ _ _ 83 ([(0, .ref 0), (1, .int 4)], [], XH tx (nI Z) (nI P, nI C, nI R, nI L, hs, ss, cs, gs, vs) dr rd (nI D, sm, nI N, nI K, ce, de, ke, se) i0 i1 kp dd tr m)
  refine zq_b [zq_al 0, zq_get 11 2, zq_get 9 3] [zq_alchk 0, zq_getchk 11 2, zq_getchk 9 3] 90 rfl (by decide +kernel) ?_
  show zq_G _ _ _ _ _ 90 ([(0, .ref 0), (1, .int 4)], [.int (nI L)], XH tx (nI Z) (nI P, nI C, nI R, nI L, hs, ss, cs, gs, vs) dr rd (nI D, sm, nI N, nI K, ce, de, ke, se) i0 i1 kp dd tr m)
  exact zq_iret (by decide +kernel) rfl rfl rfl
set_option maxHeartbeats 4000000 in
set_option maxRecDepth 100000 in
theorem x_walk_bad {x : Int32} {y : Int32} (hP : P ≤ 6) (hb : ¬ (0 ≤ x.toInt ∧ x.toInt < (P : Int) ∧ 0 ≤ y.toInt ∧ y.toInt ≤ 25)) : zq_P l mX11_walk 1 [.ref 0, .int x, .int y] (XH tx (nI Z) (nI P, nI C, nI R, nI L, hs, ss, cs, gs, vs) dr rd (nI D, sm, nI N, nI K, ce, de, ke, se) i0 i1 kp dd tr m) (some (.int (-1))) (XH tx (nI Z) (nI P, nI C, nI R, nI L, hs, ss, cs, gs, vs) dr rd (nI D, sm, nI N, nI K, ce, de, ke, se) i0 i1 kp dd tr m) := by
  refine zq_start (by decide +kernel) rfl (Nat.le_of_ble_eq_true rfl) ?_
  show zq_G _ _ _ _ _ 0 ([(0, .ref 0), (1, .int x), (2, .int y)], [], XH tx (nI Z) (nI P, nI C, nI R, nI L, hs, ss, cs, gs, vs) dr rd (nI D, sm, nI N, nI K, ce, de, ke, se) i0 i1 kp dd tr m)
  refine zq_b [zq_al 0, zq_get 11 2, zq_il 1] [zq_alchk 0, zq_getchk 11 2, zq_ilchk 1] 5 rfl (by decide +kernel) ?_
  show zq_G _ _ _ _ _ 5 ([(0, .ref 0), (1, .int x), (2, .int y)], [.int x, .ref 2], XH tx (nI Z) (nI P, nI C, nI R, nI L, hs, ss, cs, gs, vs) dr rd (nI D, sm, nI N, nI K, ce, de, ke, se) i0 i1 kp dd tr m)
  refine zq_callV (av := [.int x]) (rest := []) (by decide +kernel) k11_105 (x_hasPerson (p := x) hP) rfl rfl rfl rfl ?_
  show zq_G _ _ _ _ _ 8 ([(0, .ref 0), (1, .int x), (2, .int y)], [.int (zb (0 ≤ x.toInt ∧ x.toInt < (P : Int)))], XH tx (nI Z) (nI P, nI C, nI R, nI L, hs, ss, cs, gs, vs) dr rd (nI D, sm, nI N, nI K, ce, de, ke, se) i0 i1 kp dd tr m)
  refine zq_ifz .eq 20 (¬ (0 ≤ x.toInt ∧ x.toInt < (P : Int))) (by decide +kernel) (zb_eq _) (fun c8 => ?_) (fun c8 => ?_)
  · show zq_G _ _ _ _ _ 20 ([(0, .ref 0), (1, .int x), (2, .int y)], [], XH tx (nI Z) (nI P, nI C, nI R, nI L, hs, ss, cs, gs, vs) dr rd (nI D, sm, nI N, nI K, ce, de, ke, se) i0 i1 kp dd tr m)
    refine zq_b [zq_k (-1)] [zq_kchk (-1)] 21 rfl (by decide +kernel) ?_
    show zq_G _ _ _ _ _ 21 ([(0, .ref 0), (1, .int x), (2, .int y)], [.int (-1)], XH tx (nI Z) (nI P, nI C, nI R, nI L, hs, ss, cs, gs, vs) dr rd (nI D, sm, nI N, nI K, ce, de, ke, se) i0 i1 kp dd tr m)
    exact zq_iret (by decide +kernel) rfl rfl rfl
  · show zq_G _ _ _ _ _ 11 ([(0, .ref 0), (1, .int x), (2, .int y)], [], XH tx (nI Z) (nI P, nI C, nI R, nI L, hs, ss, cs, gs, vs) dr rd (nI D, sm, nI N, nI K, ce, de, ke, se) i0 i1 kp dd tr m)
    refine zq_b [zq_il 2, zq_k 25] [zq_ilchk 2, zq_kchk 25] 14 rfl (by decide +kernel) ?_
    show zq_G _ _ _ _ _ 14 ([(0, .ref 0), (1, .int x), (2, .int y)], [.int 25, .int y], XH tx (nI Z) (nI P, nI C, nI R, nI L, hs, ss, cs, gs, vs) dr rd (nI D, sm, nI N, nI K, ce, de, ke, se) i0 i1 kp dd tr m)
    refine zq_callS (av := [.int y, .int 25]) (rest := []) (by decide +kernel) k11_87 (x_isBeyond (x := y) (q := 25) (by omega)) rfl rfl ?_
    show zq_G _ _ _ _ _ 17 ([(0, .ref 0), (1, .int x), (2, .int y)], [.int (zb (y.toInt < 0 ∨ (25 : Int) < y.toInt))], XH tx (nI Z) (nI P, nI C, nI R, nI L, hs, ss, cs, gs, vs) dr rd (nI D, sm, nI N, nI K, ce, de, ke, se) i0 i1 kp dd tr m)
    refine zq_ifz .eq 22 (¬ (y.toInt < 0 ∨ (25 : Int) < y.toInt)) (by decide +kernel) (zb_eq _) (fun c17 => ?_) (fun c17 => ?_)
    · show zq_G _ _ _ _ _ 22 ([(0, .ref 0), (1, .int x), (2, .int y)], [], XH tx (nI Z) (nI P, nI C, nI R, nI L, hs, ss, cs, gs, vs) dr rd (nI D, sm, nI N, nI K, ce, de, ke, se) i0 i1 kp dd tr m)
      exact absurd hb (by omega)
    · show zq_G _ _ _ _ _ 20 ([(0, .ref 0), (1, .int x), (2, .int y)], [], XH tx (nI Z) (nI P, nI C, nI R, nI L, hs, ss, cs, gs, vs) dr rd (nI D, sm, nI N, nI K, ce, de, ke, se) i0 i1 kp dd tr m)
      refine zq_b [zq_k (-1)] [zq_kchk (-1)] 21 rfl (by decide +kernel) ?_
      show zq_G _ _ _ _ _ 21 ([(0, .ref 0), (1, .int x), (2, .int y)], [.int (-1)], XH tx (nI Z) (nI P, nI C, nI R, nI L, hs, ss, cs, gs, vs) dr rd (nI D, sm, nI N, nI K, ce, de, ke, se) i0 i1 kp dd tr m)
      exact zq_iret (by decide +kernel) rfl rfl rfl
set_option maxHeartbeats 4000000 in
set_option maxRecDepth 100000 in
theorem x_walk_st {a : Nat} {c : Nat} (ha : a < P) (hcc : c ≤ 25) (hP : P ≤ 6) (hce : ∀ j, j < P → ce j = nI (cn j) ∧ cn j ≤ 26) (hb : cn a = c ∨ cn a = 26) : zq_P l mX11_walk 1 [.ref 0, .int (nI a), .int (nI c)] (XH tx (nI Z) (nI P, nI C, nI R, nI L, hs, ss, cs, gs, vs) dr rd (nI D, sm, nI N, nI K, ce, de, ke, se) i0 i1 kp dd tr m) (some (.int (-2))) (XH tx (nI Z) (nI P, nI C, nI R, nI L, hs, ss, cs, gs, vs) dr rd (nI D, sm, nI N, nI K, ce, de, ke, se) i0 i1 kp dd tr m) := by
  refine zq_start (by decide +kernel) rfl (Nat.le_of_ble_eq_true rfl) ?_
  show zq_G _ _ _ _ _ 0 ([(0, .ref 0), (1, .int (nI a)), (2, .int (nI c))], [], XH tx (nI Z) (nI P, nI C, nI R, nI L, hs, ss, cs, gs, vs) dr rd (nI D, sm, nI N, nI K, ce, de, ke, se) i0 i1 kp dd tr m)
  have hca := (hce a ha).2
  refine zq_b [zq_al 0, zq_get 11 2, zq_il 1] [zq_alchk 0, zq_getchk 11 2, zq_ilchk 1] 5 rfl (by decide +kernel) ?_
  show zq_G _ _ _ _ _ 5 ([(0, .ref 0), (1, .int (nI a)), (2, .int (nI c))], [.int (nI a), .ref 2], XH tx (nI Z) (nI P, nI C, nI R, nI L, hs, ss, cs, gs, vs) dr rd (nI D, sm, nI N, nI K, ce, de, ke, se) i0 i1 kp dd tr m)
  refine zq_callV (av := [.int (nI a)]) (rest := []) (by decide +kernel) k11_105 (x_hasPersonN (p := a) hP (by omega)) rfl rfl rfl rfl ?_
  show zq_G _ _ _ _ _ 8 ([(0, .ref 0), (1, .int (nI a)), (2, .int (nI c))], [.int (zb (a < P))], XH tx (nI Z) (nI P, nI C, nI R, nI L, hs, ss, cs, gs, vs) dr rd (nI D, sm, nI N, nI K, ce, de, ke, se) i0 i1 kp dd tr m)
  refine zq_ifz .eq 20 (¬ (a < P)) (by decide +kernel) (zb_eq _) (fun c8 => absurd c8 (by omega)) (fun c8 => ?_)
  show zq_G _ _ _ _ _ 11 ([(0, .ref 0), (1, .int (nI a)), (2, .int (nI c))], [], XH tx (nI Z) (nI P, nI C, nI R, nI L, hs, ss, cs, gs, vs) dr rd (nI D, sm, nI N, nI K, ce, de, ke, se) i0 i1 kp dd tr m)
  refine zq_b [zq_il 2, zq_k 25] [zq_ilchk 2, zq_kchk 25] 14 rfl (by decide +kernel) ?_
  show zq_G _ _ _ _ _ 14 ([(0, .ref 0), (1, .int (nI a)), (2, .int (nI c))], [.int 25, .int (nI c)], XH tx (nI Z) (nI P, nI C, nI R, nI L, hs, ss, cs, gs, vs) dr rd (nI D, sm, nI N, nI K, ce, de, ke, se) i0 i1 kp dd tr m)
  refine zq_callS (av := [.int (nI c), .int 25]) (rest := []) (by decide +kernel) k11_87 (x_isBeyondN (p := c) (q := 25) (by omega) (by omega)) rfl rfl ?_
  show zq_G _ _ _ _ _ 17 ([(0, .ref 0), (1, .int (nI a)), (2, .int (nI c))], [.int (zb (25 < c))], XH tx (nI Z) (nI P, nI C, nI R, nI L, hs, ss, cs, gs, vs) dr rd (nI D, sm, nI N, nI K, ce, de, ke, se) i0 i1 kp dd tr m)
  refine zq_ifz .eq 22 (¬ (25 < c)) (by decide +kernel) (zb_eq _) (fun c17 => ?_) (fun c17 => absurd (by omega) c17)
  show zq_G _ _ _ _ _ 22 ([(0, .ref 0), (1, .int (nI a)), (2, .int (nI c))], [], XH tx (nI Z) (nI P, nI C, nI R, nI L, hs, ss, cs, gs, vs) dr rd (nI D, sm, nI N, nI K, ce, de, ke, se) i0 i1 kp dd tr m)
  refine zq_b [zq_al 0, zq_get 11 5, zq_get 5 5, zq_il 1, zq_iald a (nI (cn a)), zq_il 2] [zq_alchk 0, zq_getchk 11 5, zq_getchk 5 5, zq_ilchk 1, zq_is .iaload 1, zq_ilchk 2] 32 rfl (by decide +kernel) ?_
  refine ⟨rfl, (by omega), (by omega), (hce a ha).1, ?_⟩
  show zq_G _ _ _ _ _ 32 ([(0, .ref 0), (1, .int (nI a)), (2, .int (nI c))], [.int (nI c), .int (nI (cn a))], XH tx (nI Z) (nI P, nI C, nI R, nI L, hs, ss, cs, gs, vs) dr rd (nI D, sm, nI N, nI K, ce, de, ke, se) i0 i1 kp dd tr m)
  refine zq_if .eq 49 ((cn a) = c) (by decide +kernel) (zq_ceq (a := cn a) (b := c) (by omega) (by omega)) (fun c32 => ?_) (fun c32 => ?_)
  · show zq_G _ _ _ _ _ 49 ([(0, .ref 0), (1, .int (nI a)), (2, .int (nI c))], [], XH tx (nI Z) (nI P, nI C, nI R, nI L, hs, ss, cs, gs, vs) dr rd (nI D, sm, nI N, nI K, ce, de, ke, se) i0 i1 kp dd tr m)
    refine zq_b [zq_k (-2)] [zq_kchk (-2)] 51 rfl (by decide +kernel) ?_
    show zq_G _ _ _ _ _ 51 ([(0, .ref 0), (1, .int (nI a)), (2, .int (nI c))], [.int (-2)], XH tx (nI Z) (nI P, nI C, nI R, nI L, hs, ss, cs, gs, vs) dr rd (nI D, sm, nI N, nI K, ce, de, ke, se) i0 i1 kp dd tr m)
    exact zq_iret (by decide +kernel) rfl rfl rfl
  · show zq_G _ _ _ _ _ 35 ([(0, .ref 0), (1, .int (nI a)), (2, .int (nI c))], [], XH tx (nI Z) (nI P, nI C, nI R, nI L, hs, ss, cs, gs, vs) dr rd (nI D, sm, nI N, nI K, ce, de, ke, se) i0 i1 kp dd tr m)
    refine zq_b [zq_al 0, zq_get 11 5, zq_get 5 5, zq_il 1, zq_iald a (nI (cn a)), zq_k 26] [zq_alchk 0, zq_getchk 11 5, zq_getchk 5 5, zq_ilchk 1, zq_is .iaload 1, zq_kchk 26] 46 rfl (by decide +kernel) ?_
    refine ⟨rfl, (by omega), (by omega), (hce a ha).1, ?_⟩
    show zq_G _ _ _ _ _ 46 ([(0, .ref 0), (1, .int (nI a)), (2, .int (nI c))], [.int 26, .int (nI (cn a))], XH tx (nI Z) (nI P, nI C, nI R, nI L, hs, ss, cs, gs, vs) dr rd (nI D, sm, nI N, nI K, ce, de, ke, se) i0 i1 kp dd tr m)
    refine zq_if .ne 52 (¬ (cn a) = 26) (by decide +kernel) (zq_cne (a := cn a) (b := 26) (by omega) (by omega)) (fun c46 => ?_) (fun c46 => ?_)
    · show zq_G _ _ _ _ _ 52 ([(0, .ref 0), (1, .int (nI a)), (2, .int (nI c))], [], XH tx (nI Z) (nI P, nI C, nI R, nI L, hs, ss, cs, gs, vs) dr rd (nI D, sm, nI N, nI K, ce, de, ke, se) i0 i1 kp dd tr m)
      exact absurd hb (by omega)
    · show zq_G _ _ _ _ _ 49 ([(0, .ref 0), (1, .int (nI a)), (2, .int (nI c))], [], XH tx (nI Z) (nI P, nI C, nI R, nI L, hs, ss, cs, gs, vs) dr rd (nI D, sm, nI N, nI K, ce, de, ke, se) i0 i1 kp dd tr m)
      refine zq_b [zq_k (-2)] [zq_kchk (-2)] 51 rfl (by decide +kernel) ?_
      show zq_G _ _ _ _ _ 51 ([(0, .ref 0), (1, .int (nI a)), (2, .int (nI c))], [.int (-2)], XH tx (nI Z) (nI P, nI C, nI R, nI L, hs, ss, cs, gs, vs) dr rd (nI D, sm, nI N, nI K, ce, de, ke, se) i0 i1 kp dd tr m)
      exact zq_iret (by decide +kernel) rfl rfl rfl
set_option maxHeartbeats 4000000 in
set_option maxRecDepth 100000 in
theorem x_walk {a : Nat} {c : Nat} (ha : a < P) (hcc : c ≤ 25) (hP : P ≤ 6) (hK : K ≤ 10) (hce : ∀ j, j < P → ce j = nI (cn j) ∧ cn j ≤ 26) (hb : ¬ cn a = c ∧ ¬ cn a = 26) : zq_P l mX11_walk 3 [.ref 0, .int (nI a), .int (nI c)] (XH tx (nI Z) (nI P, nI C, nI R, nI L, hs, ss, cs, gs, vs) dr rd (nI D, sm, nI N, nI K, ce, de, ke, se) i0 i1 kp dd tr m) (some (.int (ce a))) (XH tx (nI Z) (nI P, nI C, nI R, nI L, hs, ss, cs, gs, vs) dr rd (nI D, sm, nI N, nI (zk9 K + 1), upd ce a (nI c), de, ke, zse K se 0 (nI a) (ce a)) i0 i1 kp dd tr m) := by
  refine zq_start (by decide +kernel) rfl (Nat.le_of_ble_eq_true rfl) ?_
  show zq_G _ _ _ _ _ 0 ([(0, .ref 0), (1, .int (nI a)), (2, .int (nI c))], [], XH tx (nI Z) (nI P, nI C, nI R, nI L, hs, ss, cs, gs, vs) dr rd (nI D, sm, nI N, nI K, ce, de, ke, se) i0 i1 kp dd tr m)
  have hca := (hce a ha).2
  refine zq_b [zq_al 0, zq_get 11 2, zq_il 1] [zq_alchk 0, zq_getchk 11 2, zq_ilchk 1] 5 rfl (by decide +kernel) ?_
  show zq_G _ _ _ _ _ 5 ([(0, .ref 0), (1, .int (nI a)), (2, .int (nI c))], [.int (nI a), .ref 2], XH tx (nI Z) (nI P, nI C, nI R, nI L, hs, ss, cs, gs, vs) dr rd (nI D, sm, nI N, nI K, ce, de, ke, se) i0 i1 kp dd tr m)
  refine zq_callV (av := [.int (nI a)]) (rest := []) (by decide +kernel) k11_105 (x_hasPersonN (p := a) hP (by omega)) rfl rfl rfl rfl ?_
  show zq_G _ _ _ _ _ 8 ([(0, .ref 0), (1, .int (nI a)), (2, .int (nI c))], [.int (zb (a < P))], XH tx (nI Z) (nI P, nI C, nI R, nI L, hs, ss, cs, gs, vs) dr rd (nI D, sm, nI N, nI K, ce, de, ke, se) i0 i1 kp dd tr m)
  refine zq_ifz .eq 20 (¬ (a < P)) (by decide +kernel) (zb_eq _) (fun c8 => absurd c8 (by omega)) (fun c8 => ?_)
  show zq_G _ _ _ _ _ 11 ([(0, .ref 0), (1, .int (nI a)), (2, .int (nI c))], [], XH tx (nI Z) (nI P, nI C, nI R, nI L, hs, ss, cs, gs, vs) dr rd (nI D, sm, nI N, nI K, ce, de, ke, se) i0 i1 kp dd tr m)
  refine zq_b [zq_il 2, zq_k 25] [zq_ilchk 2, zq_kchk 25] 14 rfl (by decide +kernel) ?_
  show zq_G _ _ _ _ _ 14 ([(0, .ref 0), (1, .int (nI a)), (2, .int (nI c))], [.int 25, .int (nI c)], XH tx (nI Z) (nI P, nI C, nI R, nI L, hs, ss, cs, gs, vs) dr rd (nI D, sm, nI N, nI K, ce, de, ke, se) i0 i1 kp dd tr m)
  refine zq_callS (av := [.int (nI c), .int 25]) (rest := []) (by decide +kernel) k11_87 (x_isBeyondN (p := c) (q := 25) (by omega) (by omega)) rfl rfl ?_
  show zq_G _ _ _ _ _ 17 ([(0, .ref 0), (1, .int (nI a)), (2, .int (nI c))], [.int (zb (25 < c))], XH tx (nI Z) (nI P, nI C, nI R, nI L, hs, ss, cs, gs, vs) dr rd (nI D, sm, nI N, nI K, ce, de, ke, se) i0 i1 kp dd tr m)
  refine zq_ifz .eq 22 (¬ (25 < c)) (by decide +kernel) (zb_eq _) (fun c17 => ?_) (fun c17 => absurd (by omega) c17)
  show zq_G _ _ _ _ _ 22 ([(0, .ref 0), (1, .int (nI a)), (2, .int (nI c))], [], XH tx (nI Z) (nI P, nI C, nI R, nI L, hs, ss, cs, gs, vs) dr rd (nI D, sm, nI N, nI K, ce, de, ke, se) i0 i1 kp dd tr m)
  refine zq_b [zq_al 0, zq_get 11 5, zq_get 5 5, zq_il 1, zq_iald a (nI (cn a)), zq_il 2] [zq_alchk 0, zq_getchk 11 5, zq_getchk 5 5, zq_ilchk 1, zq_is .iaload 1, zq_ilchk 2] 32 rfl (by decide +kernel) ?_
  refine ⟨rfl, (by omega), (by omega), (hce a ha).1, ?_⟩
  show zq_G _ _ _ _ _ 32 ([(0, .ref 0), (1, .int (nI a)), (2, .int (nI c))], [.int (nI c), .int (nI (cn a))], XH tx (nI Z) (nI P, nI C, nI R, nI L, hs, ss, cs, gs, vs) dr rd (nI D, sm, nI N, nI K, ce, de, ke, se) i0 i1 kp dd tr m)
  refine zq_if .eq 49 ((cn a) = c) (by decide +kernel) (zq_ceq (a := cn a) (b := c) (by omega) (by omega)) (fun c32 => absurd c32 (by omega)) (fun c32 => ?_)
  show zq_G _ _ _ _ _ 35 ([(0, .ref 0), (1, .int (nI a)), (2, .int (nI c))], [], XH tx (nI Z) (nI P, nI C, nI R, nI L, hs, ss, cs, gs, vs) dr rd (nI D, sm, nI N, nI K, ce, de, ke, se) i0 i1 kp dd tr m)
  refine zq_b [zq_al 0, zq_get 11 5, zq_get 5 5, zq_il 1, zq_iald a (nI (cn a)), zq_k 26] [zq_alchk 0, zq_getchk 11 5, zq_getchk 5 5, zq_ilchk 1, zq_is .iaload 1, zq_kchk 26] 46 rfl (by decide +kernel) ?_
  refine ⟨rfl, (by omega), (by omega), (hce a ha).1, ?_⟩
  show zq_G _ _ _ _ _ 46 ([(0, .ref 0), (1, .int (nI a)), (2, .int (nI c))], [.int 26, .int (nI (cn a))], XH tx (nI Z) (nI P, nI C, nI R, nI L, hs, ss, cs, gs, vs) dr rd (nI D, sm, nI N, nI K, ce, de, ke, se) i0 i1 kp dd tr m)
  refine zq_if .ne 52 (¬ (cn a) = 26) (by decide +kernel) (zq_cne (a := cn a) (b := 26) (by omega) (by omega)) (fun c46 => ?_) (fun c46 => absurd (by omega) c46)
  show zq_G _ _ _ _ _ 52 ([(0, .ref 0), (1, .int (nI a)), (2, .int (nI c))], [], XH tx (nI Z) (nI P, nI C, nI R, nI L, hs, ss, cs, gs, vs) dr rd (nI D, sm, nI N, nI K, ce, de, ke, se) i0 i1 kp dd tr m)
  refine zq_b [zq_al 0, zq_get 11 5, zq_il 1, zq_il 2] [zq_alchk 0, zq_getchk 11 5, zq_ilchk 1, zq_ilchk 2] 58 rfl (by decide +kernel) ?_
  show zq_G _ _ _ _ _ 58 ([(0, .ref 0), (1, .int (nI a)), (2, .int (nI c))], [.int (nI c), .int (nI a), .ref 15], XH tx (nI Z) (nI P, nI C, nI R, nI L, hs, ss, cs, gs, vs) dr rd (nI D, sm, nI N, nI K, ce, de, ke, se) i0 i1 kp dd tr m)
  refine zq_callV (av := [.int (nI a), .int (nI c)]) (rest := []) (by decide +kernel) k11_138 (c_move (p := a) (x := (nI c)) (by omega) hK) rfl rfl rfl rfl ?_
  show zq_G _ _ _ _ _ 61 ([(0, .ref 0), (1, .int (nI a)), (2, .int (nI c))], [.int (ce a)], XH tx (nI Z) (nI P, nI C, nI R, nI L, hs, ss, cs, gs, vs) dr rd (nI D, sm, nI N, nI (zk9 K + 1), upd ce a (nI c), de, ke, zse K se 0 (nI a) (ce a)) i0 i1 kp dd tr m)
  exact zq_iret (by decide +kernel) rfl rfl rfl
set_option maxHeartbeats 4000000 in
set_option maxRecDepth 100000 in
theorem x_die_bad {x : Int32} (hP : P ≤ 6) (hb : ¬ (0 ≤ x.toInt ∧ x.toInt < (P : Int))) : zq_P l mX11_die 1 [.ref 0, .int x] (XH tx (nI Z) (nI P, nI C, nI R, nI L, hs, ss, cs, gs, vs) dr rd (nI D, sm, nI N, nI K, ce, de, ke, se) i0 i1 kp dd tr m) (some (.int (-1))) (XH tx (nI Z) (nI P, nI C, nI R, nI L, hs, ss, cs, gs, vs) dr rd (nI D, sm, nI N, nI K, ce, de, ke, se) i0 i1 kp dd tr m) := by
  refine zq_start (by decide +kernel) rfl (Nat.le_of_ble_eq_true rfl) ?_
  show zq_G _ _ _ _ _ 0 ([(0, .ref 0), (1, .int x)], [], XH tx (nI Z) (nI P, nI C, nI R, nI L, hs, ss, cs, gs, vs) dr rd (nI D, sm, nI N, nI K, ce, de, ke, se) i0 i1 kp dd tr m)
  refine zq_b [zq_al 0, zq_get 11 2, zq_il 1] [zq_alchk 0, zq_getchk 11 2, zq_ilchk 1] 5 rfl (by decide +kernel) ?_
  show zq_G _ _ _ _ _ 5 ([(0, .ref 0), (1, .int x)], [.int x, .ref 2], XH tx (nI Z) (nI P, nI C, nI R, nI L, hs, ss, cs, gs, vs) dr rd (nI D, sm, nI N, nI K, ce, de, ke, se) i0 i1 kp dd tr m)
  refine zq_callV (av := [.int x]) (rest := []) (by decide +kernel) k11_105 (x_hasPerson (p := x) hP) rfl rfl rfl rfl ?_
  show zq_G _ _ _ _ _ 8 ([(0, .ref 0), (1, .int x)], [.int (zb (0 ≤ x.toInt ∧ x.toInt < (P : Int)))], XH tx (nI Z) (nI P, nI C, nI R, nI L, hs, ss, cs, gs, vs) dr rd (nI D, sm, nI N, nI K, ce, de, ke, se) i0 i1 kp dd tr m)
  refine zq_ifz .ne 13 (0 ≤ x.toInt ∧ x.toInt < (P : Int)) (by decide +kernel) (zb_ne _) (fun c8 => ?_) (fun c8 => ?_)
  · show zq_G _ _ _ _ _ 13 ([(0, .ref 0), (1, .int x)], [], XH tx (nI Z) (nI P, nI C, nI R, nI L, hs, ss, cs, gs, vs) dr rd (nI D, sm, nI N, nI K, ce, de, ke, se) i0 i1 kp dd tr m)
    exact absurd hb (by omega)
  · show zq_G _ _ _ _ _ 11 ([(0, .ref 0), (1, .int x)], [], XH tx (nI Z) (nI P, nI C, nI R, nI L, hs, ss, cs, gs, vs) dr rd (nI D, sm, nI N, nI K, ce, de, ke, se) i0 i1 kp dd tr m)
    refine zq_b [zq_k (-1)] [zq_kchk (-1)] 12 rfl (by decide +kernel) ?_
    show zq_G _ _ _ _ _ 12 ([(0, .ref 0), (1, .int x)], [.int (-1)], XH tx (nI Z) (nI P, nI C, nI R, nI L, hs, ss, cs, gs, vs) dr rd (nI D, sm, nI N, nI K, ce, de, ke, se) i0 i1 kp dd tr m)
    exact zq_iret (by decide +kernel) rfl rfl rfl
set_option maxHeartbeats 4000000 in
set_option maxRecDepth 100000 in
theorem x_die_st {a : Nat} (ha : a < P) (hP : P ≤ 6) (hce : ∀ j, j < P → ce j = nI (cn j) ∧ cn j ≤ 26) (hb : cn a = 26) : zq_P l mX11_die 1 [.ref 0, .int (nI a)] (XH tx (nI Z) (nI P, nI C, nI R, nI L, hs, ss, cs, gs, vs) dr rd (nI D, sm, nI N, nI K, ce, de, ke, se) i0 i1 kp dd tr m) (some (.int (-2))) (XH tx (nI Z) (nI P, nI C, nI R, nI L, hs, ss, cs, gs, vs) dr rd (nI D, sm, nI N, nI K, ce, de, ke, se) i0 i1 kp dd tr m) := by
  refine zq_start (by decide +kernel) rfl (Nat.le_of_ble_eq_true rfl) ?_
  show zq_G _ _ _ _ _ 0 ([(0, .ref 0), (1, .int (nI a))], [], XH tx (nI Z) (nI P, nI C, nI R, nI L, hs, ss, cs, gs, vs) dr rd (nI D, sm, nI N, nI K, ce, de, ke, se) i0 i1 kp dd tr m)
  have hca := (hce a ha).2
  refine zq_b [zq_al 0, zq_get 11 2, zq_il 1] [zq_alchk 0, zq_getchk 11 2, zq_ilchk 1] 5 rfl (by decide +kernel) ?_
  show zq_G _ _ _ _ _ 5 ([(0, .ref 0), (1, .int (nI a))], [.int (nI a), .ref 2], XH tx (nI Z) (nI P, nI C, nI R, nI L, hs, ss, cs, gs, vs) dr rd (nI D, sm, nI N, nI K, ce, de, ke, se) i0 i1 kp dd tr m)
  refine zq_callV (av := [.int (nI a)]) (rest := []) (by decide +kernel) k11_105 (x_hasPersonN (p := a) hP (by omega)) rfl rfl rfl rfl ?_
  show zq_G _ _ _ _ _ 8 ([(0, .ref 0), (1, .int (nI a))], [.int (zb (a < P))], XH tx (nI Z) (nI P, nI C, nI R, nI L, hs, ss, cs, gs, vs) dr rd (nI D, sm, nI N, nI K, ce, de, ke, se) i0 i1 kp dd tr m)
  refine zq_ifz .ne 13 (a < P) (by decide +kernel) (zb_ne _) (fun c8 => ?_) (fun c8 => absurd (by omega) c8)
  show zq_G _ _ _ _ _ 13 ([(0, .ref 0), (1, .int (nI a))], [], XH tx (nI Z) (nI P, nI C, nI R, nI L, hs, ss, cs, gs, vs) dr rd (nI D, sm, nI N, nI K, ce, de, ke, se) i0 i1 kp dd tr m)
  refine zq_b [zq_al 0, zq_get 11 5, zq_get 5 5, zq_il 1, zq_iald a (nI (cn a)), zq_k 26] [zq_alchk 0, zq_getchk 11 5, zq_getchk 5 5, zq_ilchk 1, zq_is .iaload 1, zq_kchk 26] 24 rfl (by decide +kernel) ?_
  refine ⟨rfl, (by omega), (by omega), (hce a ha).1, ?_⟩
  show zq_G _ _ _ _ _ 24 ([(0, .ref 0), (1, .int (nI a))], [.int 26, .int (nI (cn a))], XH tx (nI Z) (nI P, nI C, nI R, nI L, hs, ss, cs, gs, vs) dr rd (nI D, sm, nI N, nI K, ce, de, ke, se) i0 i1 kp dd tr m)
  refine zq_if .ne 30 (¬ (cn a) = 26) (by decide +kernel) (zq_cne (a := cn a) (b := 26) (by omega) (by omega)) (fun c24 => absurd c24 (by omega)) (fun c24 => ?_)
  show zq_G _ _ _ _ _ 27 ([(0, .ref 0), (1, .int (nI a))], [], XH tx (nI Z) (nI P, nI C, nI R, nI L, hs, ss, cs, gs, vs) dr rd (nI D, sm, nI N, nI K, ce, de, ke, se) i0 i1 kp dd tr m)
  refine zq_b [zq_k (-2)] [zq_kchk (-2)] 29 rfl (by decide +kernel) ?_
  show zq_G _ _ _ _ _ 29 ([(0, .ref 0), (1, .int (nI a))], [.int (-2)], XH tx (nI Z) (nI P, nI C, nI R, nI L, hs, ss, cs, gs, vs) dr rd (nI D, sm, nI N, nI K, ce, de, ke, se) i0 i1 kp dd tr m)
  exact zq_iret (by decide +kernel) rfl rfl rfl
set_option maxHeartbeats 4000000 in
set_option maxRecDepth 100000 in
theorem x_die {a : Nat} (ha : a < P) (hP : P ≤ 6) (hK : K ≤ 10) (hce : ∀ j, j < P → ce j = nI (cn j) ∧ cn j ≤ 26) (hb : ¬ cn a = 26) : zq_P l mX11_die 3 [.ref 0, .int (nI a)] (XH tx (nI Z) (nI P, nI C, nI R, nI L, hs, ss, cs, gs, vs) dr rd (nI D, sm, nI N, nI K, ce, de, ke, se) i0 i1 kp dd tr m) (some (.int (ce a))) (XH tx (nI Z) (nI P, nI C, nI R, nI L, hs, ss, cs, gs, vs) dr rd (nI D, sm, nI N, nI (zk9 K + 1), upd ce a 26, de, ke, zse K se 0 (nI a) (ce a)) i0 i1 kp dd tr m) := by
  refine zq_start (by decide +kernel) rfl (Nat.le_of_ble_eq_true rfl) ?_
  show zq_G _ _ _ _ _ 0 ([(0, .ref 0), (1, .int (nI a))], [], XH tx (nI Z) (nI P, nI C, nI R, nI L, hs, ss, cs, gs, vs) dr rd (nI D, sm, nI N, nI K, ce, de, ke, se) i0 i1 kp dd tr m)
  have hca := (hce a ha).2
  refine zq_b [zq_al 0, zq_get 11 2, zq_il 1] [zq_alchk 0, zq_getchk 11 2, zq_ilchk 1] 5 rfl (by decide +kernel) ?_
  show zq_G _ _ _ _ _ 5 ([(0, .ref 0), (1, .int (nI a))], [.int (nI a), .ref 2], XH tx (nI Z) (nI P, nI C, nI R, nI L, hs, ss, cs, gs, vs) dr rd (nI D, sm, nI N, nI K, ce, de, ke, se) i0 i1 kp dd tr m)
  refine zq_callV (av := [.int (nI a)]) (rest := []) (by decide +kernel) k11_105 (x_hasPersonN (p := a) hP (by omega)) rfl rfl rfl rfl ?_
  show zq_G _ _ _ _ _ 8 ([(0, .ref 0), (1, .int (nI a))], [.int (zb (a < P))], XH tx (nI Z) (nI P, nI C, nI R, nI L, hs, ss, cs, gs, vs) dr rd (nI D, sm, nI N, nI K, ce, de, ke, se) i0 i1 kp dd tr m)
  refine zq_ifz .ne 13 (a < P) (by decide +kernel) (zb_ne _) (fun c8 => ?_) (fun c8 => absurd (by omega) c8)
  show zq_G _ _ _ _ _ 13 ([(0, .ref 0), (1, .int (nI a))], [], XH tx (nI Z) (nI P, nI C, nI R, nI L, hs, ss, cs, gs, vs) dr rd (nI D, sm, nI N, nI K, ce, de, ke, se) i0 i1 kp dd tr m)
  refine zq_b [zq_al 0, zq_get 11 5, zq_get 5 5, zq_il 1, zq_iald a (nI (cn a)), zq_k 26] [zq_alchk 0, zq_getchk 11 5, zq_getchk 5 5, zq_ilchk 1, zq_is .iaload 1, zq_kchk 26] 24 rfl (by decide +kernel) ?_
  refine ⟨rfl, (by omega), (by omega), (hce a ha).1, ?_⟩
  show zq_G _ _ _ _ _ 24 ([(0, .ref 0), (1, .int (nI a))], [.int 26, .int (nI (cn a))], XH tx (nI Z) (nI P, nI C, nI R, nI L, hs, ss, cs, gs, vs) dr rd (nI D, sm, nI N, nI K, ce, de, ke, se) i0 i1 kp dd tr m)
  refine zq_if .ne 30 (¬ (cn a) = 26) (by decide +kernel) (zq_cne (a := cn a) (b := 26) (by omega) (by omega)) (fun c24 => ?_) (fun c24 => absurd (by omega) c24)
  show zq_G _ _ _ _ _ 30 ([(0, .ref 0), (1, .int (nI a))], [], XH tx (nI Z) (nI P, nI C, nI R, nI L, hs, ss, cs, gs, vs) dr rd (nI D, sm, nI N, nI K, ce, de, ke, se) i0 i1 kp dd tr m)
  refine zq_b [zq_al 0, zq_get 11 5, zq_il 1, zq_k 26] [zq_alchk 0, zq_getchk 11 5, zq_ilchk 1, zq_kchk 26] 37 rfl (by decide +kernel) ?_
  show zq_G _ _ _ _ _ 37 ([(0, .ref 0), (1, .int (nI a))], [.int 26, .int (nI a), .ref 15], XH tx (nI Z) (nI P, nI C, nI R, nI L, hs, ss, cs, gs, vs) dr rd (nI D, sm, nI N, nI K, ce, de, ke, se) i0 i1 kp dd tr m)
  refine zq_callV (av := [.int (nI a), .int 26]) (rest := []) (by decide +kernel) k11_138 (c_move (p := a) (x := 26) (by omega) hK) rfl rfl rfl rfl ?_
  show zq_G _ _ _ _ _ 40 ([(0, .ref 0), (1, .int (nI a))], [.int (ce a)], XH tx (nI Z) (nI P, nI C, nI R, nI L, hs, ss, cs, gs, vs) dr rd (nI D, sm, nI N, nI (zk9 K + 1), upd ce a 26, de, ke, zse K se 0 (nI a) (ce a)) i0 i1 kp dd tr m)
  exact zq_iret (by decide +kernel) rfl rfl rfl
set_option maxHeartbeats 4000000 in
set_option maxRecDepth 100000 in
theorem x_smoke_bad {x : Int32} {y : Int32} (hb : ¬ (0 ≤ x.toInt ∧ x.toInt < 25 ∧ 0 ≤ y.toInt ∧ y.toInt ≤ 1)) : zq_P l mX11_smoke 1 [.ref 0, .int x, .int y] (XH tx (nI Z) (nI P, nI C, nI R, nI L, hs, ss, cs, gs, vs) dr rd (nI D, sm, nI N, nI K, ce, de, ke, se) i0 i1 kp dd tr m) (some (.int (-1))) (XH tx (nI Z) (nI P, nI C, nI R, nI L, hs, ss, cs, gs, vs) dr rd (nI D, sm, nI N, nI K, ce, de, ke, se) i0 i1 kp dd tr m) := by
  refine zq_start (by decide +kernel) rfl (Nat.le_of_ble_eq_true rfl) ?_
  show zq_G _ _ _ _ _ 0 ([(0, .ref 0), (1, .int x), (2, .int y)], [], XH tx (nI Z) (nI P, nI C, nI R, nI L, hs, ss, cs, gs, vs) dr rd (nI D, sm, nI N, nI K, ce, de, ke, se) i0 i1 kp dd tr m)
  refine zq_b [zq_il 1, zq_k 24] [zq_ilchk 1, zq_kchk 24] 3 rfl (by decide +kernel) ?_
  show zq_G _ _ _ _ _ 3 ([(0, .ref 0), (1, .int x), (2, .int y)], [.int 24, .int x], XH tx (nI Z) (nI P, nI C, nI R, nI L, hs, ss, cs, gs, vs) dr rd (nI D, sm, nI N, nI K, ce, de, ke, se) i0 i1 kp dd tr m)
  refine zq_callS (av := [.int x, .int 24]) (rest := []) (by decide +kernel) k11_87 (x_isBeyond (x := x) (q := 24) (by omega)) rfl rfl ?_
  show zq_G _ _ _ _ _ 6 ([(0, .ref 0), (1, .int x), (2, .int y)], [.int (zb (x.toInt < 0 ∨ (24 : Int) < x.toInt))], XH tx (nI Z) (nI P, nI C, nI R, nI L, hs, ss, cs, gs, vs) dr rd (nI D, sm, nI N, nI K, ce, de, ke, se) i0 i1 kp dd tr m)
  refine zq_ifz .ne 17 (x.toInt < 0 ∨ (24 : Int) < x.toInt) (by decide +kernel) (zb_ne _) (fun c6 => ?_) (fun c6 => ?_)
  · show zq_G _ _ _ _ _ 17 ([(0, .ref 0), (1, .int x), (2, .int y)], [], XH tx (nI Z) (nI P, nI C, nI R, nI L, hs, ss, cs, gs, vs) dr rd (nI D, sm, nI N, nI K, ce, de, ke, se) i0 i1 kp dd tr m)
    refine zq_b [zq_k (-1)] [zq_kchk (-1)] 18 rfl (by decide +kernel) ?_
    show zq_G _ _ _ _ _ 18 ([(0, .ref 0), (1, .int x), (2, .int y)], [.int (-1)], XH tx (nI Z) (nI P, nI C, nI R, nI L, hs, ss, cs, gs, vs) dr rd (nI D, sm, nI N, nI K, ce, de, ke, se) i0 i1 kp dd tr m)
    exact zq_iret (by decide +kernel) rfl rfl rfl
  · show zq_G _ _ _ _ _ 9 ([(0, .ref 0), (1, .int x), (2, .int y)], [], XH tx (nI Z) (nI P, nI C, nI R, nI L, hs, ss, cs, gs, vs) dr rd (nI D, sm, nI N, nI K, ce, de, ke, se) i0 i1 kp dd tr m)
    refine zq_b [zq_il 2, zq_k 1] [zq_ilchk 2, zq_kchk 1] 11 rfl (by decide +kernel) ?_
    show zq_G _ _ _ _ _ 11 ([(0, .ref 0), (1, .int x), (2, .int y)], [.int 1, .int y], XH tx (nI Z) (nI P, nI C, nI R, nI L, hs, ss, cs, gs, vs) dr rd (nI D, sm, nI N, nI K, ce, de, ke, se) i0 i1 kp dd tr m)
    refine zq_callS (av := [.int y, .int 1]) (rest := []) (by decide +kernel) k11_87 (x_isBeyond (x := y) (q := 1) (by omega)) rfl rfl ?_
    show zq_G _ _ _ _ _ 14 ([(0, .ref 0), (1, .int x), (2, .int y)], [.int (zb (y.toInt < 0 ∨ (1 : Int) < y.toInt))], XH tx (nI Z) (nI P, nI C, nI R, nI L, hs, ss, cs, gs, vs) dr rd (nI D, sm, nI N, nI K, ce, de, ke, se) i0 i1 kp dd tr m)
    refine zq_ifz .eq 19 (¬ (y.toInt < 0 ∨ (1 : Int) < y.toInt)) (by decide +kernel) (zb_eq _) (fun c14 => ?_) (fun c14 => ?_)
    · show zq_G _ _ _ _ _ 19 ([(0, .ref 0), (1, .int x), (2, .int y)], [], XH tx (nI Z) (nI P, nI C, nI R, nI L, hs, ss, cs, gs, vs) dr rd (nI D, sm, nI N, nI K, ce, de, ke, se) i0 i1 kp dd tr m)
      exact absurd hb (by omega)
    · show zq_G _ _ _ _ _ 17 ([(0, .ref 0), (1, .int x), (2, .int y)], [], XH tx (nI Z) (nI P, nI C, nI R, nI L, hs, ss, cs, gs, vs) dr rd (nI D, sm, nI N, nI K, ce, de, ke, se) i0 i1 kp dd tr m)
      refine zq_b [zq_k (-1)] [zq_kchk (-1)] 18 rfl (by decide +kernel) ?_
      show zq_G _ _ _ _ _ 18 ([(0, .ref 0), (1, .int x), (2, .int y)], [.int (-1)], XH tx (nI Z) (nI P, nI C, nI R, nI L, hs, ss, cs, gs, vs) dr rd (nI D, sm, nI N, nI K, ce, de, ke, se) i0 i1 kp dd tr m)
      exact zq_iret (by decide +kernel) rfl rfl rfl
set_option maxHeartbeats 4000000 in
set_option maxRecDepth 100000 in
theorem x_smoke_st {a : Nat} {c : Nat} (ha : a < 25) (he : c ≤ 1) (hb : zbit sm (nI a) = nI c) : zq_P l mX11_smoke 1 [.ref 0, .int (nI a), .int (nI c)] (XH tx (nI Z) (nI P, nI C, nI R, nI L, hs, ss, cs, gs, vs) dr rd (nI D, sm, nI N, nI K, ce, de, ke, se) i0 i1 kp dd tr m) (some (.int (-2))) (XH tx (nI Z) (nI P, nI C, nI R, nI L, hs, ss, cs, gs, vs) dr rd (nI D, sm, nI N, nI K, ce, de, ke, se) i0 i1 kp dd tr m) := by
  refine zq_start (by decide +kernel) rfl (Nat.le_of_ble_eq_true rfl) ?_
  show zq_G _ _ _ _ _ 0 ([(0, .ref 0), (1, .int (nI a)), (2, .int (nI c))], [], XH tx (nI Z) (nI P, nI C, nI R, nI L, hs, ss, cs, gs, vs) dr rd (nI D, sm, nI N, nI K, ce, de, ke, se) i0 i1 kp dd tr m)
  refine zq_b [zq_il 1, zq_k 24] [zq_ilchk 1, zq_kchk 24] 3 rfl (by decide +kernel) ?_
  show zq_G _ _ _ _ _ 3 ([(0, .ref 0), (1, .int (nI a)), (2, .int (nI c))], [.int 24, .int (nI a)], XH tx (nI Z) (nI P, nI C, nI R, nI L, hs, ss, cs, gs, vs) dr rd (nI D, sm, nI N, nI K, ce, de, ke, se) i0 i1 kp dd tr m)
  refine zq_callS (av := [.int (nI a), .int 24]) (rest := []) (by decide +kernel) k11_87 (x_isBeyondN (p := a) (q := 24) (by omega) (by omega)) rfl rfl ?_
  show zq_G _ _ _ _ _ 6 ([(0, .ref 0), (1, .int (nI a)), (2, .int (nI c))], [.int (zb (24 < a))], XH tx (nI Z) (nI P, nI C, nI R, nI L, hs, ss, cs, gs, vs) dr rd (nI D, sm, nI N, nI K, ce, de, ke, se) i0 i1 kp dd tr m)
  refine zq_ifz .ne 17 (24 < a) (by decide +kernel) (zb_ne _) (fun c6 => absurd c6 (by omega)) (fun c6 => ?_)
  show zq_G _ _ _ _ _ 9 ([(0, .ref 0), (1, .int (nI a)), (2, .int (nI c))], [], XH tx (nI Z) (nI P, nI C, nI R, nI L, hs, ss, cs, gs, vs) dr rd (nI D, sm, nI N, nI K, ce, de, ke, se) i0 i1 kp dd tr m)
  refine zq_b [zq_il 2, zq_k 1] [zq_ilchk 2, zq_kchk 1] 11 rfl (by decide +kernel) ?_
  show zq_G _ _ _ _ _ 11 ([(0, .ref 0), (1, .int (nI a)), (2, .int (nI c))], [.int 1, .int (nI c)], XH tx (nI Z) (nI P, nI C, nI R, nI L, hs, ss, cs, gs, vs) dr rd (nI D, sm, nI N, nI K, ce, de, ke, se) i0 i1 kp dd tr m)
  refine zq_callS (av := [.int (nI c), .int 1]) (rest := []) (by decide +kernel) k11_87 (x_isBeyondN (p := c) (q := 1) (by omega) (by omega)) rfl rfl ?_
  show zq_G _ _ _ _ _ 14 ([(0, .ref 0), (1, .int (nI a)), (2, .int (nI c))], [.int (zb (1 < c))], XH tx (nI Z) (nI P, nI C, nI R, nI L, hs, ss, cs, gs, vs) dr rd (nI D, sm, nI N, nI K, ce, de, ke, se) i0 i1 kp dd tr m)
  refine zq_ifz .eq 19 (¬ (1 < c)) (by decide +kernel) (zb_eq _) (fun c14 => ?_) (fun c14 => absurd (by omega) c14)
  show zq_G _ _ _ _ _ 19 ([(0, .ref 0), (1, .int (nI a)), (2, .int (nI c))], [], XH tx (nI Z) (nI P, nI C, nI R, nI L, hs, ss, cs, gs, vs) dr rd (nI D, sm, nI N, nI K, ce, de, ke, se) i0 i1 kp dd tr m)
  refine zq_b [zq_al 0, zq_get 11 5, zq_get 5 2, zq_il 1] [zq_alchk 0, zq_getchk 11 5, zq_getchk 5 2, zq_ilchk 1] 27 rfl (by decide +kernel) ?_
  show zq_G _ _ _ _ _ 27 ([(0, .ref 0), (1, .int (nI a)), (2, .int (nI c))], [.int (nI a), .int sm], XH tx (nI Z) (nI P, nI C, nI R, nI L, hs, ss, cs, gs, vs) dr rd (nI D, sm, nI N, nI K, ce, de, ke, se) i0 i1 kp dd tr m)
  refine zq_callS (av := [.int sm, .int (nI a)]) (rest := []) (by decide +kernel) k11_119 (c_bit (x := sm) (p := (nI a))) rfl rfl ?_
  show zq_G _ _ _ _ _ 30 ([(0, .ref 0), (1, .int (nI a)), (2, .int (nI c))], [.int (zbit sm (nI a))], XH tx (nI Z) (nI P, nI C, nI R, nI L, hs, ss, cs, gs, vs) dr rd (nI D, sm, nI N, nI K, ce, de, ke, se) i0 i1 kp dd tr m)
  refine zq_b [zq_il 2] [zq_ilchk 2] 31 rfl (by decide +kernel) ?_
  show zq_G _ _ _ _ _ 31 ([(0, .ref 0), (1, .int (nI a)), (2, .int (nI c))], [.int (nI c), .int (zbit sm (nI a))], XH tx (nI Z) (nI P, nI C, nI R, nI L, hs, ss, cs, gs, vs) dr rd (nI D, sm, nI N, nI K, ce, de, ke, se) i0 i1 kp dd tr m)
  refine zq_if .ne 37 (¬ (zbit sm (nI a)) = (nI c)) (by decide +kernel) (Iff.rfl) (fun c31 => absurd c31 (fun q => q hb)) (fun c31 => ?_)
  show zq_G _ _ _ _ _ 34 ([(0, .ref 0), (1, .int (nI a)), (2, .int (nI c))], [], XH tx (nI Z) (nI P, nI C, nI R, nI L, hs, ss, cs, gs, vs) dr rd (nI D, sm, nI N, nI K, ce, de, ke, se) i0 i1 kp dd tr m)
  refine zq_b [zq_k (-2)] [zq_kchk (-2)] 36 rfl (by decide +kernel) ?_
  show zq_G _ _ _ _ _ 36 ([(0, .ref 0), (1, .int (nI a)), (2, .int (nI c))], [.int (-2)], XH tx (nI Z) (nI P, nI C, nI R, nI L, hs, ss, cs, gs, vs) dr rd (nI D, sm, nI N, nI K, ce, de, ke, se) i0 i1 kp dd tr m)
  exact zq_iret (by decide +kernel) rfl rfl rfl
set_option maxHeartbeats 4000000 in
set_option maxRecDepth 100000 in
theorem x_smoke {a : Nat} {c : Nat} (ha : a < 25) (he : c ≤ 1) (hK : K ≤ 10) (hb : ¬ zbit sm (nI a) = nI c) : zq_P l mX11_smoke 3 [.ref 0, .int (nI a), .int (nI c)] (XH tx (nI Z) (nI P, nI C, nI R, nI L, hs, ss, cs, gs, vs) dr rd (nI D, sm, nI N, nI K, ce, de, ke, se) i0 i1 kp dd tr m) (some (.int (zbc (sm ^^^ ((1 : Int32) <<< (nI a &&& 31)))))) (XH tx (nI Z) (nI P, nI C, nI R, nI L, hs, ss, cs, gs, vs) dr rd (nI D, sm ^^^ ((1 : Int32) <<< (nI a &&& 31)), nI N, nI (zk9 K + 1), ce, de, ke, zse K se 1 (-1) sm) i0 i1 kp dd tr m) := by
  refine zq_start (by decide +kernel) rfl (Nat.le_of_ble_eq_true rfl) ?_
  show zq_G _ _ _ _ _ 0 ([(0, .ref 0), (1, .int (nI a)), (2, .int (nI c))], [], XH tx (nI Z) (nI P, nI C, nI R, nI L, hs, ss, cs, gs, vs) dr rd (nI D, sm, nI N, nI K, ce, de, ke, se) i0 i1 kp dd tr m)
  refine zq_b [zq_il 1, zq_k 24] [zq_ilchk 1, zq_kchk 24] 3 rfl (by decide +kernel) ?_
  show zq_G _ _ _ _ _ 3 ([(0, .ref 0), (1, .int (nI a)), (2, .int (nI c))], [.int 24, .int (nI a)], XH tx (nI Z) (nI P, nI C, nI R, nI L, hs, ss, cs, gs, vs) dr rd (nI D, sm, nI N, nI K, ce, de, ke, se) i0 i1 kp dd tr m)
  refine zq_callS (av := [.int (nI a), .int 24]) (rest := []) (by decide +kernel) k11_87 (x_isBeyondN (p := a) (q := 24) (by omega) (by omega)) rfl rfl ?_
  show zq_G _ _ _ _ _ 6 ([(0, .ref 0), (1, .int (nI a)), (2, .int (nI c))], [.int (zb (24 < a))], XH tx (nI Z) (nI P, nI C, nI R, nI L, hs, ss, cs, gs, vs) dr rd (nI D, sm, nI N, nI K, ce, de, ke, se) i0 i1 kp dd tr m)
  refine zq_ifz .ne 17 (24 < a) (by decide +kernel) (zb_ne _) (fun c6 => absurd c6 (by omega)) (fun c6 => ?_)
  show zq_G _ _ _ _ _ 9 ([(0, .ref 0), (1, .int (nI a)), (2, .int (nI c))], [], XH tx (nI Z) (nI P, nI C, nI R, nI L, hs, ss, cs, gs, vs) dr rd (nI D, sm, nI N, nI K, ce, de, ke, se) i0 i1 kp dd tr m)
  refine zq_b [zq_il 2, zq_k 1] [zq_ilchk 2, zq_kchk 1] 11 rfl (by decide +kernel) ?_
  show zq_G _ _ _ _ _ 11 ([(0, .ref 0), (1, .int (nI a)), (2, .int (nI c))], [.int 1, .int (nI c)], XH tx (nI Z) (nI P, nI C, nI R, nI L, hs, ss, cs, gs, vs) dr rd (nI D, sm, nI N, nI K, ce, de, ke, se) i0 i1 kp dd tr m)
  refine zq_callS (av := [.int (nI c), .int 1]) (rest := []) (by decide +kernel) k11_87 (x_isBeyondN (p := c) (q := 1) (by omega) (by omega)) rfl rfl ?_
  show zq_G _ _ _ _ _ 14 ([(0, .ref 0), (1, .int (nI a)), (2, .int (nI c))], [.int (zb (1 < c))], XH tx (nI Z) (nI P, nI C, nI R, nI L, hs, ss, cs, gs, vs) dr rd (nI D, sm, nI N, nI K, ce, de, ke, se) i0 i1 kp dd tr m)
  refine zq_ifz .eq 19 (¬ (1 < c)) (by decide +kernel) (zb_eq _) (fun c14 => ?_) (fun c14 => absurd (by omega) c14)
  show zq_G _ _ _ _ _ 19 ([(0, .ref 0), (1, .int (nI a)), (2, .int (nI c))], [], XH tx (nI Z) (nI P, nI C, nI R, nI L, hs, ss, cs, gs, vs) dr rd (nI D, sm, nI N, nI K, ce, de, ke, se) i0 i1 kp dd tr m)
  refine zq_b [zq_al 0, zq_get 11 5, zq_get 5 2, zq_il 1] [zq_alchk 0, zq_getchk 11 5, zq_getchk 5 2, zq_ilchk 1] 27 rfl (by decide +kernel) ?_
  show zq_G _ _ _ _ _ 27 ([(0, .ref 0), (1, .int (nI a)), (2, .int (nI c))], [.int (nI a), .int sm], XH tx (nI Z) (nI P, nI C, nI R, nI L, hs, ss, cs, gs, vs) dr rd (nI D, sm, nI N, nI K, ce, de, ke, se) i0 i1 kp dd tr m)
  refine zq_callS (av := [.int sm, .int (nI a)]) (rest := []) (by decide +kernel) k11_119 (c_bit (x := sm) (p := (nI a))) rfl rfl ?_
  show zq_G _ _ _ _ _ 30 ([(0, .ref 0), (1, .int (nI a)), (2, .int (nI c))], [.int (zbit sm (nI a))], XH tx (nI Z) (nI P, nI C, nI R, nI L, hs, ss, cs, gs, vs) dr rd (nI D, sm, nI N, nI K, ce, de, ke, se) i0 i1 kp dd tr m)
  refine zq_b [zq_il 2] [zq_ilchk 2] 31 rfl (by decide +kernel) ?_
  show zq_G _ _ _ _ _ 31 ([(0, .ref 0), (1, .int (nI a)), (2, .int (nI c))], [.int (nI c), .int (zbit sm (nI a))], XH tx (nI Z) (nI P, nI C, nI R, nI L, hs, ss, cs, gs, vs) dr rd (nI D, sm, nI N, nI K, ce, de, ke, se) i0 i1 kp dd tr m)
  refine zq_if .ne 37 (¬ (zbit sm (nI a)) = (nI c)) (by decide +kernel) (Iff.rfl) (fun c31 => ?_) (fun c31 => absurd hb c31)
  show zq_G _ _ _ _ _ 37 ([(0, .ref 0), (1, .int (nI a)), (2, .int (nI c))], [], XH tx (nI Z) (nI P, nI C, nI R, nI L, hs, ss, cs, gs, vs) dr rd (nI D, sm, nI N, nI K, ce, de, ke, se) i0 i1 kp dd tr m)
  refine zq_b [zq_al 0, zq_get 11 5, zq_il 1] [zq_alchk 0, zq_getchk 11 5, zq_ilchk 1] 42 rfl (by decide +kernel) ?_
  show zq_G _ _ _ _ _ 42 ([(0, .ref 0), (1, .int (nI a)), (2, .int (nI c))], [.int (nI a), .ref 15], XH tx (nI Z) (nI P, nI C, nI R, nI L, hs, ss, cs, gs, vs) dr rd (nI D, sm, nI N, nI K, ce, de, ke, se) i0 i1 kp dd tr m)
  refine zq_callV (av := [.int (nI a)]) (rest := []) (by decide +kernel) k11_141 (c_turnSmoke (x := (nI a)) hK) rfl rfl rfl rfl ?_
  show zq_G _ _ _ _ _ 45 ([(0, .ref 0), (1, .int (nI a)), (2, .int (nI c))], [], XH tx (nI Z) (nI P, nI C, nI R, nI L, hs, ss, cs, gs, vs) dr rd (nI D, sm ^^^ ((1 : Int32) <<< (nI a &&& 31)), nI N, nI (zk9 K + 1), ce, de, ke, zse K se 1 (-1) sm) i0 i1 kp dd tr m)
  refine zq_b [zq_al 0, zq_get 11 5, zq_get 5 2] [zq_alchk 0, zq_getchk 11 5, zq_getchk 5 2] 52 rfl (by decide +kernel) ?_
  show zq_G _ _ _ _ _ 52 ([(0, .ref 0), (1, .int (nI a)), (2, .int (nI c))], [.int (sm ^^^ ((1 : Int32) <<< (nI a &&& 31)))], XH tx (nI Z) (nI P, nI C, nI R, nI L, hs, ss, cs, gs, vs) dr rd (nI D, sm ^^^ ((1 : Int32) <<< (nI a &&& 31)), nI N, nI (zk9 K + 1), ce, de, ke, zse K se 1 (-1) sm) i0 i1 kp dd tr m)
  refine zq_callS (av := [.int (sm ^^^ ((1 : Int32) <<< (nI a &&& 31)))]) (rest := []) (by decide +kernel) k11_145 (c_bitCount (x := (sm ^^^ ((1 : Int32) <<< (nI a &&& 31))))) rfl rfl ?_
  show zq_G _ _ _ _ _ 55 ([(0, .ref 0), (1, .int (nI a)), (2, .int (nI c))], [.int (zbc (sm ^^^ ((1 : Int32) <<< (nI a &&& 31))))], XH tx (nI Z) (nI P, nI C, nI R, nI L, hs, ss, cs, gs, vs) dr rd (nI D, sm ^^^ ((1 : Int32) <<< (nI a &&& 31)), nI N, nI (zk9 K + 1), ce, de, ke, zse K se 1 (-1) sm) i0 i1 kp dd tr m)
  exact zq_iret (by decide +kernel) rfl rfl rfl
set_option maxHeartbeats 4000000 in
set_option maxRecDepth 100000 in
theorem x_deed_bad {x : Int32} {y : Int32} (hP : P ≤ 6) (hb : ¬ (0 ≤ x.toInt ∧ x.toInt < (P : Int) ∧ 0 ≤ y.toInt ∧ y.toInt ≤ 7)) : zq_P l mX11_deed 1 [.ref 0, .int x, .int y] (XH tx (nI Z) (nI P, nI C, nI R, nI L, hs, ss, cs, gs, vs) dr rd (nI D, sm, nI N, nI K, ce, de, ke, se) i0 i1 kp dd tr m) (some (.int (-1))) (XH tx (nI Z) (nI P, nI C, nI R, nI L, hs, ss, cs, gs, vs) dr rd (nI D, sm, nI N, nI K, ce, de, ke, se) i0 i1 kp dd tr m) := by
  refine zq_start (by decide +kernel) rfl (Nat.le_of_ble_eq_true rfl) ?_
  show zq_G _ _ _ _ _ 0 ([(0, .ref 0), (1, .int x), (2, .int y)], [], XH tx (nI Z) (nI P, nI C, nI R, nI L, hs, ss, cs, gs, vs) dr rd (nI D, sm, nI N, nI K, ce, de, ke, se) i0 i1 kp dd tr m)
  refine zq_b [zq_al 0, zq_get 11 2, zq_il 1] [zq_alchk 0, zq_getchk 11 2, zq_ilchk 1] 5 rfl (by decide +kernel) ?_
  show zq_G _ _ _ _ _ 5 ([(0, .ref 0), (1, .int x), (2, .int y)], [.int x, .ref 2], XH tx (nI Z) (nI P, nI C, nI R, nI L, hs, ss, cs, gs, vs) dr rd (nI D, sm, nI N, nI K, ce, de, ke, se) i0 i1 kp dd tr m)
  refine zq_callV (av := [.int x]) (rest := []) (by decide +kernel) k11_105 (x_hasPerson (p := x) hP) rfl rfl rfl rfl ?_
  show zq_G _ _ _ _ _ 8 ([(0, .ref 0), (1, .int x), (2, .int y)], [.int (zb (0 ≤ x.toInt ∧ x.toInt < (P : Int)))], XH tx (nI Z) (nI P, nI C, nI R, nI L, hs, ss, cs, gs, vs) dr rd (nI D, sm, nI N, nI K, ce, de, ke, se) i0 i1 kp dd tr m)
  refine zq_ifz .eq 20 (¬ (0 ≤ x.toInt ∧ x.toInt < (P : Int))) (by decide +kernel) (zb_eq _) (fun c8 => ?_) (fun c8 => ?_)
  · show zq_G _ _ _ _ _ 20 ([(0, .ref 0), (1, .int x), (2, .int y)], [], XH tx (nI Z) (nI P, nI C, nI R, nI L, hs, ss, cs, gs, vs) dr rd (nI D, sm, nI N, nI K, ce, de, ke, se) i0 i1 kp dd tr m)
    refine zq_b [zq_k (-1)] [zq_kchk (-1)] 21 rfl (by decide +kernel) ?_
    show zq_G _ _ _ _ _ 21 ([(0, .ref 0), (1, .int x), (2, .int y)], [.int (-1)], XH tx (nI Z) (nI P, nI C, nI R, nI L, hs, ss, cs, gs, vs) dr rd (nI D, sm, nI N, nI K, ce, de, ke, se) i0 i1 kp dd tr m)
    exact zq_iret (by decide +kernel) rfl rfl rfl
  · show zq_G _ _ _ _ _ 11 ([(0, .ref 0), (1, .int x), (2, .int y)], [], XH tx (nI Z) (nI P, nI C, nI R, nI L, hs, ss, cs, gs, vs) dr rd (nI D, sm, nI N, nI K, ce, de, ke, se) i0 i1 kp dd tr m)
    refine zq_b [zq_il 2, zq_k 7] [zq_ilchk 2, zq_kchk 7] 14 rfl (by decide +kernel) ?_
    show zq_G _ _ _ _ _ 14 ([(0, .ref 0), (1, .int x), (2, .int y)], [.int 7, .int y], XH tx (nI Z) (nI P, nI C, nI R, nI L, hs, ss, cs, gs, vs) dr rd (nI D, sm, nI N, nI K, ce, de, ke, se) i0 i1 kp dd tr m)
    refine zq_callS (av := [.int y, .int 7]) (rest := []) (by decide +kernel) k11_87 (x_isBeyond (x := y) (q := 7) (by omega)) rfl rfl ?_
    show zq_G _ _ _ _ _ 17 ([(0, .ref 0), (1, .int x), (2, .int y)], [.int (zb (y.toInt < 0 ∨ (7 : Int) < y.toInt))], XH tx (nI Z) (nI P, nI C, nI R, nI L, hs, ss, cs, gs, vs) dr rd (nI D, sm, nI N, nI K, ce, de, ke, se) i0 i1 kp dd tr m)
    refine zq_ifz .eq 22 (¬ (y.toInt < 0 ∨ (7 : Int) < y.toInt)) (by decide +kernel) (zb_eq _) (fun c17 => ?_) (fun c17 => ?_)
    · show zq_G _ _ _ _ _ 22 ([(0, .ref 0), (1, .int x), (2, .int y)], [], XH tx (nI Z) (nI P, nI C, nI R, nI L, hs, ss, cs, gs, vs) dr rd (nI D, sm, nI N, nI K, ce, de, ke, se) i0 i1 kp dd tr m)
      exact absurd hb (by omega)
    · show zq_G _ _ _ _ _ 20 ([(0, .ref 0), (1, .int x), (2, .int y)], [], XH tx (nI Z) (nI P, nI C, nI R, nI L, hs, ss, cs, gs, vs) dr rd (nI D, sm, nI N, nI K, ce, de, ke, se) i0 i1 kp dd tr m)
      refine zq_b [zq_k (-1)] [zq_kchk (-1)] 21 rfl (by decide +kernel) ?_
      show zq_G _ _ _ _ _ 21 ([(0, .ref 0), (1, .int x), (2, .int y)], [.int (-1)], XH tx (nI Z) (nI P, nI C, nI R, nI L, hs, ss, cs, gs, vs) dr rd (nI D, sm, nI N, nI K, ce, de, ke, se) i0 i1 kp dd tr m)
      exact zq_iret (by decide +kernel) rfl rfl rfl
set_option maxHeartbeats 4000000 in
set_option maxRecDepth 100000 in
theorem x_deed_st {a : Nat} {c : Nat} (ha : a < P) (hcc : c ≤ 7) (hP : P ≤ 6) (hce : ∀ j, j < P → ce j = nI (cn j) ∧ cn j ≤ 26) (hb : 25 ≤ cn a) : zq_P l mX11_deed 1 [.ref 0, .int (nI a), .int (nI c)] (XH tx (nI Z) (nI P, nI C, nI R, nI L, hs, ss, cs, gs, vs) dr rd (nI D, sm, nI N, nI K, ce, de, ke, se) i0 i1 kp dd tr m) (some (.int (-2))) (XH tx (nI Z) (nI P, nI C, nI R, nI L, hs, ss, cs, gs, vs) dr rd (nI D, sm, nI N, nI K, ce, de, ke, se) i0 i1 kp dd tr m) := by
  refine zq_start (by decide +kernel) rfl (Nat.le_of_ble_eq_true rfl) ?_
  show zq_G _ _ _ _ _ 0 ([(0, .ref 0), (1, .int (nI a)), (2, .int (nI c))], [], XH tx (nI Z) (nI P, nI C, nI R, nI L, hs, ss, cs, gs, vs) dr rd (nI D, sm, nI N, nI K, ce, de, ke, se) i0 i1 kp dd tr m)
  have hca := (hce a ha).2
  refine zq_b [zq_al 0, zq_get 11 2, zq_il 1] [zq_alchk 0, zq_getchk 11 2, zq_ilchk 1] 5 rfl (by decide +kernel) ?_
  show zq_G _ _ _ _ _ 5 ([(0, .ref 0), (1, .int (nI a)), (2, .int (nI c))], [.int (nI a), .ref 2], XH tx (nI Z) (nI P, nI C, nI R, nI L, hs, ss, cs, gs, vs) dr rd (nI D, sm, nI N, nI K, ce, de, ke, se) i0 i1 kp dd tr m)
  refine zq_callV (av := [.int (nI a)]) (rest := []) (by decide +kernel) k11_105 (x_hasPersonN (p := a) hP (by omega)) rfl rfl rfl rfl ?_
  show zq_G _ _ _ _ _ 8 ([(0, .ref 0), (1, .int (nI a)), (2, .int (nI c))], [.int (zb (a < P))], XH tx (nI Z) (nI P, nI C, nI R, nI L, hs, ss, cs, gs, vs) dr rd (nI D, sm, nI N, nI K, ce, de, ke, se) i0 i1 kp dd tr m)
  refine zq_ifz .eq 20 (¬ (a < P)) (by decide +kernel) (zb_eq _) (fun c8 => absurd c8 (by omega)) (fun c8 => ?_)
  show zq_G _ _ _ _ _ 11 ([(0, .ref 0), (1, .int (nI a)), (2, .int (nI c))], [], XH tx (nI Z) (nI P, nI C, nI R, nI L, hs, ss, cs, gs, vs) dr rd (nI D, sm, nI N, nI K, ce, de, ke, se) i0 i1 kp dd tr m)
  refine zq_b [zq_il 2, zq_k 7] [zq_ilchk 2, zq_kchk 7] 14 rfl (by decide +kernel) ?_
  show zq_G _ _ _ _ _ 14 ([(0, .ref 0), (1, .int (nI a)), (2, .int (nI c))], [.int 7, .int (nI c)], XH tx (nI Z) (nI P, nI C, nI R, nI L, hs, ss, cs, gs, vs) dr rd (nI D, sm, nI N, nI K, ce, de, ke, se) i0 i1 kp dd tr m)
  refine zq_callS (av := [.int (nI c), .int 7]) (rest := []) (by decide +kernel) k11_87 (x_isBeyondN (p := c) (q := 7) (by omega) (by omega)) rfl rfl ?_
  show zq_G _ _ _ _ _ 17 ([(0, .ref 0), (1, .int (nI a)), (2, .int (nI c))], [.int (zb (7 < c))], XH tx (nI Z) (nI P, nI C, nI R, nI L, hs, ss, cs, gs, vs) dr rd (nI D, sm, nI N, nI K, ce, de, ke, se) i0 i1 kp dd tr m)
  refine zq_ifz .eq 22 (¬ (7 < c)) (by decide +kernel) (zb_eq _) (fun c17 => ?_) (fun c17 => absurd (by omega) c17)
  show zq_G _ _ _ _ _ 22 ([(0, .ref 0), (1, .int (nI a)), (2, .int (nI c))], [], XH tx (nI Z) (nI P, nI C, nI R, nI L, hs, ss, cs, gs, vs) dr rd (nI D, sm, nI N, nI K, ce, de, ke, se) i0 i1 kp dd tr m)
  refine zq_b [zq_al 0, zq_get 11 5, zq_get 5 5, zq_il 1, zq_iald a (nI (cn a))] [zq_alchk 0, zq_getchk 11 5, zq_getchk 5 5, zq_ilchk 1, zq_is .iaload 1] 31 rfl (by decide +kernel) ?_
  refine ⟨rfl, (by omega), (by omega), (hce a ha).1, ?_⟩
  show zq_G _ _ _ _ _ 31 ([(0, .ref 0), (1, .int (nI a)), (2, .int (nI c))], [.int (nI (cn a))], XH tx (nI Z) (nI P, nI C, nI R, nI L, hs, ss, cs, gs, vs) dr rd (nI D, sm, nI N, nI K, ce, de, ke, se) i0 i1 kp dd tr m)
  refine zq_callS (av := [.int (nI (cn a))]) (rest := []) (by decide +kernel) k11_150 (c_isInSquare (a := (cn a)) (by omega)) rfl rfl ?_
  show zq_G _ _ _ _ _ 34 ([(0, .ref 0), (1, .int (nI a)), (2, .int (nI c))], [.int (zb ((cn a) < 25))], XH tx (nI Z) (nI P, nI C, nI R, nI L, hs, ss, cs, gs, vs) dr rd (nI D, sm, nI N, nI K, ce, de, ke, se) i0 i1 kp dd tr m)
  refine zq_ifz .ne 40 ((cn a) < 25) (by decide +kernel) (zb_ne _) (fun c34 => absurd c34 (by omega)) (fun c34 => ?_)
  show zq_G _ _ _ _ _ 37 ([(0, .ref 0), (1, .int (nI a)), (2, .int (nI c))], [], XH tx (nI Z) (nI P, nI C, nI R, nI L, hs, ss, cs, gs, vs) dr rd (nI D, sm, nI N, nI K, ce, de, ke, se) i0 i1 kp dd tr m)
  refine zq_b [zq_k (-2)] [zq_kchk (-2)] 39 rfl (by decide +kernel) ?_
  show zq_G _ _ _ _ _ 39 ([(0, .ref 0), (1, .int (nI a)), (2, .int (nI c))], [.int (-2)], XH tx (nI Z) (nI P, nI C, nI R, nI L, hs, ss, cs, gs, vs) dr rd (nI D, sm, nI N, nI K, ce, de, ke, se) i0 i1 kp dd tr m)
  exact zq_iret (by decide +kernel) rfl rfl rfl
set_option maxHeartbeats 4000000 in
set_option maxRecDepth 100000 in
theorem x_deed_full {a : Nat} {c : Nat} (ha : a < P) (hcc : c ≤ 7) (hP : P ≤ 6) (hN : N ≤ 12) (hce : ∀ j, j < P → ce j = nI (cn j) ∧ cn j ≤ 26) (hb : cn a < 25) (hN2 : N = 12) : zq_P l mX11_deed 1 [.ref 0, .int (nI a), .int (nI c)] (XH tx (nI Z) (nI P, nI C, nI R, nI L, hs, ss, cs, gs, vs) dr rd (nI D, sm, nI N, nI K, ce, de, ke, se) i0 i1 kp dd tr m) (some (.int (-3))) (XH tx (nI Z) (nI P, nI C, nI R, nI L, hs, ss, cs, gs, vs) dr rd (nI D, sm, nI N, nI K, ce, de, ke, se) i0 i1 kp dd tr m) := by
  refine zq_start (by decide +kernel) rfl (Nat.le_of_ble_eq_true rfl) ?_
  show zq_G _ _ _ _ _ 0 ([(0, .ref 0), (1, .int (nI a)), (2, .int (nI c))], [], XH tx (nI Z) (nI P, nI C, nI R, nI L, hs, ss, cs, gs, vs) dr rd (nI D, sm, nI N, nI K, ce, de, ke, se) i0 i1 kp dd tr m)
  have hca := (hce a ha).2
  refine zq_b [zq_al 0, zq_get 11 2, zq_il 1] [zq_alchk 0, zq_getchk 11 2, zq_ilchk 1] 5 rfl (by decide +kernel) ?_
  show zq_G _ _ _ _ _ 5 ([(0, .ref 0), (1, .int (nI a)), (2, .int (nI c))], [.int (nI a), .ref 2], XH tx (nI Z) (nI P, nI C, nI R, nI L, hs, ss, cs, gs, vs) dr rd (nI D, sm, nI N, nI K, ce, de, ke, se) i0 i1 kp dd tr m)
  refine zq_callV (av := [.int (nI a)]) (rest := []) (by decide +kernel) k11_105 (x_hasPersonN (p := a) hP (by omega)) rfl rfl rfl rfl ?_
  show zq_G _ _ _ _ _ 8 ([(0, .ref 0), (1, .int (nI a)), (2, .int (nI c))], [.int (zb (a < P))], XH tx (nI Z) (nI P, nI C, nI R, nI L, hs, ss, cs, gs, vs) dr rd (nI D, sm, nI N, nI K, ce, de, ke, se) i0 i1 kp dd tr m)
  refine zq_ifz .eq 20 (¬ (a < P)) (by decide +kernel) (zb_eq _) (fun c8 => absurd c8 (by omega)) (fun c8 => ?_)
  show zq_G _ _ _ _ _ 11 ([(0, .ref 0), (1, .int (nI a)), (2, .int (nI c))], [], XH tx (nI Z) (nI P, nI C, nI R, nI L, hs, ss, cs, gs, vs) dr rd (nI D, sm, nI N, nI K, ce, de, ke, se) i0 i1 kp dd tr m)
  refine zq_b [zq_il 2, zq_k 7] [zq_ilchk 2, zq_kchk 7] 14 rfl (by decide +kernel) ?_
  show zq_G _ _ _ _ _ 14 ([(0, .ref 0), (1, .int (nI a)), (2, .int (nI c))], [.int 7, .int (nI c)], XH tx (nI Z) (nI P, nI C, nI R, nI L, hs, ss, cs, gs, vs) dr rd (nI D, sm, nI N, nI K, ce, de, ke, se) i0 i1 kp dd tr m)
  refine zq_callS (av := [.int (nI c), .int 7]) (rest := []) (by decide +kernel) k11_87 (x_isBeyondN (p := c) (q := 7) (by omega) (by omega)) rfl rfl ?_
  show zq_G _ _ _ _ _ 17 ([(0, .ref 0), (1, .int (nI a)), (2, .int (nI c))], [.int (zb (7 < c))], XH tx (nI Z) (nI P, nI C, nI R, nI L, hs, ss, cs, gs, vs) dr rd (nI D, sm, nI N, nI K, ce, de, ke, se) i0 i1 kp dd tr m)
  refine zq_ifz .eq 22 (¬ (7 < c)) (by decide +kernel) (zb_eq _) (fun c17 => ?_) (fun c17 => absurd (by omega) c17)
  show zq_G _ _ _ _ _ 22 ([(0, .ref 0), (1, .int (nI a)), (2, .int (nI c))], [], XH tx (nI Z) (nI P, nI C, nI R, nI L, hs, ss, cs, gs, vs) dr rd (nI D, sm, nI N, nI K, ce, de, ke, se) i0 i1 kp dd tr m)
  refine zq_b [zq_al 0, zq_get 11 5, zq_get 5 5, zq_il 1, zq_iald a (nI (cn a))] [zq_alchk 0, zq_getchk 11 5, zq_getchk 5 5, zq_ilchk 1, zq_is .iaload 1] 31 rfl (by decide +kernel) ?_
  refine ⟨rfl, (by omega), (by omega), (hce a ha).1, ?_⟩
  show zq_G _ _ _ _ _ 31 ([(0, .ref 0), (1, .int (nI a)), (2, .int (nI c))], [.int (nI (cn a))], XH tx (nI Z) (nI P, nI C, nI R, nI L, hs, ss, cs, gs, vs) dr rd (nI D, sm, nI N, nI K, ce, de, ke, se) i0 i1 kp dd tr m)
  refine zq_callS (av := [.int (nI (cn a))]) (rest := []) (by decide +kernel) k11_150 (c_isInSquare (a := (cn a)) (by omega)) rfl rfl ?_
  show zq_G _ _ _ _ _ 34 ([(0, .ref 0), (1, .int (nI a)), (2, .int (nI c))], [.int (zb ((cn a) < 25))], XH tx (nI Z) (nI P, nI C, nI R, nI L, hs, ss, cs, gs, vs) dr rd (nI D, sm, nI N, nI K, ce, de, ke, se) i0 i1 kp dd tr m)
  refine zq_ifz .ne 40 ((cn a) < 25) (by decide +kernel) (zb_ne _) (fun c34 => ?_) (fun c34 => absurd (by omega) c34)
  show zq_G _ _ _ _ _ 40 ([(0, .ref 0), (1, .int (nI a)), (2, .int (nI c))], [], XH tx (nI Z) (nI P, nI C, nI R, nI L, hs, ss, cs, gs, vs) dr rd (nI D, sm, nI N, nI K, ce, de, ke, se) i0 i1 kp dd tr m)
  refine zq_b [zq_al 0, zq_get 11 5, zq_get 5 3, zq_k 12] [zq_alchk 0, zq_getchk 11 5, zq_getchk 5 3, zq_kchk 12] 49 rfl (by decide +kernel) ?_
  show zq_G _ _ _ _ _ 49 ([(0, .ref 0), (1, .int (nI a)), (2, .int (nI c))], [.int 12, .int (nI N)], XH tx (nI Z) (nI P, nI C, nI R, nI L, hs, ss, cs, gs, vs) dr rd (nI D, sm, nI N, nI K, ce, de, ke, se) i0 i1 kp dd tr m)
  refine zq_if .lt 55 (N < 12) (by decide +kernel) (zq_clt (a := N) (b := 12) (by omega) (by omega)) (fun c49 => absurd c49 (by omega)) (fun c49 => ?_)
  show zq_G _ _ _ _ _ 52 ([(0, .ref 0), (1, .int (nI a)), (2, .int (nI c))], [], XH tx (nI Z) (nI P, nI C, nI R, nI L, hs, ss, cs, gs, vs) dr rd (nI D, sm, nI N, nI K, ce, de, ke, se) i0 i1 kp dd tr m)
  refine zq_b [zq_k (-3)] [zq_kchk (-3)] 54 rfl (by decide +kernel) ?_
  show zq_G _ _ _ _ _ 54 ([(0, .ref 0), (1, .int (nI a)), (2, .int (nI c))], [.int (-3)], XH tx (nI Z) (nI P, nI C, nI R, nI L, hs, ss, cs, gs, vs) dr rd (nI D, sm, nI N, nI K, ce, de, ke, se) i0 i1 kp dd tr m)
  exact zq_iret (by decide +kernel) rfl rfl rfl
set_option maxHeartbeats 4000000 in
set_option maxRecDepth 100000 in
theorem x_deed {a : Nat} {c : Nat} (ha : a < P) (hcc : c ≤ 7) (hP : P ≤ 6) (hC : C ≤ 8) (hK : K ≤ 10) (hce : ∀ j, j < P → ce j = nI (cn j) ∧ cn j ≤ 26) (hb : cn a < 25) (hN2 : N < 12) : zq_P l mX11_deed 7 [.ref 0, .int (nI a), .int (nI c)] (XH tx (nI Z) (nI P, nI C, nI R, nI L, hs, ss, cs, gs, vs) dr rd (nI D, sm, nI N, nI K, ce, de, ke, se) i0 i1 kp dd tr m) (some (.int (zbit (zseen C cs D P hs sm cn) (nI a)))) (XH tx (nI Z) (nI P, nI C, nI R, nI L, hs, ss, cs, gs, vs) dr rd (nI D, sm, nI (N + 1), nI (zk9 K + 1), ce, zde N de (nI a) (nI c) (nI D) (ce a) (zbit (zseen C cs D P hs sm cn) (nI a)), ke, zse K se 2 (nI a) (nI N)) i0 i1 kp dd tr m) := by
  refine zq_start (by decide +kernel) rfl (Nat.le_of_ble_eq_true rfl) ?_
  show zq_G _ _ _ _ _ 0 ([(0, .ref 0), (1, .int (nI a)), (2, .int (nI c))], [], XH tx (nI Z) (nI P, nI C, nI R, nI L, hs, ss, cs, gs, vs) dr rd (nI D, sm, nI N, nI K, ce, de, ke, se) i0 i1 kp dd tr m)
  have hca := (hce a ha).2
  refine zq_b [zq_al 0, zq_get 11 2, zq_il 1] [zq_alchk 0, zq_getchk 11 2, zq_ilchk 1] 5 rfl (by decide +kernel) ?_
  show zq_G _ _ _ _ _ 5 ([(0, .ref 0), (1, .int (nI a)), (2, .int (nI c))], [.int (nI a), .ref 2], XH tx (nI Z) (nI P, nI C, nI R, nI L, hs, ss, cs, gs, vs) dr rd (nI D, sm, nI N, nI K, ce, de, ke, se) i0 i1 kp dd tr m)
  refine zq_callV (av := [.int (nI a)]) (rest := []) (by decide +kernel) k11_105 (x_hasPersonN (p := a) hP (by omega)) rfl rfl rfl rfl ?_
  show zq_G _ _ _ _ _ 8 ([(0, .ref 0), (1, .int (nI a)), (2, .int (nI c))], [.int (zb (a < P))], XH tx (nI Z) (nI P, nI C, nI R, nI L, hs, ss, cs, gs, vs) dr rd (nI D, sm, nI N, nI K, ce, de, ke, se) i0 i1 kp dd tr m)
  refine zq_ifz .eq 20 (¬ (a < P)) (by decide +kernel) (zb_eq _) (fun c8 => absurd c8 (by omega)) (fun c8 => ?_)
  show zq_G _ _ _ _ _ 11 ([(0, .ref 0), (1, .int (nI a)), (2, .int (nI c))], [], XH tx (nI Z) (nI P, nI C, nI R, nI L, hs, ss, cs, gs, vs) dr rd (nI D, sm, nI N, nI K, ce, de, ke, se) i0 i1 kp dd tr m)
  refine zq_b [zq_il 2, zq_k 7] [zq_ilchk 2, zq_kchk 7] 14 rfl (by decide +kernel) ?_
  show zq_G _ _ _ _ _ 14 ([(0, .ref 0), (1, .int (nI a)), (2, .int (nI c))], [.int 7, .int (nI c)], XH tx (nI Z) (nI P, nI C, nI R, nI L, hs, ss, cs, gs, vs) dr rd (nI D, sm, nI N, nI K, ce, de, ke, se) i0 i1 kp dd tr m)
  refine zq_callS (av := [.int (nI c), .int 7]) (rest := []) (by decide +kernel) k11_87 (x_isBeyondN (p := c) (q := 7) (by omega) (by omega)) rfl rfl ?_
  show zq_G _ _ _ _ _ 17 ([(0, .ref 0), (1, .int (nI a)), (2, .int (nI c))], [.int (zb (7 < c))], XH tx (nI Z) (nI P, nI C, nI R, nI L, hs, ss, cs, gs, vs) dr rd (nI D, sm, nI N, nI K, ce, de, ke, se) i0 i1 kp dd tr m)
  refine zq_ifz .eq 22 (¬ (7 < c)) (by decide +kernel) (zb_eq _) (fun c17 => ?_) (fun c17 => absurd (by omega) c17)
  show zq_G _ _ _ _ _ 22 ([(0, .ref 0), (1, .int (nI a)), (2, .int (nI c))], [], XH tx (nI Z) (nI P, nI C, nI R, nI L, hs, ss, cs, gs, vs) dr rd (nI D, sm, nI N, nI K, ce, de, ke, se) i0 i1 kp dd tr m)
  refine zq_b [zq_al 0, zq_get 11 5, zq_get 5 5, zq_il 1, zq_iald a (nI (cn a))] [zq_alchk 0, zq_getchk 11 5, zq_getchk 5 5, zq_ilchk 1, zq_is .iaload 1] 31 rfl (by decide +kernel) ?_
  refine ⟨rfl, (by omega), (by omega), (hce a ha).1, ?_⟩
  show zq_G _ _ _ _ _ 31 ([(0, .ref 0), (1, .int (nI a)), (2, .int (nI c))], [.int (nI (cn a))], XH tx (nI Z) (nI P, nI C, nI R, nI L, hs, ss, cs, gs, vs) dr rd (nI D, sm, nI N, nI K, ce, de, ke, se) i0 i1 kp dd tr m)
  refine zq_callS (av := [.int (nI (cn a))]) (rest := []) (by decide +kernel) k11_150 (c_isInSquare (a := (cn a)) (by omega)) rfl rfl ?_
  show zq_G _ _ _ _ _ 34 ([(0, .ref 0), (1, .int (nI a)), (2, .int (nI c))], [.int (zb ((cn a) < 25))], XH tx (nI Z) (nI P, nI C, nI R, nI L, hs, ss, cs, gs, vs) dr rd (nI D, sm, nI N, nI K, ce, de, ke, se) i0 i1 kp dd tr m)
  refine zq_ifz .ne 40 ((cn a) < 25) (by decide +kernel) (zb_ne _) (fun c34 => ?_) (fun c34 => absurd (by omega) c34)
  show zq_G _ _ _ _ _ 40 ([(0, .ref 0), (1, .int (nI a)), (2, .int (nI c))], [], XH tx (nI Z) (nI P, nI C, nI R, nI L, hs, ss, cs, gs, vs) dr rd (nI D, sm, nI N, nI K, ce, de, ke, se) i0 i1 kp dd tr m)
  refine zq_b [zq_al 0, zq_get 11 5, zq_get 5 3, zq_k 12] [zq_alchk 0, zq_getchk 11 5, zq_getchk 5 3, zq_kchk 12] 49 rfl (by decide +kernel) ?_
  show zq_G _ _ _ _ _ 49 ([(0, .ref 0), (1, .int (nI a)), (2, .int (nI c))], [.int 12, .int (nI N)], XH tx (nI Z) (nI P, nI C, nI R, nI L, hs, ss, cs, gs, vs) dr rd (nI D, sm, nI N, nI K, ce, de, ke, se) i0 i1 kp dd tr m)
  refine zq_if .lt 55 (N < 12) (by decide +kernel) (zq_clt (a := N) (b := 12) (by omega) (by omega)) (fun c49 => ?_) (fun c49 => absurd (by omega) c49)
  show zq_G _ _ _ _ _ 55 ([(0, .ref 0), (1, .int (nI a)), (2, .int (nI c))], [], XH tx (nI Z) (nI P, nI C, nI R, nI L, hs, ss, cs, gs, vs) dr rd (nI D, sm, nI N, nI K, ce, de, ke, se) i0 i1 kp dd tr m)
  refine zq_b [zq_al 0, zq_get 11 5, zq_il 1, zq_il 2] [zq_alchk 0, zq_getchk 11 5, zq_ilchk 1, zq_ilchk 2] 61 rfl (by decide +kernel) ?_
  show zq_G _ _ _ _ _ 61 ([(0, .ref 0), (1, .int (nI a)), (2, .int (nI c))], [.int (nI c), .int (nI a), .ref 15], XH tx (nI Z) (nI P, nI C, nI R, nI L, hs, ss, cs, gs, vs) dr rd (nI D, sm, nI N, nI K, ce, de, ke, se) i0 i1 kp dd tr m)
  refine zq_callV (av := [.int (nI a), .int (nI c)]) (rest := []) (by decide +kernel) k11_156 (c_act (p := a) (x := (nI c)) (by omega) (by omega) hP hC hK hce) rfl rfl rfl rfl ?_
  show zq_G _ _ _ _ _ 64 ([(0, .ref 0), (1, .int (nI a)), (2, .int (nI c))], [.int (zbit (zseen C cs D P hs sm cn) (nI a))], XH tx (nI Z) (nI P, nI C, nI R, nI L, hs, ss, cs, gs, vs) dr rd (nI D, sm, nI (N + 1), nI (zk9 K + 1), ce, zde N de (nI a) (nI c) (nI D) (ce a) (zbit (zseen C cs D P hs sm cn) (nI a)), ke, zse K se 2 (nI a) (nI N)) i0 i1 kp dd tr m)
  exact zq_iret (by decide +kernel) rfl rfl rfl
set_option maxHeartbeats 4000000 in
set_option maxRecDepth 100000 in
theorem x_day_st  (hD2 : D = 99) : zq_P l mX11_day 0 [.ref 0] (XH tx (nI Z) (nI P, nI C, nI R, nI L, hs, ss, cs, gs, vs) dr rd (nI D, sm, nI N, nI K, ce, de, ke, se) i0 i1 kp dd tr m) (some (.int (-2))) (XH tx (nI Z) (nI P, nI C, nI R, nI L, hs, ss, cs, gs, vs) dr rd (nI D, sm, nI N, nI K, ce, de, ke, se) i0 i1 kp dd tr m) := by
  refine zq_start (by decide +kernel) rfl (Nat.le_of_ble_eq_true rfl) ?_
  show zq_G _ _ _ _ _ 0 ([(0, .ref 0)], [], XH tx (nI Z) (nI P, nI C, nI R, nI L, hs, ss, cs, gs, vs) dr rd (nI D, sm, nI N, nI K, ce, de, ke, se) i0 i1 kp dd tr m)
  refine zq_b [zq_al 0, zq_get 11 5, zq_get 5 1, zq_k 99] [zq_alchk 0, zq_getchk 11 5, zq_getchk 5 1, zq_kchk 99] 9 rfl (by decide +kernel) ?_
  show zq_G _ _ _ _ _ 9 ([(0, .ref 0)], [.int 99, .int (nI D)], XH tx (nI Z) (nI P, nI C, nI R, nI L, hs, ss, cs, gs, vs) dr rd (nI D, sm, nI N, nI K, ce, de, ke, se) i0 i1 kp dd tr m)
  refine zq_if .lt 15 (D < 99) (by decide +kernel) (zq_clt (a := D) (b := 99) (by omega) (by omega)) (fun c9 => absurd c9 (by omega)) (fun c9 => ?_)
  show zq_G _ _ _ _ _ 12 ([(0, .ref 0)], [], XH tx (nI Z) (nI P, nI C, nI R, nI L, hs, ss, cs, gs, vs) dr rd (nI D, sm, nI N, nI K, ce, de, ke, se) i0 i1 kp dd tr m)
  refine zq_b [zq_k (-2)] [zq_kchk (-2)] 14 rfl (by decide +kernel) ?_
  show zq_G _ _ _ _ _ 14 ([(0, .ref 0)], [.int (-2)], XH tx (nI Z) (nI P, nI C, nI R, nI L, hs, ss, cs, gs, vs) dr rd (nI D, sm, nI N, nI K, ce, de, ke, se) i0 i1 kp dd tr m)
  exact zq_iret (by decide +kernel) rfl rfl rfl
set_option maxHeartbeats 4000000 in
set_option maxRecDepth 100000 in
theorem x_day  (hD2 : D < 99) (hP : P ≤ 6) (hC : C ≤ 8) (hK : K ≤ 10) (hce : ∀ j, j < P → ce j = nI (cn j) ∧ cn j ≤ 26) : zq_P l mX11_day 7 [.ref 0] (XH tx (nI Z) (nI P, nI C, nI R, nI L, hs, ss, cs, gs, vs) dr rd (nI D, sm, nI N, nI K, ce, de, ke, se) i0 i1 kp dd tr m) (some (.int (nI (D + 1)))) (XH tx (nI Z) (nI P, nI C, nI R, nI L, hs, ss, cs, gs, vs) dr rd (nI (D + 1), 0, nI N, nI (zk9 K + 1), ce, de, upd ke D (zseen C cs D P hs sm cn), zse K se 3 (-1) sm) i0 i1 kp dd tr m) := by
  refine zq_start (by decide +kernel) rfl (Nat.le_of_ble_eq_true rfl) ?_
  show zq_G _ _ _ _ _ 0 ([(0, .ref 0)], [], XH tx (nI Z) (nI P, nI C, nI R, nI L, hs, ss, cs, gs, vs) dr rd (nI D, sm, nI N, nI K, ce, de, ke, se) i0 i1 kp dd tr m)
  refine zq_b [zq_al 0, zq_get 11 5, zq_get 5 1, zq_k 99] [zq_alchk 0, zq_getchk 11 5, zq_getchk 5 1, zq_kchk 99] 9 rfl (by decide +kernel) ?_
  show zq_G _ _ _ _ _ 9 ([(0, .ref 0)], [.int 99, .int (nI D)], XH tx (nI Z) (nI P, nI C, nI R, nI L, hs, ss, cs, gs, vs) dr rd (nI D, sm, nI N, nI K, ce, de, ke, se) i0 i1 kp dd tr m)
  refine zq_if .lt 15 (D < 99) (by decide +kernel) (zq_clt (a := D) (b := 99) (by omega) (by omega)) (fun c9 => ?_) (fun c9 => absurd (by omega) c9)
  show zq_G _ _ _ _ _ 15 ([(0, .ref 0)], [], XH tx (nI Z) (nI P, nI C, nI R, nI L, hs, ss, cs, gs, vs) dr rd (nI D, sm, nI N, nI K, ce, de, ke, se) i0 i1 kp dd tr m)
  refine zq_b [zq_al 0, zq_get 11 5] [zq_alchk 0, zq_getchk 11 5] 19 rfl (by decide +kernel) ?_
  show zq_G _ _ _ _ _ 19 ([(0, .ref 0)], [.ref 15], XH tx (nI Z) (nI P, nI C, nI R, nI L, hs, ss, cs, gs, vs) dr rd (nI D, sm, nI N, nI K, ce, de, ke, se) i0 i1 kp dd tr m)
  refine zq_callV (av := []) (rest := []) (by decide +kernel) k11_159 (c_passDay (by omega) hP hC hK hce) rfl rfl rfl rfl ?_
  show zq_G _ _ _ _ _ 22 ([(0, .ref 0)], [], XH tx (nI Z) (nI P, nI C, nI R, nI L, hs, ss, cs, gs, vs) dr rd (nI (D + 1), 0, nI N, nI (zk9 K + 1), ce, de, upd ke D (zseen C cs D P hs sm cn), zse K se 3 (-1) sm) i0 i1 kp dd tr m)
  refine zq_b [zq_al 0, zq_get 11 5, zq_get 5 1] [zq_alchk 0, zq_getchk 11 5, zq_getchk 5 1] 29 rfl (by decide +kernel) ?_
  show zq_G _ _ _ _ _ 29 ([(0, .ref 0)], [.int (nI (D + 1))], XH tx (nI Z) (nI P, nI C, nI R, nI L, hs, ss, cs, gs, vs) dr rd (nI (D + 1), 0, nI N, nI (zk9 K + 1), ce, de, upd ke D (zseen C cs D P hs sm cn), zse K se 3 (-1) sm) i0 i1 kp dd tr m)
  exact zq_iret (by decide +kernel) rfl rfl rfl
set_option maxHeartbeats 4000000 in
set_option maxRecDepth 100000 in
theorem x_undo_st  (hK0 : K = 0) : zq_P l mX11_undo 0 [.ref 0] (XH tx (nI Z) (nI P, nI C, nI R, nI L, hs, ss, cs, gs, vs) dr rd (nI D, sm, nI N, nI K, ce, de, ke, se) i0 i1 kp dd tr m) (some (.int (-2))) (XH tx (nI Z) (nI P, nI C, nI R, nI L, hs, ss, cs, gs, vs) dr rd (nI D, sm, nI N, nI K, ce, de, ke, se) i0 i1 kp dd tr m) := by
  refine zq_start (by decide +kernel) rfl (Nat.le_of_ble_eq_true rfl) ?_
  show zq_G _ _ _ _ _ 0 ([(0, .ref 0)], [], XH tx (nI Z) (nI P, nI C, nI R, nI L, hs, ss, cs, gs, vs) dr rd (nI D, sm, nI N, nI K, ce, de, ke, se) i0 i1 kp dd tr m)
  refine zq_b [zq_al 0, zq_get 11 5, zq_get 5 4] [zq_alchk 0, zq_getchk 11 5, zq_getchk 5 4] 7 rfl (by decide +kernel) ?_
  show zq_G _ _ _ _ _ 7 ([(0, .ref 0)], [.int (nI K)], XH tx (nI Z) (nI P, nI C, nI R, nI L, hs, ss, cs, gs, vs) dr rd (nI D, sm, nI N, nI K, ce, de, ke, se) i0 i1 kp dd tr m)
  refine zq_ifz .gt 13 (0 < K) (by decide +kernel) (zq_cgt (a := K) (b := 0) (by omega) (by omega)) (fun c7 => absurd c7 (by omega)) (fun c7 => ?_)
  show zq_G _ _ _ _ _ 10 ([(0, .ref 0)], [], XH tx (nI Z) (nI P, nI C, nI R, nI L, hs, ss, cs, gs, vs) dr rd (nI D, sm, nI N, nI K, ce, de, ke, se) i0 i1 kp dd tr m)
  refine zq_b [zq_k (-2)] [zq_kchk (-2)] 12 rfl (by decide +kernel) ?_
  show zq_G _ _ _ _ _ 12 ([(0, .ref 0)], [.int (-2)], XH tx (nI Z) (nI P, nI C, nI R, nI L, hs, ss, cs, gs, vs) dr rd (nI D, sm, nI N, nI K, ce, de, ke, se) i0 i1 kp dd tr m)
  exact zq_iret (by decide +kernel) rfl rfl rfl
set_option maxHeartbeats 4000000 in
set_option maxRecDepth 100000 in
theorem x_undo_0 {q : Nat} (hK1 : 1 ≤ K) (hK : K ≤ 10) (hx : se ((K - 1) * 3) = 0) (hq : se ((K - 1) * 3 + 1) = nI q) (hq6 : q < 6) : zq_P l mX11_undo 1 [.ref 0] (XH tx (nI Z) (nI P, nI C, nI R, nI L, hs, ss, cs, gs, vs) dr rd (nI D, sm, nI N, nI K, ce, de, ke, se) i0 i1 kp dd tr m) (some (.int (nI (K - 1)))) (XH tx (nI Z) (nI P, nI C, nI R, nI L, hs, ss, cs, gs, vs) dr rd (nI D, sm, nI N, nI (K - 1), upd ce q (se ((K - 1) * 3 + 2)), de, ke, se) i0 i1 kp dd tr m) := by
  refine zq_start (by decide +kernel) rfl (Nat.le_of_ble_eq_true rfl) ?_
  show zq_G _ _ _ _ _ 0 ([(0, .ref 0)], [], XH tx (nI Z) (nI P, nI C, nI R, nI L, hs, ss, cs, gs, vs) dr rd (nI D, sm, nI N, nI K, ce, de, ke, se) i0 i1 kp dd tr m)
  refine zq_b [zq_al 0, zq_get 11 5, zq_get 5 4] [zq_alchk 0, zq_getchk 11 5, zq_getchk 5 4] 7 rfl (by decide +kernel) ?_
  show zq_G _ _ _ _ _ 7 ([(0, .ref 0)], [.int (nI K)], XH tx (nI Z) (nI P, nI C, nI R, nI L, hs, ss, cs, gs, vs) dr rd (nI D, sm, nI N, nI K, ce, de, ke, se) i0 i1 kp dd tr m)
  refine zq_ifz .gt 13 (0 < K) (by decide +kernel) (zq_cgt (a := K) (b := 0) (by omega) (by omega)) (fun c7 => ?_) (fun c7 => absurd (by omega) c7)
  show zq_G _ _ _ _ _ 13 ([(0, .ref 0)], [], XH tx (nI Z) (nI P, nI C, nI R, nI L, hs, ss, cs, gs, vs) dr rd (nI D, sm, nI N, nI K, ce, de, ke, se) i0 i1 kp dd tr m)
  refine zq_b [zq_al 0, zq_get 11 5] [zq_alchk 0, zq_getchk 11 5] 17 rfl (by decide +kernel) ?_
  show zq_G _ _ _ _ _ 17 ([(0, .ref 0)], [.ref 15], XH tx (nI Z) (nI P, nI C, nI R, nI L, hs, ss, cs, gs, vs) dr rd (nI D, sm, nI N, nI K, ce, de, ke, se) i0 i1 kp dd tr m)
  refine zq_callV (av := []) (rest := []) (by decide +kernel) k11_165 (c_takeBack_0 (q := _) (by omega) hK hx hq hq6) rfl rfl rfl rfl ?_
  show zq_G _ _ _ _ _ 20 ([(0, .ref 0)], [], XH tx (nI Z) (nI P, nI C, nI R, nI L, hs, ss, cs, gs, vs) dr rd (nI D, sm, nI N, nI (K - 1), upd ce q (se ((K - 1) * 3 + 2)), de, ke, se) i0 i1 kp dd tr m)
  refine zq_b [zq_al 0, zq_get 11 5, zq_get 5 4] [zq_alchk 0, zq_getchk 11 5, zq_getchk 5 4] 27 rfl (by decide +kernel) ?_
  show zq_G _ _ _ _ _ 27 ([(0, .ref 0)], [.int (nI (K - 1))], XH tx (nI Z) (nI P, nI C, nI R, nI L, hs, ss, cs, gs, vs) dr rd (nI D, sm, nI N, nI (K - 1), upd ce q (se ((K - 1) * 3 + 2)), de, ke, se) i0 i1 kp dd tr m)
  exact zq_iret (by decide +kernel) rfl rfl rfl
set_option maxHeartbeats 4000000 in
set_option maxRecDepth 100000 in
theorem x_undo_1  (hK1 : 1 ≤ K) (hK : K ≤ 10) (hx : se ((K - 1) * 3) = 1) : zq_P l mX11_undo 1 [.ref 0] (XH tx (nI Z) (nI P, nI C, nI R, nI L, hs, ss, cs, gs, vs) dr rd (nI D, sm, nI N, nI K, ce, de, ke, se) i0 i1 kp dd tr m) (some (.int (nI (K - 1)))) (XH tx (nI Z) (nI P, nI C, nI R, nI L, hs, ss, cs, gs, vs) dr rd (nI D, se ((K - 1) * 3 + 2), nI N, nI (K - 1), ce, de, ke, se) i0 i1 kp dd tr m) := by
  refine zq_start (by decide +kernel) rfl (Nat.le_of_ble_eq_true rfl) ?_
  show zq_G _ _ _ _ _ 0 ([(0, .ref 0)], [], XH tx (nI Z) (nI P, nI C, nI R, nI L, hs, ss, cs, gs, vs) dr rd (nI D, sm, nI N, nI K, ce, de, ke, se) i0 i1 kp dd tr m)
  refine zq_b [zq_al 0, zq_get 11 5, zq_get 5 4] [zq_alchk 0, zq_getchk 11 5, zq_getchk 5 4] 7 rfl (by decide +kernel) ?_
  show zq_G _ _ _ _ _ 7 ([(0, .ref 0)], [.int (nI K)], XH tx (nI Z) (nI P, nI C, nI R, nI L, hs, ss, cs, gs, vs) dr rd (nI D, sm, nI N, nI K, ce, de, ke, se) i0 i1 kp dd tr m)
  refine zq_ifz .gt 13 (0 < K) (by decide +kernel) (zq_cgt (a := K) (b := 0) (by omega) (by omega)) (fun c7 => ?_) (fun c7 => absurd (by omega) c7)
  show zq_G _ _ _ _ _ 13 ([(0, .ref 0)], [], XH tx (nI Z) (nI P, nI C, nI R, nI L, hs, ss, cs, gs, vs) dr rd (nI D, sm, nI N, nI K, ce, de, ke, se) i0 i1 kp dd tr m)
  refine zq_b [zq_al 0, zq_get 11 5] [zq_alchk 0, zq_getchk 11 5] 17 rfl (by decide +kernel) ?_
  show zq_G _ _ _ _ _ 17 ([(0, .ref 0)], [.ref 15], XH tx (nI Z) (nI P, nI C, nI R, nI L, hs, ss, cs, gs, vs) dr rd (nI D, sm, nI N, nI K, ce, de, ke, se) i0 i1 kp dd tr m)
  refine zq_callV (av := []) (rest := []) (by decide +kernel) k11_165 (c_takeBack_1 (by omega) hK hx) rfl rfl rfl rfl ?_
  show zq_G _ _ _ _ _ 20 ([(0, .ref 0)], [], XH tx (nI Z) (nI P, nI C, nI R, nI L, hs, ss, cs, gs, vs) dr rd (nI D, se ((K - 1) * 3 + 2), nI N, nI (K - 1), ce, de, ke, se) i0 i1 kp dd tr m)
  refine zq_b [zq_al 0, zq_get 11 5, zq_get 5 4] [zq_alchk 0, zq_getchk 11 5, zq_getchk 5 4] 27 rfl (by decide +kernel) ?_
  show zq_G _ _ _ _ _ 27 ([(0, .ref 0)], [.int (nI (K - 1))], XH tx (nI Z) (nI P, nI C, nI R, nI L, hs, ss, cs, gs, vs) dr rd (nI D, se ((K - 1) * 3 + 2), nI N, nI (K - 1), ce, de, ke, se) i0 i1 kp dd tr m)
  exact zq_iret (by decide +kernel) rfl rfl rfl
set_option maxHeartbeats 4000000 in
set_option maxRecDepth 100000 in
theorem x_undo_2 {q : Nat} (hK1 : 1 ≤ K) (hK : K ≤ 10) (hx : se ((K - 1) * 3) = 2) (hq : se ((K - 1) * 3 + 2) = nI q) : zq_P l mX11_undo 1 [.ref 0] (XH tx (nI Z) (nI P, nI C, nI R, nI L, hs, ss, cs, gs, vs) dr rd (nI D, sm, nI N, nI K, ce, de, ke, se) i0 i1 kp dd tr m) (some (.int (nI (K - 1)))) (XH tx (nI Z) (nI P, nI C, nI R, nI L, hs, ss, cs, gs, vs) dr rd (nI D, sm, nI q, nI (K - 1), ce, de, ke, se) i0 i1 kp dd tr m) := by
  refine zq_start (by decide +kernel) rfl (Nat.le_of_ble_eq_true rfl) ?_
  show zq_G _ _ _ _ _ 0 ([(0, .ref 0)], [], XH tx (nI Z) (nI P, nI C, nI R, nI L, hs, ss, cs, gs, vs) dr rd (nI D, sm, nI N, nI K, ce, de, ke, se) i0 i1 kp dd tr m)
  refine zq_b [zq_al 0, zq_get 11 5, zq_get 5 4] [zq_alchk 0, zq_getchk 11 5, zq_getchk 5 4] 7 rfl (by decide +kernel) ?_
  show zq_G _ _ _ _ _ 7 ([(0, .ref 0)], [.int (nI K)], XH tx (nI Z) (nI P, nI C, nI R, nI L, hs, ss, cs, gs, vs) dr rd (nI D, sm, nI N, nI K, ce, de, ke, se) i0 i1 kp dd tr m)
  refine zq_ifz .gt 13 (0 < K) (by decide +kernel) (zq_cgt (a := K) (b := 0) (by omega) (by omega)) (fun c7 => ?_) (fun c7 => absurd (by omega) c7)
  show zq_G _ _ _ _ _ 13 ([(0, .ref 0)], [], XH tx (nI Z) (nI P, nI C, nI R, nI L, hs, ss, cs, gs, vs) dr rd (nI D, sm, nI N, nI K, ce, de, ke, se) i0 i1 kp dd tr m)
  refine zq_b [zq_al 0, zq_get 11 5] [zq_alchk 0, zq_getchk 11 5] 17 rfl (by decide +kernel) ?_
  show zq_G _ _ _ _ _ 17 ([(0, .ref 0)], [.ref 15], XH tx (nI Z) (nI P, nI C, nI R, nI L, hs, ss, cs, gs, vs) dr rd (nI D, sm, nI N, nI K, ce, de, ke, se) i0 i1 kp dd tr m)
  refine zq_callV (av := []) (rest := []) (by decide +kernel) k11_165 (c_takeBack_2 (q := _) (by omega) hK hx hq) rfl rfl rfl rfl ?_
  show zq_G _ _ _ _ _ 20 ([(0, .ref 0)], [], XH tx (nI Z) (nI P, nI C, nI R, nI L, hs, ss, cs, gs, vs) dr rd (nI D, sm, nI q, nI (K - 1), ce, de, ke, se) i0 i1 kp dd tr m)
  refine zq_b [zq_al 0, zq_get 11 5, zq_get 5 4] [zq_alchk 0, zq_getchk 11 5, zq_getchk 5 4] 27 rfl (by decide +kernel) ?_
  show zq_G _ _ _ _ _ 27 ([(0, .ref 0)], [.int (nI (K - 1))], XH tx (nI Z) (nI P, nI C, nI R, nI L, hs, ss, cs, gs, vs) dr rd (nI D, sm, nI q, nI (K - 1), ce, de, ke, se) i0 i1 kp dd tr m)
  exact zq_iret (by decide +kernel) rfl rfl rfl
set_option maxHeartbeats 4000000 in
set_option maxRecDepth 100000 in
theorem x_undo_3  (hK1 : 1 ≤ K) (hK : K ≤ 10) (hx : se ((K - 1) * 3) = 3) (hD1 : 1 ≤ D) : zq_P l mX11_undo 1 [.ref 0] (XH tx (nI Z) (nI P, nI C, nI R, nI L, hs, ss, cs, gs, vs) dr rd (nI D, sm, nI N, nI K, ce, de, ke, se) i0 i1 kp dd tr m) (some (.int (nI (K - 1)))) (XH tx (nI Z) (nI P, nI C, nI R, nI L, hs, ss, cs, gs, vs) dr rd (nI (D - 1), se ((K - 1) * 3 + 2), nI N, nI (K - 1), ce, de, ke, se) i0 i1 kp dd tr m) := by
  refine zq_start (by decide +kernel) rfl (Nat.le_of_ble_eq_true rfl) ?_
  show zq_G _ _ _ _ _ 0 ([(0, .ref 0)], [], XH tx (nI Z) (nI P, nI C, nI R, nI L, hs, ss, cs, gs, vs) dr rd (nI D, sm, nI N, nI K, ce, de, ke, se) i0 i1 kp dd tr m)
  refine zq_b [zq_al 0, zq_get 11 5, zq_get 5 4] [zq_alchk 0, zq_getchk 11 5, zq_getchk 5 4] 7 rfl (by decide +kernel) ?_
  show zq_G _ _ _ _ _ 7 ([(0, .ref 0)], [.int (nI K)], XH tx (nI Z) (nI P, nI C, nI R, nI L, hs, ss, cs, gs, vs) dr rd (nI D, sm, nI N, nI K, ce, de, ke, se) i0 i1 kp dd tr m)
  refine zq_ifz .gt 13 (0 < K) (by decide +kernel) (zq_cgt (a := K) (b := 0) (by omega) (by omega)) (fun c7 => ?_) (fun c7 => absurd (by omega) c7)
  show zq_G _ _ _ _ _ 13 ([(0, .ref 0)], [], XH tx (nI Z) (nI P, nI C, nI R, nI L, hs, ss, cs, gs, vs) dr rd (nI D, sm, nI N, nI K, ce, de, ke, se) i0 i1 kp dd tr m)
  refine zq_b [zq_al 0, zq_get 11 5] [zq_alchk 0, zq_getchk 11 5] 17 rfl (by decide +kernel) ?_
  show zq_G _ _ _ _ _ 17 ([(0, .ref 0)], [.ref 15], XH tx (nI Z) (nI P, nI C, nI R, nI L, hs, ss, cs, gs, vs) dr rd (nI D, sm, nI N, nI K, ce, de, ke, se) i0 i1 kp dd tr m)
  refine zq_callV (av := []) (rest := []) (by decide +kernel) k11_165 (c_takeBack_3 (by omega) hK hx (by omega)) rfl rfl rfl rfl ?_
  show zq_G _ _ _ _ _ 20 ([(0, .ref 0)], [], XH tx (nI Z) (nI P, nI C, nI R, nI L, hs, ss, cs, gs, vs) dr rd (nI (D - 1), se ((K - 1) * 3 + 2), nI N, nI (K - 1), ce, de, ke, se) i0 i1 kp dd tr m)
  refine zq_b [zq_al 0, zq_get 11 5, zq_get 5 4] [zq_alchk 0, zq_getchk 11 5, zq_getchk 5 4] 27 rfl (by decide +kernel) ?_
  show zq_G _ _ _ _ _ 27 ([(0, .ref 0)], [.int (nI (K - 1))], XH tx (nI Z) (nI P, nI C, nI R, nI L, hs, ss, cs, gs, vs) dr rd (nI (D - 1), se ((K - 1) * 3 + 2), nI N, nI (K - 1), ce, de, ke, se) i0 i1 kp dd tr m)
  exact zq_iret (by decide +kernel) rfl rfl rfl
set_option maxHeartbeats 4000000 in
set_option maxRecDepth 100000 in
theorem x_done_bad {x : Int32} {y : Int32} (hN : N ≤ 12) (hb : ¬ (0 ≤ x.toInt ∧ x.toInt < (N : Int) ∧ 0 ≤ y.toInt ∧ y.toInt ≤ 4)) : zq_P l mX11_done 1 [.ref 0, .int x, .int y] (XH tx (nI Z) (nI P, nI C, nI R, nI L, hs, ss, cs, gs, vs) dr rd (nI D, sm, nI N, nI K, ce, de, ke, se) i0 i1 kp dd tr m) (some (.int (-1))) (XH tx (nI Z) (nI P, nI C, nI R, nI L, hs, ss, cs, gs, vs) dr rd (nI D, sm, nI N, nI K, ce, de, ke, se) i0 i1 kp dd tr m) := by
  refine zq_start (by decide +kernel) rfl (Nat.le_of_ble_eq_true rfl) ?_
  show zq_G _ _ _ _ _ 0 ([(0, .ref 0), (1, .int x), (2, .int y)], [], XH tx (nI Z) (nI P, nI C, nI R, nI L, hs, ss, cs, gs, vs) dr rd (nI D, sm, nI N, nI K, ce, de, ke, se) i0 i1 kp dd tr m)
  refine zq_b [zq_al 0, zq_get 11 5, zq_il 1] [zq_alchk 0, zq_getchk 11 5, zq_ilchk 1] 5 rfl (by decide +kernel) ?_
  show zq_G _ _ _ _ _ 5 ([(0, .ref 0), (1, .int x), (2, .int y)], [.int x, .ref 15], XH tx (nI Z) (nI P, nI C, nI R, nI L, hs, ss, cs, gs, vs) dr rd (nI D, sm, nI N, nI K, ce, de, ke, se) i0 i1 kp dd tr m)
  refine zq_callV (av := [.int x]) (rest := []) (by decide +kernel) k11_168 (x_hasDeed (i := x) hN) rfl rfl rfl rfl ?_
  show zq_G _ _ _ _ _ 8 ([(0, .ref 0), (1, .int x), (2, .int y)], [.int (zb (0 ≤ x.toInt ∧ x.toInt < (N : Int)))], XH tx (nI Z) (nI P, nI C, nI R, nI L, hs, ss, cs, gs, vs) dr rd (nI D, sm, nI N, nI K, ce, de, ke, se) i0 i1 kp dd tr m)
  refine zq_ifz .eq 19 (¬ (0 ≤ x.toInt ∧ x.toInt < (N : Int))) (by decide +kernel) (zb_eq _) (fun c8 => ?_) (fun c8 => ?_)
  · show zq_G _ _ _ _ _ 19 ([(0, .ref 0), (1, .int x), (2, .int y)], [], XH tx (nI Z) (nI P, nI C, nI R, nI L, hs, ss, cs, gs, vs) dr rd (nI D, sm, nI N, nI K, ce, de, ke, se) i0 i1 kp dd tr m)
    refine zq_b [zq_k (-1)] [zq_kchk (-1)] 20 rfl (by decide +kernel) ?_
    show zq_G _ _ _ _ _ 20 ([(0, .ref 0), (1, .int x), (2, .int y)], [.int (-1)], XH tx (nI Z) (nI P, nI C, nI R, nI L, hs, ss, cs, gs, vs) dr rd (nI D, sm, nI N, nI K, ce, de, ke, se) i0 i1 kp dd tr m)
    exact zq_iret (by decide +kernel) rfl rfl rfl
  · show zq_G _ _ _ _ _ 11 ([(0, .ref 0), (1, .int x), (2, .int y)], [], XH tx (nI Z) (nI P, nI C, nI R, nI L, hs, ss, cs, gs, vs) dr rd (nI D, sm, nI N, nI K, ce, de, ke, se) i0 i1 kp dd tr m)
    refine zq_b [zq_il 2, zq_k 4] [zq_ilchk 2, zq_kchk 4] 13 rfl (by decide +kernel) ?_
    show zq_G _ _ _ _ _ 13 ([(0, .ref 0), (1, .int x), (2, .int y)], [.int 4, .int y], XH tx (nI Z) (nI P, nI C, nI R, nI L, hs, ss, cs, gs, vs) dr rd (nI D, sm, nI N, nI K, ce, de, ke, se) i0 i1 kp dd tr m)
    refine zq_callS (av := [.int y, .int 4]) (rest := []) (by decide +kernel) k11_87 (x_isBeyond (x := y) (q := 4) (by omega)) rfl rfl ?_
    show zq_G _ _ _ _ _ 16 ([(0, .ref 0), (1, .int x), (2, .int y)], [.int (zb (y.toInt < 0 ∨ (4 : Int) < y.toInt))], XH tx (nI Z) (nI P, nI C, nI R, nI L, hs, ss, cs, gs, vs) dr rd (nI D, sm, nI N, nI K, ce, de, ke, se) i0 i1 kp dd tr m)
    refine zq_ifz .eq 21 (¬ (y.toInt < 0 ∨ (4 : Int) < y.toInt)) (by decide +kernel) (zb_eq _) (fun c16 => ?_) (fun c16 => ?_)
    · show zq_G _ _ _ _ _ 21 ([(0, .ref 0), (1, .int x), (2, .int y)], [], XH tx (nI Z) (nI P, nI C, nI R, nI L, hs, ss, cs, gs, vs) dr rd (nI D, sm, nI N, nI K, ce, de, ke, se) i0 i1 kp dd tr m)
      exact absurd hb (by omega)
    · show zq_G _ _ _ _ _ 19 ([(0, .ref 0), (1, .int x), (2, .int y)], [], XH tx (nI Z) (nI P, nI C, nI R, nI L, hs, ss, cs, gs, vs) dr rd (nI D, sm, nI N, nI K, ce, de, ke, se) i0 i1 kp dd tr m)
      refine zq_b [zq_k (-1)] [zq_kchk (-1)] 20 rfl (by decide +kernel) ?_
      show zq_G _ _ _ _ _ 20 ([(0, .ref 0), (1, .int x), (2, .int y)], [.int (-1)], XH tx (nI Z) (nI P, nI C, nI R, nI L, hs, ss, cs, gs, vs) dr rd (nI D, sm, nI N, nI K, ce, de, ke, se) i0 i1 kp dd tr m)
      exact zq_iret (by decide +kernel) rfl rfl rfl
set_option maxHeartbeats 4000000 in
set_option maxRecDepth 100000 in
theorem x_done {i : Nat} {k : Nat} (hN : N ≤ 12) (hi : i < N) (hk : k ≤ 4) : zq_P l mX11_done 1 [.ref 0, .int (nI i), .int (nI k)] (XH tx (nI Z) (nI P, nI C, nI R, nI L, hs, ss, cs, gs, vs) dr rd (nI D, sm, nI N, nI K, ce, de, ke, se) i0 i1 kp dd tr m) (some (.int (de (i * 5 + k)))) (XH tx (nI Z) (nI P, nI C, nI R, nI L, hs, ss, cs, gs, vs) dr rd (nI D, sm, nI N, nI K, ce, de, ke, se) i0 i1 kp dd tr m) := by
  refine zq_start (by decide +kernel) rfl (Nat.le_of_ble_eq_true rfl) ?_
  show zq_G _ _ _ _ _ 0 ([(0, .ref 0), (1, .int (nI i)), (2, .int (nI k))], [], XH tx (nI Z) (nI P, nI C, nI R, nI L, hs, ss, cs, gs, vs) dr rd (nI D, sm, nI N, nI K, ce, de, ke, se) i0 i1 kp dd tr m)
  refine zq_b [zq_al 0, zq_get 11 5, zq_il 1] [zq_alchk 0, zq_getchk 11 5, zq_ilchk 1] 5 rfl (by decide +kernel) ?_
  show zq_G _ _ _ _ _ 5 ([(0, .ref 0), (1, .int (nI i)), (2, .int (nI k))], [.int (nI i), .ref 15], XH tx (nI Z) (nI P, nI C, nI R, nI L, hs, ss, cs, gs, vs) dr rd (nI D, sm, nI N, nI K, ce, de, ke, se) i0 i1 kp dd tr m)
  refine zq_callV (av := [.int (nI i)]) (rest := []) (by decide +kernel) k11_168 (x_hasDeedN (i := i) hN (by omega)) rfl rfl rfl rfl ?_
  show zq_G _ _ _ _ _ 8 ([(0, .ref 0), (1, .int (nI i)), (2, .int (nI k))], [.int (zb (i < N))], XH tx (nI Z) (nI P, nI C, nI R, nI L, hs, ss, cs, gs, vs) dr rd (nI D, sm, nI N, nI K, ce, de, ke, se) i0 i1 kp dd tr m)
  refine zq_ifz .eq 19 (¬ (i < N)) (by decide +kernel) (zb_eq _) (fun c8 => absurd c8 (by omega)) (fun c8 => ?_)
  show zq_G _ _ _ _ _ 11 ([(0, .ref 0), (1, .int (nI i)), (2, .int (nI k))], [], XH tx (nI Z) (nI P, nI C, nI R, nI L, hs, ss, cs, gs, vs) dr rd (nI D, sm, nI N, nI K, ce, de, ke, se) i0 i1 kp dd tr m)
  refine zq_b [zq_il 2, zq_k 4] [zq_ilchk 2, zq_kchk 4] 13 rfl (by decide +kernel) ?_
  show zq_G _ _ _ _ _ 13 ([(0, .ref 0), (1, .int (nI i)), (2, .int (nI k))], [.int 4, .int (nI k)], XH tx (nI Z) (nI P, nI C, nI R, nI L, hs, ss, cs, gs, vs) dr rd (nI D, sm, nI N, nI K, ce, de, ke, se) i0 i1 kp dd tr m)
  refine zq_callS (av := [.int (nI k), .int 4]) (rest := []) (by decide +kernel) k11_87 (x_isBeyondN (p := k) (q := 4) (by omega) (by omega)) rfl rfl ?_
  show zq_G _ _ _ _ _ 16 ([(0, .ref 0), (1, .int (nI i)), (2, .int (nI k))], [.int (zb (4 < k))], XH tx (nI Z) (nI P, nI C, nI R, nI L, hs, ss, cs, gs, vs) dr rd (nI D, sm, nI N, nI K, ce, de, ke, se) i0 i1 kp dd tr m)
  refine zq_ifz .eq 21 (¬ (4 < k)) (by decide +kernel) (zb_eq _) (fun c16 => ?_) (fun c16 => absurd (by omega) c16)
  show zq_G _ _ _ _ _ 21 ([(0, .ref 0), (1, .int (nI i)), (2, .int (nI k))], [], XH tx (nI Z) (nI P, nI C, nI R, nI L, hs, ss, cs, gs, vs) dr rd (nI D, sm, nI N, nI K, ce, de, ke, se) i0 i1 kp dd tr m)
  refine zq_b [zq_al 0, zq_get 11 5, zq_il 1, zq_il 2] [zq_alchk 0, zq_getchk 11 5, zq_ilchk 1, zq_ilchk 2] 27 rfl (by decide +kernel) ?_
  show zq_G _ _ _ _ _ 27 ([(0, .ref 0), (1, .int (nI i)), (2, .int (nI k))], [.int (nI k), .int (nI i), .ref 15], XH tx (nI Z) (nI P, nI C, nI R, nI L, hs, ss, cs, gs, vs) dr rd (nI D, sm, nI N, nI K, ce, de, ke, se) i0 i1 kp dd tr m)
  refine zq_callV (av := [.int (nI i), .int (nI k)]) (rest := []) (by decide +kernel) k11_171 (c_ofDeed (i := i) (k := k) (by omega) (by omega)) rfl rfl rfl rfl ?_
  show zq_G _ _ _ _ _ 30 ([(0, .ref 0), (1, .int (nI i)), (2, .int (nI k))], [.int (de (i * 5 + k))], XH tx (nI Z) (nI P, nI C, nI R, nI L, hs, ss, cs, gs, vs) dr rd (nI D, sm, nI N, nI K, ce, de, ke, se) i0 i1 kp dd tr m)
  exact zq_iret (by decide +kernel) rfl rfl rfl
end XV4
end
section
section XV5
variable {l : Launch} {tx : Nat → Int32} {n : Int32} {t dr : zT} {rd : zR} {w i0 i1 : zN} {kp : Nat → Int32} {dd : Int32} {tr : Int64} {m : Nat → zq_C} {h : zq_H}
variable {P C R L D N K Z : Nat} {hs ss cs gs vs ce de ke se : Nat → Int32} {sm : Int32} {cn ga va : Nat → Nat}
set_option maxHeartbeats 4000000 in
set_option maxRecDepth 100000 in
theorem x_counts_bad {x : Int32} (hN : N ≤ 12) (hb : ¬ (0 ≤ x.toInt ∧ x.toInt < (N : Int))) : zq_P l mX11_counts 1 [.ref 0, .int x] (XH tx (nI Z) (nI P, nI C, nI R, nI L, hs, ss, cs, gs, vs) dr rd (nI D, sm, nI N, nI K, ce, de, ke, se) i0 i1 kp dd tr m) (some (.int (-1))) (XH tx (nI Z) (nI P, nI C, nI R, nI L, hs, ss, cs, gs, vs) dr rd (nI D, sm, nI N, nI K, ce, de, ke, se) i0 i1 kp dd tr m) := by
  refine zq_start (by decide +kernel) rfl (Nat.le_of_ble_eq_true rfl) ?_
  show zq_G _ _ _ _ _ 0 ([(0, .ref 0), (1, .int x)], [], XH tx (nI Z) (nI P, nI C, nI R, nI L, hs, ss, cs, gs, vs) dr rd (nI D, sm, nI N, nI K, ce, de, ke, se) i0 i1 kp dd tr m)
  refine zq_b [zq_al 0, zq_get 11 5, zq_il 1] [zq_alchk 0, zq_getchk 11 5, zq_ilchk 1] 5 rfl (by decide +kernel) ?_
  show zq_G _ _ _ _ _ 5 ([(0, .ref 0), (1, .int x)], [.int x, .ref 15], XH tx (nI Z) (nI P, nI C, nI R, nI L, hs, ss, cs, gs, vs) dr rd (nI D, sm, nI N, nI K, ce, de, ke, se) i0 i1 kp dd tr m)
  refine zq_callV (av := [.int x]) (rest := []) (by decide +kernel) k11_168 (x_hasDeed (i := x) hN) rfl rfl rfl rfl ?_
  show zq_G _ _ _ _ _ 8 ([(0, .ref 0), (1, .int x)], [.int (zb (0 ≤ x.toInt ∧ x.toInt < (N : Int)))], XH tx (nI Z) (nI P, nI C, nI R, nI L, hs, ss, cs, gs, vs) dr rd (nI D, sm, nI N, nI K, ce, de, ke, se) i0 i1 kp dd tr m)
  refine zq_ifz .ne 13 (0 ≤ x.toInt ∧ x.toInt < (N : Int)) (by decide +kernel) (zb_ne _) (fun c8 => ?_) (fun c8 => ?_)
  · show zq_G _ _ _ _ _ 13 ([(0, .ref 0), (1, .int x)], [], XH tx (nI Z) (nI P, nI C, nI R, nI L, hs, ss, cs, gs, vs) dr rd (nI D, sm, nI N, nI K, ce, de, ke, se) i0 i1 kp dd tr m)
    exact absurd hb (by omega)
  · show zq_G _ _ _ _ _ 11 ([(0, .ref 0), (1, .int x)], [], XH tx (nI Z) (nI P, nI C, nI R, nI L, hs, ss, cs, gs, vs) dr rd (nI D, sm, nI N, nI K, ce, de, ke, se) i0 i1 kp dd tr m)
    refine zq_b [zq_k (-1)] [zq_kchk (-1)] 12 rfl (by decide +kernel) ?_
    show zq_G _ _ _ _ _ 12 ([(0, .ref 0), (1, .int x)], [.int (-1)], XH tx (nI Z) (nI P, nI C, nI R, nI L, hs, ss, cs, gs, vs) dr rd (nI D, sm, nI N, nI K, ce, de, ke, se) i0 i1 kp dd tr m)
    exact zq_iret (by decide +kernel) rfl rfl rfl
set_option maxHeartbeats 4000000 in
set_option maxRecDepth 100000 in
theorem x_counts {i : Nat} (hN : N ≤ 12) (hi : i < N) : zq_P l mX11_counts 1 [.ref 0, .int (nI i)] (XH tx (nI Z) (nI P, nI C, nI R, nI L, hs, ss, cs, gs, vs) dr rd (nI D, sm, nI N, nI K, ce, de, ke, se) i0 i1 kp dd tr m) (some (.int (if de (i * 5 + 4) = 1 then de (i * 5 + 2) + nI L else -9))) (XH tx (nI Z) (nI P, nI C, nI R, nI L, hs, ss, cs, gs, vs) dr rd (nI D, sm, nI N, nI K, ce, de, ke, se) i0 i1 kp dd tr m) := by
  refine zq_start (by decide +kernel) rfl (Nat.le_of_ble_eq_true rfl) ?_
  show zq_G _ _ _ _ _ 0 ([(0, .ref 0), (1, .int (nI i))], [], XH tx (nI Z) (nI P, nI C, nI R, nI L, hs, ss, cs, gs, vs) dr rd (nI D, sm, nI N, nI K, ce, de, ke, se) i0 i1 kp dd tr m)
  refine zq_b [zq_al 0, zq_get 11 5, zq_il 1] [zq_alchk 0, zq_getchk 11 5, zq_ilchk 1] 5 rfl (by decide +kernel) ?_
  show zq_G _ _ _ _ _ 5 ([(0, .ref 0), (1, .int (nI i))], [.int (nI i), .ref 15], XH tx (nI Z) (nI P, nI C, nI R, nI L, hs, ss, cs, gs, vs) dr rd (nI D, sm, nI N, nI K, ce, de, ke, se) i0 i1 kp dd tr m)
  refine zq_callV (av := [.int (nI i)]) (rest := []) (by decide +kernel) k11_168 (x_hasDeedN (i := i) hN (by omega)) rfl rfl rfl rfl ?_
  show zq_G _ _ _ _ _ 8 ([(0, .ref 0), (1, .int (nI i))], [.int (zb (i < N))], XH tx (nI Z) (nI P, nI C, nI R, nI L, hs, ss, cs, gs, vs) dr rd (nI D, sm, nI N, nI K, ce, de, ke, se) i0 i1 kp dd tr m)
  refine zq_ifz .ne 13 (i < N) (by decide +kernel) (zb_ne _) (fun c8 => ?_) (fun c8 => absurd (by omega) c8)
  show zq_G _ _ _ _ _ 13 ([(0, .ref 0), (1, .int (nI i))], [], XH tx (nI Z) (nI P, nI C, nI R, nI L, hs, ss, cs, gs, vs) dr rd (nI D, sm, nI N, nI K, ce, de, ke, se) i0 i1 kp dd tr m)
  refine zq_b [zq_al 0, zq_get 11 5, zq_il 1, zq_k 4] [zq_alchk 0, zq_getchk 11 5, zq_ilchk 1, zq_kchk 4] 19 rfl (by decide +kernel) ?_
  show zq_G _ _ _ _ _ 19 ([(0, .ref 0), (1, .int (nI i))], [.int 4, .int (nI i), .ref 15], XH tx (nI Z) (nI P, nI C, nI R, nI L, hs, ss, cs, gs, vs) dr rd (nI D, sm, nI N, nI K, ce, de, ke, se) i0 i1 kp dd tr m)
  refine zq_callV (av := [.int (nI i), .int 4]) (rest := []) (by decide +kernel) k11_171 (c_ofDeed (i := i) (k := 4) (by omega) (by omega)) rfl rfl rfl rfl ?_
  show zq_G _ _ _ _ _ 22 ([(0, .ref 0), (1, .int (nI i))], [.int (de (i * 5 + 4))], XH tx (nI Z) (nI P, nI C, nI R, nI L, hs, ss, cs, gs, vs) dr rd (nI D, sm, nI N, nI K, ce, de, ke, se) i0 i1 kp dd tr m)
  refine zq_b [zq_k 1] [zq_kchk 1] 23 rfl (by decide +kernel) ?_
  show zq_G _ _ _ _ _ 23 ([(0, .ref 0), (1, .int (nI i))], [.int 1, .int (de (i * 5 + 4))], XH tx (nI Z) (nI P, nI C, nI R, nI L, hs, ss, cs, gs, vs) dr rd (nI D, sm, nI N, nI K, ce, de, ke, se) i0 i1 kp dd tr m)
  refine zq_if .ne 46 (¬ (de (i * 5 + 4)) = 1) (by decide +kernel) (Iff.rfl) (fun c23 => ?_) (fun c23 => ?_)
  · show zq_G _ _ _ _ _ 46 ([(0, .ref 0), (1, .int (nI i))], [], XH tx (nI Z) (nI P, nI C, nI R, nI L, hs, ss, cs, gs, vs) dr rd (nI D, sm, nI N, nI K, ce, de, ke, se) i0 i1 kp dd tr m)
    refine zq_b [zq_k (-9)] [zq_kchk (-9)] 48 rfl (by decide +kernel) ?_
    show zq_G _ _ _ _ _ 48 ([(0, .ref 0), (1, .int (nI i))], [.int (-9)], XH tx (nI Z) (nI P, nI C, nI R, nI L, hs, ss, cs, gs, vs) dr rd (nI D, sm, nI N, nI K, ce, de, ke, se) i0 i1 kp dd tr m)
    exact zq_iret (by decide +kernel) rfl (by rw [if_neg c23]) rfl
  · show zq_G _ _ _ _ _ 26 ([(0, .ref 0), (1, .int (nI i))], [], XH tx (nI Z) (nI P, nI C, nI R, nI L, hs, ss, cs, gs, vs) dr rd (nI D, sm, nI N, nI K, ce, de, ke, se) i0 i1 kp dd tr m)
    refine zq_b [zq_al 0, zq_get 11 5, zq_il 1, zq_k 2] [zq_alchk 0, zq_getchk 11 5, zq_ilchk 1, zq_kchk 2] 32 rfl (by decide +kernel) ?_
    show zq_G _ _ _ _ _ 32 ([(0, .ref 0), (1, .int (nI i))], [.int 2, .int (nI i), .ref 15], XH tx (nI Z) (nI P, nI C, nI R, nI L, hs, ss, cs, gs, vs) dr rd (nI D, sm, nI N, nI K, ce, de, ke, se) i0 i1 kp dd tr m)
    refine zq_callV (av := [.int (nI i), .int 2]) (rest := []) (by decide +kernel) k11_171 (c_ofDeed (i := i) (k := 2) (by omega) (by omega)) rfl rfl rfl rfl ?_
    show zq_G _ _ _ _ _ 35 ([(0, .ref 0), (1, .int (nI i))], [.int (de (i * 5 + 2))], XH tx (nI Z) (nI P, nI C, nI R, nI L, hs, ss, cs, gs, vs) dr rd (nI D, sm, nI N, nI K, ce, de, ke, se) i0 i1 kp dd tr m)
    refine zq_b [zq_al 0, zq_get 11 2, zq_get 9 3, zq_iadd ((de (i * 5 + 2)) + (nI L)), zq_go] [zq_alchk 0, zq_getchk 11 2, zq_getchk 9 3, zq_is .iadd 1, zq_gochk] 48 rfl (by decide +kernel) ?_
    refine ⟨rfl, ?_⟩
    show zq_G _ _ _ _ _ 48 ([(0, .ref 0), (1, .int (nI i))], [.int ((de (i * 5 + 2)) + (nI L))], XH tx (nI Z) (nI P, nI C, nI R, nI L, hs, ss, cs, gs, vs) dr rd (nI D, sm, nI N, nI K, ce, de, ke, se) i0 i1 kp dd tr m)
    exact zq_iret (by decide +kernel) rfl (by rw [if_pos (Decidable.not_not.mp c23)]) rfl
set_option maxHeartbeats 4000000 in
set_option maxRecDepth 100000 in
theorem x_holder_bad {x : Int32} {y : Int32} (hb : ¬ (0 ≤ x.toInt ∧ x.toInt ≤ 7 ∧ 0 ≤ y.toInt ∧ y.toInt ≤ 200)) : zq_P l mX11_holder 1 [.ref 0, .int x, .int y] (XH tx (nI Z) (nI P, nI C, nI R, nI L, hs, ss, cs, gs, vs) dr rd (nI D, sm, nI N, nI K, ce, de, ke, se) i0 i1 kp dd tr m) (some (.int (-1))) (XH tx (nI Z) (nI P, nI C, nI R, nI L, hs, ss, cs, gs, vs) dr rd (nI D, sm, nI N, nI K, ce, de, ke, se) i0 i1 kp dd tr m) := by
  refine zq_start (by decide +kernel) rfl (Nat.le_of_ble_eq_true rfl) ?_
  show zq_G _ _ _ _ _ 0 ([(0, .ref 0), (1, .int x), (2, .int y)], [], XH tx (nI Z) (nI P, nI C, nI R, nI L, hs, ss, cs, gs, vs) dr rd (nI D, sm, nI N, nI K, ce, de, ke, se) i0 i1 kp dd tr m)
  refine zq_b [zq_il 1, zq_k 7] [zq_ilchk 1, zq_kchk 7] 3 rfl (by decide +kernel) ?_
  show zq_G _ _ _ _ _ 3 ([(0, .ref 0), (1, .int x), (2, .int y)], [.int 7, .int x], XH tx (nI Z) (nI P, nI C, nI R, nI L, hs, ss, cs, gs, vs) dr rd (nI D, sm, nI N, nI K, ce, de, ke, se) i0 i1 kp dd tr m)
  refine zq_callS (av := [.int x, .int 7]) (rest := []) (by decide +kernel) k11_87 (x_isBeyond (x := x) (q := 7) (by omega)) rfl rfl ?_
  show zq_G _ _ _ _ _ 6 ([(0, .ref 0), (1, .int x), (2, .int y)], [.int (zb (x.toInt < 0 ∨ (7 : Int) < x.toInt))], XH tx (nI Z) (nI P, nI C, nI R, nI L, hs, ss, cs, gs, vs) dr rd (nI D, sm, nI N, nI K, ce, de, ke, se) i0 i1 kp dd tr m)
  refine zq_ifz .ne 19 (x.toInt < 0 ∨ (7 : Int) < x.toInt) (by decide +kernel) (zb_ne _) (fun c6 => ?_) (fun c6 => ?_)
  · show zq_G _ _ _ _ _ 19 ([(0, .ref 0), (1, .int x), (2, .int y)], [], XH tx (nI Z) (nI P, nI C, nI R, nI L, hs, ss, cs, gs, vs) dr rd (nI D, sm, nI N, nI K, ce, de, ke, se) i0 i1 kp dd tr m)
    refine zq_b [zq_k (-1)] [zq_kchk (-1)] 20 rfl (by decide +kernel) ?_
    show zq_G _ _ _ _ _ 20 ([(0, .ref 0), (1, .int x), (2, .int y)], [.int (-1)], XH tx (nI Z) (nI P, nI C, nI R, nI L, hs, ss, cs, gs, vs) dr rd (nI D, sm, nI N, nI K, ce, de, ke, se) i0 i1 kp dd tr m)
    exact zq_iret (by decide +kernel) rfl rfl rfl
  · show zq_G _ _ _ _ _ 9 ([(0, .ref 0), (1, .int x), (2, .int y)], [], XH tx (nI Z) (nI P, nI C, nI R, nI L, hs, ss, cs, gs, vs) dr rd (nI D, sm, nI N, nI K, ce, de, ke, se) i0 i1 kp dd tr m)
    refine zq_b [zq_il 2, zq_k 200] [zq_ilchk 2, zq_kchk 200] 13 rfl (by decide +kernel) ?_
    show zq_G _ _ _ _ _ 13 ([(0, .ref 0), (1, .int x), (2, .int y)], [.int 200, .int y], XH tx (nI Z) (nI P, nI C, nI R, nI L, hs, ss, cs, gs, vs) dr rd (nI D, sm, nI N, nI K, ce, de, ke, se) i0 i1 kp dd tr m)
    refine zq_callS (av := [.int y, .int 200]) (rest := []) (by decide +kernel) k11_87 (x_isBeyond (x := y) (q := 200) (by omega)) rfl rfl ?_
    show zq_G _ _ _ _ _ 16 ([(0, .ref 0), (1, .int x), (2, .int y)], [.int (zb (y.toInt < 0 ∨ (200 : Int) < y.toInt))], XH tx (nI Z) (nI P, nI C, nI R, nI L, hs, ss, cs, gs, vs) dr rd (nI D, sm, nI N, nI K, ce, de, ke, se) i0 i1 kp dd tr m)
    refine zq_ifz .eq 21 (¬ (y.toInt < 0 ∨ (200 : Int) < y.toInt)) (by decide +kernel) (zb_eq _) (fun c16 => ?_) (fun c16 => ?_)
    · show zq_G _ _ _ _ _ 21 ([(0, .ref 0), (1, .int x), (2, .int y)], [], XH tx (nI Z) (nI P, nI C, nI R, nI L, hs, ss, cs, gs, vs) dr rd (nI D, sm, nI N, nI K, ce, de, ke, se) i0 i1 kp dd tr m)
      exact absurd hb (by omega)
    · show zq_G _ _ _ _ _ 19 ([(0, .ref 0), (1, .int x), (2, .int y)], [], XH tx (nI Z) (nI P, nI C, nI R, nI L, hs, ss, cs, gs, vs) dr rd (nI D, sm, nI N, nI K, ce, de, ke, se) i0 i1 kp dd tr m)
      refine zq_b [zq_k (-1)] [zq_kchk (-1)] 20 rfl (by decide +kernel) ?_
      show zq_G _ _ _ _ _ 20 ([(0, .ref 0), (1, .int x), (2, .int y)], [.int (-1)], XH tx (nI Z) (nI P, nI C, nI R, nI L, hs, ss, cs, gs, vs) dr rd (nI D, sm, nI N, nI K, ce, de, ke, se) i0 i1 kp dd tr m)
      exact zq_iret (by decide +kernel) rfl rfl rfl
set_option maxHeartbeats 4000000 in
set_option maxRecDepth 100000 in
theorem x_holder {a : Nat} {b : Nat} (ha : a ≤ 7) (hb2 : b ≤ 200) (hN : N ≤ 12) (hR : R ≤ 6) : zq_P l mX11_holder 4 [.ref 0, .int (nI a), .int (nI b)] (XH tx (nI Z) (nI P, nI C, nI R, nI L, hs, ss, cs, gs, vs) dr rd (nI D, sm, nI N, nI K, ce, de, ke, se) i0 i1 kp dd tr m) (some (.int (zwho (fun r => zac r vs gs R) (fun a => zown de N (nI a) (nI b) (nI L)) ((1 : Int32) <<< (nI a &&& 31))))) (XH tx (nI Z) (nI P, nI C, nI R, nI L, hs, ss, cs, gs, vs) dr rd (nI D, sm, nI N, nI K, ce, de, ke, se) i0 i1 kp dd tr m) := by
  refine zq_start (by decide +kernel) rfl (Nat.le_of_ble_eq_true rfl) ?_
  show zq_G _ _ _ _ _ 0 ([(0, .ref 0), (1, .int (nI a)), (2, .int (nI b))], [], XH tx (nI Z) (nI P, nI C, nI R, nI L, hs, ss, cs, gs, vs) dr rd (nI D, sm, nI N, nI K, ce, de, ke, se) i0 i1 kp dd tr m)
  refine zq_b [zq_il 1, zq_k 7] [zq_ilchk 1, zq_kchk 7] 3 rfl (by decide +kernel) ?_
  show zq_G _ _ _ _ _ 3 ([(0, .ref 0), (1, .int (nI a)), (2, .int (nI b))], [.int 7, .int (nI a)], XH tx (nI Z) (nI P, nI C, nI R, nI L, hs, ss, cs, gs, vs) dr rd (nI D, sm, nI N, nI K, ce, de, ke, se) i0 i1 kp dd tr m)
  refine zq_callS (av := [.int (nI a), .int 7]) (rest := []) (by decide +kernel) k11_87 (x_isBeyondN (p := a) (q := 7) (by omega) (by omega)) rfl rfl ?_
  show zq_G _ _ _ _ _ 6 ([(0, .ref 0), (1, .int (nI a)), (2, .int (nI b))], [.int (zb (7 < a))], XH tx (nI Z) (nI P, nI C, nI R, nI L, hs, ss, cs, gs, vs) dr rd (nI D, sm, nI N, nI K, ce, de, ke, se) i0 i1 kp dd tr m)
  refine zq_ifz .ne 19 (7 < a) (by decide +kernel) (zb_ne _) (fun c6 => absurd c6 (by omega)) (fun c6 => ?_)
  show zq_G _ _ _ _ _ 9 ([(0, .ref 0), (1, .int (nI a)), (2, .int (nI b))], [], XH tx (nI Z) (nI P, nI C, nI R, nI L, hs, ss, cs, gs, vs) dr rd (nI D, sm, nI N, nI K, ce, de, ke, se) i0 i1 kp dd tr m)
  refine zq_b [zq_il 2, zq_k 200] [zq_ilchk 2, zq_kchk 200] 13 rfl (by decide +kernel) ?_
  show zq_G _ _ _ _ _ 13 ([(0, .ref 0), (1, .int (nI a)), (2, .int (nI b))], [.int 200, .int (nI b)], XH tx (nI Z) (nI P, nI C, nI R, nI L, hs, ss, cs, gs, vs) dr rd (nI D, sm, nI N, nI K, ce, de, ke, se) i0 i1 kp dd tr m)
  refine zq_callS (av := [.int (nI b), .int 200]) (rest := []) (by decide +kernel) k11_87 (x_isBeyondN (p := b) (q := 200) (by omega) (by omega)) rfl rfl ?_
  show zq_G _ _ _ _ _ 16 ([(0, .ref 0), (1, .int (nI a)), (2, .int (nI b))], [.int (zb (200 < b))], XH tx (nI Z) (nI P, nI C, nI R, nI L, hs, ss, cs, gs, vs) dr rd (nI D, sm, nI N, nI K, ce, de, ke, se) i0 i1 kp dd tr m)
  refine zq_ifz .eq 21 (¬ (200 < b)) (by decide +kernel) (zb_eq _) (fun c16 => ?_) (fun c16 => absurd (by omega) c16)
  show zq_G _ _ _ _ _ 21 ([(0, .ref 0), (1, .int (nI a)), (2, .int (nI b))], [], XH tx (nI Z) (nI P, nI C, nI R, nI L, hs, ss, cs, gs, vs) dr rd (nI D, sm, nI N, nI K, ce, de, ke, se) i0 i1 kp dd tr m)
  refine zq_b [zq_al 0, zq_get 11 8, zq_il 1, zq_il 2, zq_al 0, zq_get 11 2, zq_get 9 3] [zq_alchk 0, zq_getchk 11 8, zq_ilchk 1, zq_ilchk 2, zq_alchk 0, zq_getchk 11 2, zq_getchk 9 3] 34 rfl (by decide +kernel) ?_
  show zq_G _ _ _ _ _ 34 ([(0, .ref 0), (1, .int (nI a)), (2, .int (nI b))], [.int (nI L), .int (nI b), .int (nI a), .ref 32], XH tx (nI Z) (nI P, nI C, nI R, nI L, hs, ss, cs, gs, vs) dr rd (nI D, sm, nI N, nI K, ce, de, ke, se) i0 i1 kp dd tr m)
  refine zq_callV (av := [.int (nI a), .int (nI b), .int (nI L)]) (rest := []) (by decide +kernel) k11_174 (c_whoHolds (x := (nI a)) (y := (nI b)) (z := (nI L)) hN hR) rfl rfl rfl rfl ?_
  show zq_G _ _ _ _ _ 37 ([(0, .ref 0), (1, .int (nI a)), (2, .int (nI b))], [.int (zwho (fun r => zac r vs gs R) (fun a => zown de N (nI a) (nI b) (nI L)) ((1 : Int32) <<< (nI a &&& 31)))], XH tx (nI Z) (nI P, nI C, nI R, nI L, hs, ss, cs, gs, vs) dr rd (nI D, sm, nI N, nI K, ce, de, ke, se) i0 i1 kp dd tr m)
  exact zq_iret (by decide +kernel) rfl rfl rfl
set_option maxHeartbeats 4000000 in
set_option maxRecDepth 100000 in
theorem x_round  (hR : R ≤ 6) : zq_P l mX11_round 4 [.ref 0] (XH tx (nI Z) (nI P, nI C, nI R, nI L, hs, ss, cs, gs, vs) dr rd (nI D, sm, nI N, nI K, ce, de, ke, se) i0 i1 kp dd tr m) (some (.int (zfs (fun a => decide (zbit (zrc (fun r => zac r gs vs R) (zac ((1 : Int32) <<< (nI a &&& 31)) gs vs R) 8) (nI a) = 1)) nI 8))) (XH tx (nI Z) (nI P, nI C, nI R, nI L, hs, ss, cs, gs, vs) dr rd (nI D, sm, nI N, nI K, ce, de, ke, se) i0 i1 kp dd tr m) := by
  refine zq_start (by decide +kernel) rfl (Nat.le_of_ble_eq_true rfl) ?_
  show zq_G _ _ _ _ _ 0 ([(0, .ref 0)], [], XH tx (nI Z) (nI P, nI C, nI R, nI L, hs, ss, cs, gs, vs) dr rd (nI D, sm, nI N, nI K, ce, de, ke, se) i0 i1 kp dd tr m)
  refine zq_b [zq_k 0, zq_is1 1] [zq_kchk 0, zq_is1chk 1] 2 rfl (by decide +kernel) ?_
  show zq_G _ _ _ _ _ 2 ([(0, .ref 0), (1, .int 0)], [], XH tx (nI Z) (nI P, nI C, nI R, nI L, hs, ss, cs, gs, vs) dr rd (nI D, sm, nI N, nI K, ce, de, ke, se) i0 i1 kp dd tr m)
  refine zq_loop (fun i => ([(0, .ref 0), (1, .int (nI i))], [], XH tx (nI Z) (nI P, nI C, nI R, nI L, hs, ss, cs, gs, vs) dr rd (nI D, sm, nI N, nI K, ce, de, ke, se) i0 i1 kp dd tr m)) (fun i => ∀ j, j < i → decide (zbit (zrc (fun r => zac r gs vs R) (zac ((1 : Int32) <<< (nI j &&& 31)) gs vs R) 8) (nI j) = 1) = false) (8) (0) (by omega) ((fun j hj => absurd hj (by omega))) (fun i hl2 hi2 hI2 ih2 => ?_) (fun hI2 => ?_)
  · show zq_G _ _ _ _ _ 2 ([(0, .ref 0), (1, .int (nI i))], [], XH tx (nI Z) (nI P, nI C, nI R, nI L, hs, ss, cs, gs, vs) dr rd (nI D, sm, nI N, nI K, ce, de, ke, se) i0 i1 kp dd tr m)
    refine zq_b [zq_il 1, zq_k 8] [zq_ilchk 1, zq_kchk 8] 5 rfl (by decide +kernel) ?_
    show zq_G _ _ _ _ _ 5 ([(0, .ref 0), (1, .int (nI i))], [.int 8, .int (nI i)], XH tx (nI Z) (nI P, nI C, nI R, nI L, hs, ss, cs, gs, vs) dr rd (nI D, sm, nI N, nI K, ce, de, ke, se) i0 i1 kp dd tr m)
    refine zq_if .ge 27 (8 ≤ i) (by decide +kernel) (zq_cge (a := i) (b := 8) (by omega) (by omega)) (fun c5 => absurd c5 (by omega)) (fun c5 => ?_)
    show zq_G _ _ _ _ _ 8 ([(0, .ref 0), (1, .int (nI i))], [], XH tx (nI Z) (nI P, nI C, nI R, nI L, hs, ss, cs, gs, vs) dr rd (nI D, sm, nI N, nI K, ce, de, ke, se) i0 i1 kp dd tr m)
    refine zq_b [zq_al 0, zq_get 11 8, zq_il 1] [zq_alchk 0, zq_getchk 11 8, zq_ilchk 1] 13 rfl (by decide +kernel) ?_
    show zq_G _ _ _ _ _ 13 ([(0, .ref 0), (1, .int (nI i))], [.int (nI i), .ref 32], XH tx (nI Z) (nI P, nI C, nI R, nI L, hs, ss, cs, gs, vs) dr rd (nI D, sm, nI N, nI K, ce, de, ke, se) i0 i1 kp dd tr m)
    refine zq_callV (av := [.int (nI i)]) (rest := []) (by decide +kernel) k11_178 (c_comesBack (x := (nI i)) hR) rfl rfl rfl rfl ?_
    show zq_G _ _ _ _ _ 16 ([(0, .ref 0), (1, .int (nI i))], [.int (zb (zbit (zrc (fun r => zac r gs vs R) (zac ((1 : Int32) <<< (nI i &&& 31)) gs vs R) 8) (nI i) = 1))], XH tx (nI Z) (nI P, nI C, nI R, nI L, hs, ss, cs, gs, vs) dr rd (nI D, sm, nI N, nI K, ce, de, ke, se) i0 i1 kp dd tr m)
    refine zq_ifz .eq 21 (¬ (zbit (zrc (fun r => zac r gs vs R) (zac ((1 : Int32) <<< (nI i &&& 31)) gs vs R) 8) (nI i) = 1)) (by decide +kernel) (zb_eq _) (fun c16 => ?_) (fun c16 => ?_)
    · show zq_G _ _ _ _ _ 21 ([(0, .ref 0), (1, .int (nI i))], [], XH tx (nI Z) (nI P, nI C, nI R, nI L, hs, ss, cs, gs, vs) dr rd (nI D, sm, nI N, nI K, ce, de, ke, se) i0 i1 kp dd tr m)
      refine zq_b [zq_inc 1 1 (nI (i + 1)), zq_go] [zq_incchk 1 1, zq_gochk] 2 rfl (by decide +kernel) ?_
      refine ⟨nI_add i 1, ?_⟩
      show zq_G _ _ _ _ _ 2 ([(0, .ref 0), (1, .int (nI (i + 1)))], [], XH tx (nI Z) (nI P, nI C, nI R, nI L, hs, ss, cs, gs, vs) dr rd (nI D, sm, nI N, nI K, ce, de, ke, se) i0 i1 kp dd tr m)
      exact ih2 (lt_ext hI2 (decide_eq_false c16))
    · show zq_G _ _ _ _ _ 19 ([(0, .ref 0), (1, .int (nI i))], [], XH tx (nI Z) (nI P, nI C, nI R, nI L, hs, ss, cs, gs, vs) dr rd (nI D, sm, nI N, nI K, ce, de, ke, se) i0 i1 kp dd tr m)
      refine zq_b [zq_il 1] [zq_ilchk 1] 20 rfl (by decide +kernel) ?_
      show zq_G _ _ _ _ _ 20 ([(0, .ref 0), (1, .int (nI i))], [.int (nI i)], XH tx (nI Z) (nI P, nI C, nI R, nI L, hs, ss, cs, gs, vs) dr rd (nI D, sm, nI N, nI K, ce, de, ke, se) i0 i1 kp dd tr m)
      exact zq_iret (by decide +kernel) rfl (by rw [zfs_at hi2 (decide_eq_true (Decidable.not_not.mp c16)) hI2]) rfl
  · show zq_G _ _ _ _ _ 2 ([(0, .ref 0), (1, .int 8)], [], XH tx (nI Z) (nI P, nI C, nI R, nI L, hs, ss, cs, gs, vs) dr rd (nI D, sm, nI N, nI K, ce, de, ke, se) i0 i1 kp dd tr m)
    refine zq_b [zq_il 1, zq_k 8] [zq_ilchk 1, zq_kchk 8] 5 rfl (by decide +kernel) ?_
    show zq_G _ _ _ _ _ 5 ([(0, .ref 0), (1, .int 8)], [.int 8, .int 8], XH tx (nI Z) (nI P, nI C, nI R, nI L, hs, ss, cs, gs, vs) dr rd (nI D, sm, nI N, nI K, ce, de, ke, se) i0 i1 kp dd tr m)
    refine zq_if .ge 27 (8 ≤ 8) (by decide +kernel) (zq_cge (a := 8) (b := 8) (by omega) (by omega)) (fun c5 => ?_) (fun c5 => absurd (by omega) c5)
    show zq_G _ _ _ _ _ 27 ([(0, .ref 0), (1, .int 8)], [], XH tx (nI Z) (nI P, nI C, nI R, nI L, hs, ss, cs, gs, vs) dr rd (nI D, sm, nI N, nI K, ce, de, ke, se) i0 i1 kp dd tr m)
    refine zq_b [zq_k (-9)] [zq_kchk (-9)] 29 rfl (by decide +kernel) ?_
    show zq_G _ _ _ _ _ 29 ([(0, .ref 0), (1, .int 8)], [.int (-9)], XH tx (nI Z) (nI P, nI C, nI R, nI L, hs, ss, cs, gs, vs) dr rd (nI D, sm, nI N, nI K, ce, de, ke, se) i0 i1 kp dd tr m)
    exact zq_iret (by decide +kernel) rfl (by rw [zfs_no hI2]) rfl
set_option maxHeartbeats 4000000 in
set_option maxRecDepth 100000 in
theorem x_votes_bad {x : Int32} (hb : x.toInt < 0 ∨ 200 < x.toInt) : zq_P l mX11_votes 1 [.ref 0, .int x] (XH tx (nI Z) (nI P, nI C, nI R, nI L, hs, ss, cs, gs, vs) dr rd (nI D, sm, nI N, nI K, ce, de, ke, se) i0 i1 kp dd tr m) (some (.int (-1))) (XH tx (nI Z) (nI P, nI C, nI R, nI L, hs, ss, cs, gs, vs) dr rd (nI D, sm, nI N, nI K, ce, de, ke, se) i0 i1 kp dd tr m) := by
  refine zq_start (by decide +kernel) rfl (Nat.le_of_ble_eq_true rfl) ?_
  show zq_G _ _ _ _ _ 0 ([(0, .ref 0), (1, .int x)], [], XH tx (nI Z) (nI P, nI C, nI R, nI L, hs, ss, cs, gs, vs) dr rd (nI D, sm, nI N, nI K, ce, de, ke, se) i0 i1 kp dd tr m)
  refine zq_b [zq_il 1, zq_k 200] [zq_ilchk 1, zq_kchk 200] 4 rfl (by decide +kernel) ?_
  show zq_G _ _ _ _ _ 4 ([(0, .ref 0), (1, .int x)], [.int 200, .int x], XH tx (nI Z) (nI P, nI C, nI R, nI L, hs, ss, cs, gs, vs) dr rd (nI D, sm, nI N, nI K, ce, de, ke, se) i0 i1 kp dd tr m)
  refine zq_callS (av := [.int x, .int 200]) (rest := []) (by decide +kernel) k11_87 (x_isBeyond (x := x) (q := 200) (by omega)) rfl rfl ?_
  show zq_G _ _ _ _ _ 7 ([(0, .ref 0), (1, .int x)], [.int (zb (x.toInt < 0 ∨ (200 : Int) < x.toInt))], XH tx (nI Z) (nI P, nI C, nI R, nI L, hs, ss, cs, gs, vs) dr rd (nI D, sm, nI N, nI K, ce, de, ke, se) i0 i1 kp dd tr m)
  refine zq_ifz .eq 12 (¬ (x.toInt < 0 ∨ (200 : Int) < x.toInt)) (by decide +kernel) (zb_eq _) (fun c7 => ?_) (fun c7 => ?_)
  · show zq_G _ _ _ _ _ 12 ([(0, .ref 0), (1, .int x)], [], XH tx (nI Z) (nI P, nI C, nI R, nI L, hs, ss, cs, gs, vs) dr rd (nI D, sm, nI N, nI K, ce, de, ke, se) i0 i1 kp dd tr m)
    exact absurd hb (by omega)
  · show zq_G _ _ _ _ _ 10 ([(0, .ref 0), (1, .int x)], [], XH tx (nI Z) (nI P, nI C, nI R, nI L, hs, ss, cs, gs, vs) dr rd (nI D, sm, nI N, nI K, ce, de, ke, se) i0 i1 kp dd tr m)
    refine zq_b [zq_k (-1)] [zq_kchk (-1)] 11 rfl (by decide +kernel) ?_
    show zq_G _ _ _ _ _ 11 ([(0, .ref 0), (1, .int x)], [.int (-1)], XH tx (nI Z) (nI P, nI C, nI R, nI L, hs, ss, cs, gs, vs) dr rd (nI D, sm, nI N, nI K, ce, de, ke, se) i0 i1 kp dd tr m)
    exact zq_iret (by decide +kernel) rfl rfl rfl
set_option maxHeartbeats 4000000 in
set_option maxRecDepth 100000 in
theorem x_votes {b : Nat} (hb2 : b ≤ 200) (hL : L ≤ 30) (hD : D ≤ 99) : zq_P l mX11_votes 1 [.ref 0, .int (nI b)] (XH tx (nI Z) (nI P, nI C, nI R, nI L, hs, ss, cs, gs, vs) dr rd (nI D, sm, nI N, nI K, ce, de, ke, se) i0 i1 kp dd tr m) (some (.int (zkept ke D ((b : Int) - (L : Int))))) (XH tx (nI Z) (nI P, nI C, nI R, nI L, hs, ss, cs, gs, vs) dr rd (nI D, sm, nI N, nI K, ce, de, ke, se) i0 i1 kp dd tr m) := by
  refine zq_start (by decide +kernel) rfl (Nat.le_of_ble_eq_true rfl) ?_
  show zq_G _ _ _ _ _ 0 ([(0, .ref 0), (1, .int (nI b))], [], XH tx (nI Z) (nI P, nI C, nI R, nI L, hs, ss, cs, gs, vs) dr rd (nI D, sm, nI N, nI K, ce, de, ke, se) i0 i1 kp dd tr m)
  refine zq_b [zq_il 1, zq_k 200] [zq_ilchk 1, zq_kchk 200] 4 rfl (by decide +kernel) ?_
  show zq_G _ _ _ _ _ 4 ([(0, .ref 0), (1, .int (nI b))], [.int 200, .int (nI b)], XH tx (nI Z) (nI P, nI C, nI R, nI L, hs, ss, cs, gs, vs) dr rd (nI D, sm, nI N, nI K, ce, de, ke, se) i0 i1 kp dd tr m)
  refine zq_callS (av := [.int (nI b), .int 200]) (rest := []) (by decide +kernel) k11_87 (x_isBeyondN (p := b) (q := 200) (by omega) (by omega)) rfl rfl ?_
  show zq_G _ _ _ _ _ 7 ([(0, .ref 0), (1, .int (nI b))], [.int (zb (200 < b))], XH tx (nI Z) (nI P, nI C, nI R, nI L, hs, ss, cs, gs, vs) dr rd (nI D, sm, nI N, nI K, ce, de, ke, se) i0 i1 kp dd tr m)
  refine zq_ifz .eq 12 (¬ (200 < b)) (by decide +kernel) (zb_eq _) (fun c7 => ?_) (fun c7 => absurd (by omega) c7)
  show zq_G _ _ _ _ _ 12 ([(0, .ref 0), (1, .int (nI b))], [], XH tx (nI Z) (nI P, nI C, nI R, nI L, hs, ss, cs, gs, vs) dr rd (nI D, sm, nI N, nI K, ce, de, ke, se) i0 i1 kp dd tr m)
  refine zq_b [zq_al 0, zq_get 11 5, zq_il 1, zq_al 0, zq_get 11 2, zq_get 9 3, zq_isub (zi ((b : Int) - (L : Int)))] [zq_alchk 0, zq_getchk 11 5, zq_ilchk 1, zq_alchk 0, zq_getchk 11 2, zq_getchk 9 3, zq_is .isub 1] 25 rfl (by decide +kernel) ?_
  refine ⟨(zi_sub b L), ?_⟩
  show zq_G _ _ _ _ _ 25 ([(0, .ref 0), (1, .int (nI b))], [.int (zi ((b : Int) - (L : Int))), .ref 15], XH tx (nI Z) (nI P, nI C, nI R, nI L, hs, ss, cs, gs, vs) dr rd (nI D, sm, nI N, nI K, ce, de, ke, se) i0 i1 kp dd tr m)
  refine zq_callV (av := [.int (zi ((b : Int) - (L : Int)))]) (rest := []) (by decide +kernel) k11_181 (c_keptOn (z := ((b : Int) - (L : Int))) (by omega) (by omega) hD) rfl rfl rfl rfl ?_
  show zq_G _ _ _ _ _ 28 ([(0, .ref 0), (1, .int (nI b))], [.int (zkept ke D ((b : Int) - (L : Int)))], XH tx (nI Z) (nI P, nI C, nI R, nI L, hs, ss, cs, gs, vs) dr rd (nI D, sm, nI N, nI K, ce, de, ke, se) i0 i1 kp dd tr m)
  exact zq_iret (by decide +kernel) rfl rfl rfl
set_option maxHeartbeats 4000000 in
set_option maxRecDepth 100000 in
theorem x_nearer_bad {x : Int32} {y : Int32} (hb : ¬ (1 ≤ x.toInt ∧ x.toInt ≤ 30 ∧ 0 ≤ y.toInt ∧ y.toInt ≤ 200)) : zq_P l mX11_nearer 1 [.ref 0, .int x, .int y] (XH tx (nI Z) (nI P, nI C, nI R, nI L, hs, ss, cs, gs, vs) dr rd (nI D, sm, nI N, nI K, ce, de, ke, se) i0 i1 kp dd tr m) (some (.int (-1))) (XH tx (nI Z) (nI P, nI C, nI R, nI L, hs, ss, cs, gs, vs) dr rd (nI D, sm, nI N, nI K, ce, de, ke, se) i0 i1 kp dd tr m) := by
  refine zq_start (by decide +kernel) rfl (Nat.le_of_ble_eq_true rfl) ?_
  show zq_G _ _ _ _ _ 0 ([(0, .ref 0), (1, .int x), (2, .int y)], [], XH tx (nI Z) (nI P, nI C, nI R, nI L, hs, ss, cs, gs, vs) dr rd (nI D, sm, nI N, nI K, ce, de, ke, se) i0 i1 kp dd tr m)
  refine zq_b [zq_il 1, zq_k 1] [zq_ilchk 1, zq_kchk 1] 2 rfl (by decide +kernel) ?_
  show zq_G _ _ _ _ _ 2 ([(0, .ref 0), (1, .int x), (2, .int y)], [.int 1, .int x], XH tx (nI Z) (nI P, nI C, nI R, nI L, hs, ss, cs, gs, vs) dr rd (nI D, sm, nI N, nI K, ce, de, ke, se) i0 i1 kp dd tr m)
  refine zq_if .lt 21 (x.toInt < (1 : Int)) (by decide +kernel) (zq_tn .lt x (n := 1) (by omega)) (fun c2 => ?_) (fun c2 => ?_)
  · show zq_G _ _ _ _ _ 21 ([(0, .ref 0), (1, .int x), (2, .int y)], [], XH tx (nI Z) (nI P, nI C, nI R, nI L, hs, ss, cs, gs, vs) dr rd (nI D, sm, nI N, nI K, ce, de, ke, se) i0 i1 kp dd tr m)
    refine zq_b [zq_k (-1)] [zq_kchk (-1)] 22 rfl (by decide +kernel) ?_
    show zq_G _ _ _ _ _ 22 ([(0, .ref 0), (1, .int x), (2, .int y)], [.int (-1)], XH tx (nI Z) (nI P, nI C, nI R, nI L, hs, ss, cs, gs, vs) dr rd (nI D, sm, nI N, nI K, ce, de, ke, se) i0 i1 kp dd tr m)
    exact zq_iret (by decide +kernel) rfl rfl rfl
  · show zq_G _ _ _ _ _ 5 ([(0, .ref 0), (1, .int x), (2, .int y)], [], XH tx (nI Z) (nI P, nI C, nI R, nI L, hs, ss, cs, gs, vs) dr rd (nI D, sm, nI N, nI K, ce, de, ke, se) i0 i1 kp dd tr m)
    refine zq_b [zq_il 1, zq_k 30] [zq_ilchk 1, zq_kchk 30] 8 rfl (by decide +kernel) ?_
    show zq_G _ _ _ _ _ 8 ([(0, .ref 0), (1, .int x), (2, .int y)], [.int 30, .int x], XH tx (nI Z) (nI P, nI C, nI R, nI L, hs, ss, cs, gs, vs) dr rd (nI D, sm, nI N, nI K, ce, de, ke, se) i0 i1 kp dd tr m)
    refine zq_if .gt 21 ((30 : Int) < x.toInt) (by decide +kernel) (zq_tn .gt x (n := 30) (by omega)) (fun c8 => ?_) (fun c8 => ?_)
    · show zq_G _ _ _ _ _ 21 ([(0, .ref 0), (1, .int x), (2, .int y)], [], XH tx (nI Z) (nI P, nI C, nI R, nI L, hs, ss, cs, gs, vs) dr rd (nI D, sm, nI N, nI K, ce, de, ke, se) i0 i1 kp dd tr m)
      refine zq_b [zq_k (-1)] [zq_kchk (-1)] 22 rfl (by decide +kernel) ?_
      show zq_G _ _ _ _ _ 22 ([(0, .ref 0), (1, .int x), (2, .int y)], [.int (-1)], XH tx (nI Z) (nI P, nI C, nI R, nI L, hs, ss, cs, gs, vs) dr rd (nI D, sm, nI N, nI K, ce, de, ke, se) i0 i1 kp dd tr m)
      exact zq_iret (by decide +kernel) rfl rfl rfl
    · show zq_G _ _ _ _ _ 11 ([(0, .ref 0), (1, .int x), (2, .int y)], [], XH tx (nI Z) (nI P, nI C, nI R, nI L, hs, ss, cs, gs, vs) dr rd (nI D, sm, nI N, nI K, ce, de, ke, se) i0 i1 kp dd tr m)
      refine zq_b [zq_il 2, zq_k 200] [zq_ilchk 2, zq_kchk 200] 15 rfl (by decide +kernel) ?_
      show zq_G _ _ _ _ _ 15 ([(0, .ref 0), (1, .int x), (2, .int y)], [.int 200, .int y], XH tx (nI Z) (nI P, nI C, nI R, nI L, hs, ss, cs, gs, vs) dr rd (nI D, sm, nI N, nI K, ce, de, ke, se) i0 i1 kp dd tr m)
      refine zq_callS (av := [.int y, .int 200]) (rest := []) (by decide +kernel) k11_87 (x_isBeyond (x := y) (q := 200) (by omega)) rfl rfl ?_
      show zq_G _ _ _ _ _ 18 ([(0, .ref 0), (1, .int x), (2, .int y)], [.int (zb (y.toInt < 0 ∨ (200 : Int) < y.toInt))], XH tx (nI Z) (nI P, nI C, nI R, nI L, hs, ss, cs, gs, vs) dr rd (nI D, sm, nI N, nI K, ce, de, ke, se) i0 i1 kp dd tr m)
      refine zq_ifz .eq 23 (¬ (y.toInt < 0 ∨ (200 : Int) < y.toInt)) (by decide +kernel) (zb_eq _) (fun c18 => ?_) (fun c18 => ?_)
      · show zq_G _ _ _ _ _ 23 ([(0, .ref 0), (1, .int x), (2, .int y)], [], XH tx (nI Z) (nI P, nI C, nI R, nI L, hs, ss, cs, gs, vs) dr rd (nI D, sm, nI N, nI K, ce, de, ke, se) i0 i1 kp dd tr m)
        exact absurd hb (by omega)
      · show zq_G _ _ _ _ _ 21 ([(0, .ref 0), (1, .int x), (2, .int y)], [], XH tx (nI Z) (nI P, nI C, nI R, nI L, hs, ss, cs, gs, vs) dr rd (nI D, sm, nI N, nI K, ce, de, ke, se) i0 i1 kp dd tr m)
        refine zq_b [zq_k (-1)] [zq_kchk (-1)] 22 rfl (by decide +kernel) ?_
        show zq_G _ _ _ _ _ 22 ([(0, .ref 0), (1, .int x), (2, .int y)], [.int (-1)], XH tx (nI Z) (nI P, nI C, nI R, nI L, hs, ss, cs, gs, vs) dr rd (nI D, sm, nI N, nI K, ce, de, ke, se) i0 i1 kp dd tr m)
        exact zq_iret (by decide +kernel) rfl rfl rfl
set_option maxHeartbeats 4000000 in
set_option maxRecDepth 100000 in
theorem x_nearer {q : Nat} {b : Nat} (hq1 : 1 ≤ q) (hq2 : q ≤ 30) (hb2 : b ≤ 200) (hN : N ≤ 12) (hR : R ≤ 6) : zq_P l mX11_nearer 4 [.ref 0, .int (nI q), .int (nI b)] (XH tx (nI Z) (nI P, nI C, nI R, nI L, hs, ss, cs, gs, vs) dr rd (nI D, sm, nI N, nI K, ce, de, ke, se) i0 i1 kp dd tr m) (some (.int (orB (fun a => decide (¬ zwho (fun r => zac r vs gs R) (fun a => zown de N (nI a) (nI b) (nI q)) ((1 : Int32) <<< (nI a &&& 31)) = zwho (fun r => zac r vs gs R) (fun a => zown de N (nI a) (nI b) (nI L)) ((1 : Int32) <<< (nI a &&& 31)))) 8))) (XH tx (nI Z) (nI P, nI C, nI R, nI L, hs, ss, cs, gs, vs) dr rd (nI D, sm, nI N, nI K, ce, de, ke, se) i0 i1 kp dd tr m) := by
  refine zq_start (by decide +kernel) rfl (Nat.le_of_ble_eq_true rfl) ?_
  show zq_G _ _ _ _ _ 0 ([(0, .ref 0), (1, .int (nI q)), (2, .int (nI b))], [], XH tx (nI Z) (nI P, nI C, nI R, nI L, hs, ss, cs, gs, vs) dr rd (nI D, sm, nI N, nI K, ce, de, ke, se) i0 i1 kp dd tr m)
  refine zq_b [zq_il 1, zq_k 1] [zq_ilchk 1, zq_kchk 1] 2 rfl (by decide +kernel) ?_
  show zq_G _ _ _ _ _ 2 ([(0, .ref 0), (1, .int (nI q)), (2, .int (nI b))], [.int 1, .int (nI q)], XH tx (nI Z) (nI P, nI C, nI R, nI L, hs, ss, cs, gs, vs) dr rd (nI D, sm, nI N, nI K, ce, de, ke, se) i0 i1 kp dd tr m)
  refine zq_if .lt 21 (q < 1) (by decide +kernel) (zq_clt (a := q) (b := 1) (by omega) (by omega)) (fun c2 => absurd c2 (by omega)) (fun c2 => ?_)
  show zq_G _ _ _ _ _ 5 ([(0, .ref 0), (1, .int (nI q)), (2, .int (nI b))], [], XH tx (nI Z) (nI P, nI C, nI R, nI L, hs, ss, cs, gs, vs) dr rd (nI D, sm, nI N, nI K, ce, de, ke, se) i0 i1 kp dd tr m)
  refine zq_b [zq_il 1, zq_k 30] [zq_ilchk 1, zq_kchk 30] 8 rfl (by decide +kernel) ?_
  show zq_G _ _ _ _ _ 8 ([(0, .ref 0), (1, .int (nI q)), (2, .int (nI b))], [.int 30, .int (nI q)], XH tx (nI Z) (nI P, nI C, nI R, nI L, hs, ss, cs, gs, vs) dr rd (nI D, sm, nI N, nI K, ce, de, ke, se) i0 i1 kp dd tr m)
  refine zq_if .gt 21 (30 < q) (by decide +kernel) (zq_cgt (a := q) (b := 30) (by omega) (by omega)) (fun c8 => absurd c8 (by omega)) (fun c8 => ?_)
  show zq_G _ _ _ _ _ 11 ([(0, .ref 0), (1, .int (nI q)), (2, .int (nI b))], [], XH tx (nI Z) (nI P, nI C, nI R, nI L, hs, ss, cs, gs, vs) dr rd (nI D, sm, nI N, nI K, ce, de, ke, se) i0 i1 kp dd tr m)
  refine zq_b [zq_il 2, zq_k 200] [zq_ilchk 2, zq_kchk 200] 15 rfl (by decide +kernel) ?_
  show zq_G _ _ _ _ _ 15 ([(0, .ref 0), (1, .int (nI q)), (2, .int (nI b))], [.int 200, .int (nI b)], XH tx (nI Z) (nI P, nI C, nI R, nI L, hs, ss, cs, gs, vs) dr rd (nI D, sm, nI N, nI K, ce, de, ke, se) i0 i1 kp dd tr m)
  refine zq_callS (av := [.int (nI b), .int 200]) (rest := []) (by decide +kernel) k11_87 (x_isBeyondN (p := b) (q := 200) (by omega) (by omega)) rfl rfl ?_
  show zq_G _ _ _ _ _ 18 ([(0, .ref 0), (1, .int (nI q)), (2, .int (nI b))], [.int (zb (200 < b))], XH tx (nI Z) (nI P, nI C, nI R, nI L, hs, ss, cs, gs, vs) dr rd (nI D, sm, nI N, nI K, ce, de, ke, se) i0 i1 kp dd tr m)
  refine zq_ifz .eq 23 (¬ (200 < b)) (by decide +kernel) (zb_eq _) (fun c18 => ?_) (fun c18 => absurd (by omega) c18)
  show zq_G _ _ _ _ _ 23 ([(0, .ref 0), (1, .int (nI q)), (2, .int (nI b))], [], XH tx (nI Z) (nI P, nI C, nI R, nI L, hs, ss, cs, gs, vs) dr rd (nI D, sm, nI N, nI K, ce, de, ke, se) i0 i1 kp dd tr m)
  refine zq_b [zq_k 0, zq_is1 3, zq_k 0, zq_is1 4] [zq_kchk 0, zq_is1chk 3, zq_kchk 0, zq_is1chk 4] 28 rfl (by decide +kernel) ?_
  show zq_G _ _ _ _ _ 28 ([(0, .ref 0), (1, .int (nI q)), (2, .int (nI b)), (3, .int 0), (4, .int 0)], [], XH tx (nI Z) (nI P, nI C, nI R, nI L, hs, ss, cs, gs, vs) dr rd (nI D, sm, nI N, nI K, ce, de, ke, se) i0 i1 kp dd tr m)
  refine zq_loop (fun i => ([(0, .ref 0), (1, .int (nI q)), (2, .int (nI b)), (3, .int (orB (fun a => decide (¬ zwho (fun r => zac r vs gs R) (fun a => zown de N (nI a) (nI b) (nI q)) ((1 : Int32) <<< (nI a &&& 31)) = zwho (fun r => zac r vs gs R) (fun a => zown de N (nI a) (nI b) (nI L)) ((1 : Int32) <<< (nI a &&& 31)))) i)), (4, .int (nI i))], [], XH tx (nI Z) (nI P, nI C, nI R, nI L, hs, ss, cs, gs, vs) dr rd (nI D, sm, nI N, nI K, ce, de, ke, se) i0 i1 kp dd tr m)) (fun i => True) (8) (0) (by omega) (trivial) (fun i hl28 hi28 hI28 ih28 => ?_) (fun hI28 => ?_)
  · show zq_G _ _ _ _ _ 28 ([(0, .ref 0), (1, .int (nI q)), (2, .int (nI b)), (3, .int (orB (fun a => decide (¬ zwho (fun r => zac r vs gs R) (fun a => zown de N (nI a) (nI b) (nI q)) ((1 : Int32) <<< (nI a &&& 31)) = zwho (fun r => zac r vs gs R) (fun a => zown de N (nI a) (nI b) (nI L)) ((1 : Int32) <<< (nI a &&& 31)))) i)), (4, .int (nI i))], [], XH tx (nI Z) (nI P, nI C, nI R, nI L, hs, ss, cs, gs, vs) dr rd (nI D, sm, nI N, nI K, ce, de, ke, se) i0 i1 kp dd tr m)
    refine zq_b [zq_il 4, zq_k 8] [zq_ilchk 4, zq_kchk 8] 32 rfl (by decide +kernel) ?_
    show zq_G _ _ _ _ _ 32 ([(0, .ref 0), (1, .int (nI q)), (2, .int (nI b)), (3, .int (orB (fun a => decide (¬ zwho (fun r => zac r vs gs R) (fun a => zown de N (nI a) (nI b) (nI q)) ((1 : Int32) <<< (nI a &&& 31)) = zwho (fun r => zac r vs gs R) (fun a => zown de N (nI a) (nI b) (nI L)) ((1 : Int32) <<< (nI a &&& 31)))) i)), (4, .int (nI i))], [.int 8, .int (nI i)], XH tx (nI Z) (nI P, nI C, nI R, nI L, hs, ss, cs, gs, vs) dr rd (nI D, sm, nI N, nI K, ce, de, ke, se) i0 i1 kp dd tr m)
    refine zq_if .ge 79 (8 ≤ i) (by decide +kernel) (zq_cge (a := i) (b := 8) (by omega) (by omega)) (fun c32 => absurd c32 (by omega)) (fun c32 => ?_)
    show zq_G _ _ _ _ _ 35 ([(0, .ref 0), (1, .int (nI q)), (2, .int (nI b)), (3, .int (orB (fun a => decide (¬ zwho (fun r => zac r vs gs R) (fun a => zown de N (nI a) (nI b) (nI q)) ((1 : Int32) <<< (nI a &&& 31)) = zwho (fun r => zac r vs gs R) (fun a => zown de N (nI a) (nI b) (nI L)) ((1 : Int32) <<< (nI a &&& 31)))) i)), (4, .int (nI i))], [], XH tx (nI Z) (nI P, nI C, nI R, nI L, hs, ss, cs, gs, vs) dr rd (nI D, sm, nI N, nI K, ce, de, ke, se) i0 i1 kp dd tr m)
    refine zq_b [zq_al 0, zq_get 11 8, zq_il 4, zq_il 2, zq_il 1] [zq_alchk 0, zq_getchk 11 8, zq_ilchk 4, zq_ilchk 2, zq_ilchk 1] 43 rfl (by decide +kernel) ?_
    show zq_G _ _ _ _ _ 43 ([(0, .ref 0), (1, .int (nI q)), (2, .int (nI b)), (3, .int (orB (fun a => decide (¬ zwho (fun r => zac r vs gs R) (fun a => zown de N (nI a) (nI b) (nI q)) ((1 : Int32) <<< (nI a &&& 31)) = zwho (fun r => zac r vs gs R) (fun a => zown de N (nI a) (nI b) (nI L)) ((1 : Int32) <<< (nI a &&& 31)))) i)), (4, .int (nI i))], [.int (nI q), .int (nI b), .int (nI i), .ref 32], XH tx (nI Z) (nI P, nI C, nI R, nI L, hs, ss, cs, gs, vs) dr rd (nI D, sm, nI N, nI K, ce, de, ke, se) i0 i1 kp dd tr m)
    refine zq_callV (av := [.int (nI i), .int (nI b), .int (nI q)]) (rest := []) (by decide +kernel) k11_174 (c_whoHolds (x := (nI i)) (y := (nI b)) (z := (nI q)) hN hR) rfl rfl rfl rfl ?_
    show zq_G _ _ _ _ _ 46 ([(0, .ref 0), (1, .int (nI q)), (2, .int (nI b)), (3, .int (orB (fun a => decide (¬ zwho (fun r => zac r vs gs R) (fun a => zown de N (nI a) (nI b) (nI q)) ((1 : Int32) <<< (nI a &&& 31)) = zwho (fun r => zac r vs gs R) (fun a => zown de N (nI a) (nI b) (nI L)) ((1 : Int32) <<< (nI a &&& 31)))) i)), (4, .int (nI i))], [.int (zwho (fun r => zac r vs gs R) (fun a => zown de N (nI a) (nI b) (nI q)) ((1 : Int32) <<< (nI i &&& 31)))], XH tx (nI Z) (nI P, nI C, nI R, nI L, hs, ss, cs, gs, vs) dr rd (nI D, sm, nI N, nI K, ce, de, ke, se) i0 i1 kp dd tr m)
    refine zq_b [zq_al 0, zq_get 11 8, zq_il 4, zq_il 2, zq_al 0, zq_get 11 2, zq_get 9 3] [zq_alchk 0, zq_getchk 11 8, zq_ilchk 4, zq_ilchk 2, zq_alchk 0, zq_getchk 11 2, zq_getchk 9 3] 60 rfl (by decide +kernel) ?_
    show zq_G _ _ _ _ _ 60 ([(0, .ref 0), (1, .int (nI q)), (2, .int (nI b)), (3, .int (orB (fun a => decide (¬ zwho (fun r => zac r vs gs R) (fun a => zown de N (nI a) (nI b) (nI q)) ((1 : Int32) <<< (nI a &&& 31)) = zwho (fun r => zac r vs gs R) (fun a => zown de N (nI a) (nI b) (nI L)) ((1 : Int32) <<< (nI a &&& 31)))) i)), (4, .int (nI i))], [.int (nI L), .int (nI b), .int (nI i), .ref 32, .int (zwho (fun r => zac r vs gs R) (fun a => zown de N (nI a) (nI b) (nI q)) ((1 : Int32) <<< (nI i &&& 31)))], XH tx (nI Z) (nI P, nI C, nI R, nI L, hs, ss, cs, gs, vs) dr rd (nI D, sm, nI N, nI K, ce, de, ke, se) i0 i1 kp dd tr m)
    refine zq_callV (av := [.int (nI i), .int (nI b), .int (nI L)]) (rest := [.int (zwho (fun r => zac r vs gs R) (fun a => zown de N (nI a) (nI b) (nI q)) ((1 : Int32) <<< (nI i &&& 31)))]) (by decide +kernel) k11_174 (c_whoHolds (x := (nI i)) (y := (nI b)) (z := (nI L)) hN hR) rfl rfl rfl rfl ?_
    show zq_G _ _ _ _ _ 63 ([(0, .ref 0), (1, .int (nI q)), (2, .int (nI b)), (3, .int (orB (fun a => decide (¬ zwho (fun r => zac r vs gs R) (fun a => zown de N (nI a) (nI b) (nI q)) ((1 : Int32) <<< (nI a &&& 31)) = zwho (fun r => zac r vs gs R) (fun a => zown de N (nI a) (nI b) (nI L)) ((1 : Int32) <<< (nI a &&& 31)))) i)), (4, .int (nI i))], [.int (zwho (fun r => zac r vs gs R) (fun a => zown de N (nI a) (nI b) (nI L)) ((1 : Int32) <<< (nI i &&& 31))), .int (zwho (fun r => zac r vs gs R) (fun a => zown de N (nI a) (nI b) (nI q)) ((1 : Int32) <<< (nI i &&& 31)))], XH tx (nI Z) (nI P, nI C, nI R, nI L, hs, ss, cs, gs, vs) dr rd (nI D, sm, nI N, nI K, ce, de, ke, se) i0 i1 kp dd tr m)
    refine zq_if .eq 73 ((zwho (fun r => zac r vs gs R) (fun a => zown de N (nI a) (nI b) (nI q)) ((1 : Int32) <<< (nI i &&& 31))) = (zwho (fun r => zac r vs gs R) (fun a => zown de N (nI a) (nI b) (nI L)) ((1 : Int32) <<< (nI i &&& 31)))) (by decide +kernel) (Iff.rfl) (fun c63 => ?_) (fun c63 => ?_)
    · show zq_G _ _ _ _ _ 73 ([(0, .ref 0), (1, .int (nI q)), (2, .int (nI b)), (3, .int (orB (fun a => decide (¬ zwho (fun r => zac r vs gs R) (fun a => zown de N (nI a) (nI b) (nI q)) ((1 : Int32) <<< (nI a &&& 31)) = zwho (fun r => zac r vs gs R) (fun a => zown de N (nI a) (nI b) (nI L)) ((1 : Int32) <<< (nI a &&& 31)))) i)), (4, .int (nI i))], [], XH tx (nI Z) (nI P, nI C, nI R, nI L, hs, ss, cs, gs, vs) dr rd (nI D, sm, nI N, nI K, ce, de, ke, se) i0 i1 kp dd tr m)
      refine zq_b [zq_inc 4 1 (nI (i + 1)), zq_go] [zq_incchk 4 1, zq_gochk] 28 rfl (by decide +kernel) ?_
      refine ⟨nI_add i 1, ?_⟩
      show zq_G _ _ _ _ _ 28 ([(0, .ref 0), (1, .int (nI q)), (2, .int (nI b)), (3, .int (orB (fun a => decide (¬ zwho (fun r => zac r vs gs R) (fun a => zown de N (nI a) (nI b) (nI q)) ((1 : Int32) <<< (nI a &&& 31)) = zwho (fun r => zac r vs gs R) (fun a => zown de N (nI a) (nI b) (nI L)) ((1 : Int32) <<< (nI a &&& 31)))) i)), (4, .int (nI (i + 1)))], [], XH tx (nI Z) (nI P, nI C, nI R, nI L, hs, ss, cs, gs, vs) dr rd (nI D, sm, nI N, nI K, ce, de, ke, se) i0 i1 kp dd tr m)
      exact zq_eq (by rw [orB_f (f := (fun a => decide (¬ zwho (fun r => zac r vs gs R) (fun a => zown de N (nI a) (nI b) (nI q)) ((1 : Int32) <<< (nI a &&& 31)) = zwho (fun r => zac r vs gs R) (fun a => zown de N (nI a) (nI b) (nI L)) ((1 : Int32) <<< (nI a &&& 31))))) (decide_eq_false (fun q => q c63))]) (ih28 trivial)
    · show zq_G _ _ _ _ _ 66 ([(0, .ref 0), (1, .int (nI q)), (2, .int (nI b)), (3, .int (orB (fun a => decide (¬ zwho (fun r => zac r vs gs R) (fun a => zown de N (nI a) (nI b) (nI q)) ((1 : Int32) <<< (nI a &&& 31)) = zwho (fun r => zac r vs gs R) (fun a => zown de N (nI a) (nI b) (nI L)) ((1 : Int32) <<< (nI a &&& 31)))) i)), (4, .int (nI i))], [], XH tx (nI Z) (nI P, nI C, nI R, nI L, hs, ss, cs, gs, vs) dr rd (nI D, sm, nI N, nI K, ce, de, ke, se) i0 i1 kp dd tr m)
      refine zq_b [zq_il 3, zq_k 1, zq_il 4, zq_ishl (1 <<< (nI i &&& 31)), zq_ior ((orB (fun a => decide (¬ zwho (fun r => zac r vs gs R) (fun a => zown de N (nI a) (nI b) (nI q)) ((1 : Int32) <<< (nI a &&& 31)) = zwho (fun r => zac r vs gs R) (fun a => zown de N (nI a) (nI b) (nI L)) ((1 : Int32) <<< (nI a &&& 31)))) i) ||| (1 <<< (nI i &&& 31))), zq_is1 3, zq_inc 4 1 (nI (i + 1)), zq_go] [zq_ilchk 3, zq_kchk 1, zq_ilchk 4, zq_is .ishl 1, zq_is .ior 1, zq_is1chk 3, zq_incchk 4 1, zq_gochk] 28 rfl (by decide +kernel) ?_
      refine ⟨rfl, rfl, nI_add i 1, ?_⟩
      show zq_G _ _ _ _ _ 28 ([(0, .ref 0), (1, .int (nI q)), (2, .int (nI b)), (3, .int ((orB (fun a => decide (¬ zwho (fun r => zac r vs gs R) (fun a => zown de N (nI a) (nI b) (nI q)) ((1 : Int32) <<< (nI a &&& 31)) = zwho (fun r => zac r vs gs R) (fun a => zown de N (nI a) (nI b) (nI L)) ((1 : Int32) <<< (nI a &&& 31)))) i) ||| (1 <<< (nI i &&& 31)))), (4, .int (nI (i + 1)))], [], XH tx (nI Z) (nI P, nI C, nI R, nI L, hs, ss, cs, gs, vs) dr rd (nI D, sm, nI N, nI K, ce, de, ke, se) i0 i1 kp dd tr m)
      exact zq_eq (by rw [orB_t (f := (fun a => decide (¬ zwho (fun r => zac r vs gs R) (fun a => zown de N (nI a) (nI b) (nI q)) ((1 : Int32) <<< (nI a &&& 31)) = zwho (fun r => zac r vs gs R) (fun a => zown de N (nI a) (nI b) (nI L)) ((1 : Int32) <<< (nI a &&& 31))))) (decide_eq_true c63)]) (ih28 trivial)
  · show zq_G _ _ _ _ _ 28 ([(0, .ref 0), (1, .int (nI q)), (2, .int (nI b)), (3, .int (orB (fun a => decide (¬ zwho (fun r => zac r vs gs R) (fun a => zown de N (nI a) (nI b) (nI q)) ((1 : Int32) <<< (nI a &&& 31)) = zwho (fun r => zac r vs gs R) (fun a => zown de N (nI a) (nI b) (nI L)) ((1 : Int32) <<< (nI a &&& 31)))) 8)), (4, .int 8)], [], XH tx (nI Z) (nI P, nI C, nI R, nI L, hs, ss, cs, gs, vs) dr rd (nI D, sm, nI N, nI K, ce, de, ke, se) i0 i1 kp dd tr m)
    refine zq_b [zq_il 4, zq_k 8] [zq_ilchk 4, zq_kchk 8] 32 rfl (by decide +kernel) ?_
    show zq_G _ _ _ _ _ 32 ([(0, .ref 0), (1, .int (nI q)), (2, .int (nI b)), (3, .int (orB (fun a => decide (¬ zwho (fun r => zac r vs gs R) (fun a => zown de N (nI a) (nI b) (nI q)) ((1 : Int32) <<< (nI a &&& 31)) = zwho (fun r => zac r vs gs R) (fun a => zown de N (nI a) (nI b) (nI L)) ((1 : Int32) <<< (nI a &&& 31)))) 8)), (4, .int 8)], [.int 8, .int 8], XH tx (nI Z) (nI P, nI C, nI R, nI L, hs, ss, cs, gs, vs) dr rd (nI D, sm, nI N, nI K, ce, de, ke, se) i0 i1 kp dd tr m)
    refine zq_if .ge 79 (8 ≤ 8) (by decide +kernel) (zq_cge (a := 8) (b := 8) (by omega) (by omega)) (fun c32 => ?_) (fun c32 => absurd (by omega) c32)
    show zq_G _ _ _ _ _ 79 ([(0, .ref 0), (1, .int (nI q)), (2, .int (nI b)), (3, .int (orB (fun a => decide (¬ zwho (fun r => zac r vs gs R) (fun a => zown de N (nI a) (nI b) (nI q)) ((1 : Int32) <<< (nI a &&& 31)) = zwho (fun r => zac r vs gs R) (fun a => zown de N (nI a) (nI b) (nI L)) ((1 : Int32) <<< (nI a &&& 31)))) 8)), (4, .int 8)], [], XH tx (nI Z) (nI P, nI C, nI R, nI L, hs, ss, cs, gs, vs) dr rd (nI D, sm, nI N, nI K, ce, de, ke, se) i0 i1 kp dd tr m)
    refine zq_b [zq_il 3] [zq_ilchk 3] 80 rfl (by decide +kernel) ?_
    show zq_G _ _ _ _ _ 80 ([(0, .ref 0), (1, .int (nI q)), (2, .int (nI b)), (3, .int (orB (fun a => decide (¬ zwho (fun r => zac r vs gs R) (fun a => zown de N (nI a) (nI b) (nI q)) ((1 : Int32) <<< (nI a &&& 31)) = zwho (fun r => zac r vs gs R) (fun a => zown de N (nI a) (nI b) (nI L)) ((1 : Int32) <<< (nI a &&& 31)))) 8)), (4, .int 8)], [.int (orB (fun a => decide (¬ zwho (fun r => zac r vs gs R) (fun a => zown de N (nI a) (nI b) (nI q)) ((1 : Int32) <<< (nI a &&& 31)) = zwho (fun r => zac r vs gs R) (fun a => zown de N (nI a) (nI b) (nI L)) ((1 : Int32) <<< (nI a &&& 31)))) 8)], XH tx (nI Z) (nI P, nI C, nI R, nI L, hs, ss, cs, gs, vs) dr rd (nI D, sm, nI N, nI K, ce, de, ke, se) i0 i1 kp dd tr m)
    exact zq_iret (by decide +kernel) rfl rfl rfl
set_option maxHeartbeats 4000000 in
set_option maxRecDepth 100000 in
theorem x_hide_bad {x : Int32} {y : Int32} {u : Int32} (hP : P ≤ 6) (hb : ¬ ((0 ≤ x.toInt ∧ x.toInt < (zp2 P : Int)) ∧ (0 ≤ y.toInt ∧ y.toInt < (zp2 P : Int)) ∧ x &&& y = 0 ∧ 0 ≤ u.toInt ∧ u.toInt ≤ 1)) : zq_P l mX11_hide 1 [.ref 0, .int x, .int y, .int u] (XH tx (nI Z) (nI P, nI C, nI R, nI L, hs, ss, cs, gs, vs) dr rd (nI D, sm, nI N, nI K, ce, de, ke, se) i0 i1 kp dd tr m) (some (.int (-1))) (XH tx (nI Z) (nI P, nI C, nI R, nI L, hs, ss, cs, gs, vs) dr rd (nI D, sm, nI N, nI K, ce, de, ke, se) i0 i1 kp dd tr m) := by
  refine zq_start (by decide +kernel) rfl (Nat.le_of_ble_eq_true rfl) ?_
  show zq_G _ _ _ _ _ 0 ([(0, .ref 0), (1, .int x), (2, .int y), (3, .int u)], [], XH tx (nI Z) (nI P, nI C, nI R, nI L, hs, ss, cs, gs, vs) dr rd (nI D, sm, nI N, nI K, ce, de, ke, se) i0 i1 kp dd tr m)
  refine zq_b [zq_al 0, zq_get 11 2, zq_il 1] [zq_alchk 0, zq_getchk 11 2, zq_ilchk 1] 5 rfl (by decide +kernel) ?_
  show zq_G _ _ _ _ _ 5 ([(0, .ref 0), (1, .int x), (2, .int y), (3, .int u)], [.int x, .ref 2], XH tx (nI Z) (nI P, nI C, nI R, nI L, hs, ss, cs, gs, vs) dr rd (nI D, sm, nI N, nI K, ce, de, ke, se) i0 i1 kp dd tr m)
  refine zq_callV (av := [.int x]) (rest := []) (by decide +kernel) k11_184 (x_areBits (b := x) hP) rfl rfl rfl rfl ?_
  show zq_G _ _ _ _ _ 8 ([(0, .ref 0), (1, .int x), (2, .int y), (3, .int u)], [.int (zb (0 ≤ x.toInt ∧ x.toInt < (zp2 P : Int)))], XH tx (nI Z) (nI P, nI C, nI R, nI L, hs, ss, cs, gs, vs) dr rd (nI D, sm, nI N, nI K, ce, de, ke, se) i0 i1 kp dd tr m)
  refine zq_ifz .eq 36 (¬ (0 ≤ x.toInt ∧ x.toInt < (zp2 P : Int))) (by decide +kernel) (zb_eq _) (fun c8 => ?_) (fun c8 => ?_)
  · show zq_G _ _ _ _ _ 36 ([(0, .ref 0), (1, .int x), (2, .int y), (3, .int u)], [], XH tx (nI Z) (nI P, nI C, nI R, nI L, hs, ss, cs, gs, vs) dr rd (nI D, sm, nI N, nI K, ce, de, ke, se) i0 i1 kp dd tr m)
    refine zq_b [zq_k (-1)] [zq_kchk (-1)] 37 rfl (by decide +kernel) ?_
    show zq_G _ _ _ _ _ 37 ([(0, .ref 0), (1, .int x), (2, .int y), (3, .int u)], [.int (-1)], XH tx (nI Z) (nI P, nI C, nI R, nI L, hs, ss, cs, gs, vs) dr rd (nI D, sm, nI N, nI K, ce, de, ke, se) i0 i1 kp dd tr m)
    exact zq_iret (by decide +kernel) rfl rfl rfl
  · show zq_G _ _ _ _ _ 11 ([(0, .ref 0), (1, .int x), (2, .int y), (3, .int u)], [], XH tx (nI Z) (nI P, nI C, nI R, nI L, hs, ss, cs, gs, vs) dr rd (nI D, sm, nI N, nI K, ce, de, ke, se) i0 i1 kp dd tr m)
    refine zq_b [zq_al 0, zq_get 11 2, zq_il 2] [zq_alchk 0, zq_getchk 11 2, zq_ilchk 2] 16 rfl (by decide +kernel) ?_
    show zq_G _ _ _ _ _ 16 ([(0, .ref 0), (1, .int x), (2, .int y), (3, .int u)], [.int y, .ref 2], XH tx (nI Z) (nI P, nI C, nI R, nI L, hs, ss, cs, gs, vs) dr rd (nI D, sm, nI N, nI K, ce, de, ke, se) i0 i1 kp dd tr m)
    refine zq_callV (av := [.int y]) (rest := []) (by decide +kernel) k11_184 (x_areBits (b := y) hP) rfl rfl rfl rfl ?_
    show zq_G _ _ _ _ _ 19 ([(0, .ref 0), (1, .int x), (2, .int y), (3, .int u)], [.int (zb (0 ≤ y.toInt ∧ y.toInt < (zp2 P : Int)))], XH tx (nI Z) (nI P, nI C, nI R, nI L, hs, ss, cs, gs, vs) dr rd (nI D, sm, nI N, nI K, ce, de, ke, se) i0 i1 kp dd tr m)
    refine zq_ifz .eq 36 (¬ (0 ≤ y.toInt ∧ y.toInt < (zp2 P : Int))) (by decide +kernel) (zb_eq _) (fun c19 => ?_) (fun c19 => ?_)
    · show zq_G _ _ _ _ _ 36 ([(0, .ref 0), (1, .int x), (2, .int y), (3, .int u)], [], XH tx (nI Z) (nI P, nI C, nI R, nI L, hs, ss, cs, gs, vs) dr rd (nI D, sm, nI N, nI K, ce, de, ke, se) i0 i1 kp dd tr m)
      refine zq_b [zq_k (-1)] [zq_kchk (-1)] 37 rfl (by decide +kernel) ?_
      show zq_G _ _ _ _ _ 37 ([(0, .ref 0), (1, .int x), (2, .int y), (3, .int u)], [.int (-1)], XH tx (nI Z) (nI P, nI C, nI R, nI L, hs, ss, cs, gs, vs) dr rd (nI D, sm, nI N, nI K, ce, de, ke, se) i0 i1 kp dd tr m)
      exact zq_iret (by decide +kernel) rfl rfl rfl
    · show zq_G _ _ _ _ _ 22 ([(0, .ref 0), (1, .int x), (2, .int y), (3, .int u)], [], XH tx (nI Z) (nI P, nI C, nI R, nI L, hs, ss, cs, gs, vs) dr rd (nI D, sm, nI N, nI K, ce, de, ke, se) i0 i1 kp dd tr m)
      refine zq_b [zq_il 1, zq_il 2, zq_iand (x &&& y)] [zq_ilchk 1, zq_ilchk 2, zq_is .iand 1] 25 rfl (by decide +kernel) ?_
      refine ⟨rfl, ?_⟩
      show zq_G _ _ _ _ _ 25 ([(0, .ref 0), (1, .int x), (2, .int y), (3, .int u)], [.int (x &&& y)], XH tx (nI Z) (nI P, nI C, nI R, nI L, hs, ss, cs, gs, vs) dr rd (nI D, sm, nI N, nI K, ce, de, ke, se) i0 i1 kp dd tr m)
      refine zq_ifz .ne 36 (¬ (x &&& y) = 0) (by decide +kernel) (Iff.rfl) (fun c25 => ?_) (fun c25 => ?_)
      · show zq_G _ _ _ _ _ 36 ([(0, .ref 0), (1, .int x), (2, .int y), (3, .int u)], [], XH tx (nI Z) (nI P, nI C, nI R, nI L, hs, ss, cs, gs, vs) dr rd (nI D, sm, nI N, nI K, ce, de, ke, se) i0 i1 kp dd tr m)
        refine zq_b [zq_k (-1)] [zq_kchk (-1)] 37 rfl (by decide +kernel) ?_
        show zq_G _ _ _ _ _ 37 ([(0, .ref 0), (1, .int x), (2, .int y), (3, .int u)], [.int (-1)], XH tx (nI Z) (nI P, nI C, nI R, nI L, hs, ss, cs, gs, vs) dr rd (nI D, sm, nI N, nI K, ce, de, ke, se) i0 i1 kp dd tr m)
        exact zq_iret (by decide +kernel) rfl rfl rfl
      · show zq_G _ _ _ _ _ 28 ([(0, .ref 0), (1, .int x), (2, .int y), (3, .int u)], [], XH tx (nI Z) (nI P, nI C, nI R, nI L, hs, ss, cs, gs, vs) dr rd (nI D, sm, nI N, nI K, ce, de, ke, se) i0 i1 kp dd tr m)
        refine zq_b [zq_il 3, zq_k 1] [zq_ilchk 3, zq_kchk 1] 30 rfl (by decide +kernel) ?_
        show zq_G _ _ _ _ _ 30 ([(0, .ref 0), (1, .int x), (2, .int y), (3, .int u)], [.int 1, .int u], XH tx (nI Z) (nI P, nI C, nI R, nI L, hs, ss, cs, gs, vs) dr rd (nI D, sm, nI N, nI K, ce, de, ke, se) i0 i1 kp dd tr m)
        refine zq_callS (av := [.int u, .int 1]) (rest := []) (by decide +kernel) k11_87 (x_isBeyond (x := u) (q := 1) (by omega)) rfl rfl ?_
        show zq_G _ _ _ _ _ 33 ([(0, .ref 0), (1, .int x), (2, .int y), (3, .int u)], [.int (zb (u.toInt < 0 ∨ (1 : Int) < u.toInt))], XH tx (nI Z) (nI P, nI C, nI R, nI L, hs, ss, cs, gs, vs) dr rd (nI D, sm, nI N, nI K, ce, de, ke, se) i0 i1 kp dd tr m)
        refine zq_ifz .eq 38 (¬ (u.toInt < 0 ∨ (1 : Int) < u.toInt)) (by decide +kernel) (zb_eq _) (fun c33 => ?_) (fun c33 => ?_)
        · show zq_G _ _ _ _ _ 38 ([(0, .ref 0), (1, .int x), (2, .int y), (3, .int u)], [], XH tx (nI Z) (nI P, nI C, nI R, nI L, hs, ss, cs, gs, vs) dr rd (nI D, sm, nI N, nI K, ce, de, ke, se) i0 i1 kp dd tr m)
          exact absurd ⟨Decidable.not_not.mp c8, Decidable.not_not.mp c19, Decidable.not_not.mp c25, by omega, by omega⟩ hb
        · show zq_G _ _ _ _ _ 36 ([(0, .ref 0), (1, .int x), (2, .int y), (3, .int u)], [], XH tx (nI Z) (nI P, nI C, nI R, nI L, hs, ss, cs, gs, vs) dr rd (nI D, sm, nI N, nI K, ce, de, ke, se) i0 i1 kp dd tr m)
          refine zq_b [zq_k (-1)] [zq_kchk (-1)] 37 rfl (by decide +kernel) ?_
          show zq_G _ _ _ _ _ 37 ([(0, .ref 0), (1, .int x), (2, .int y), (3, .int u)], [.int (-1)], XH tx (nI Z) (nI P, nI C, nI R, nI L, hs, ss, cs, gs, vs) dr rd (nI D, sm, nI N, nI K, ce, de, ke, se) i0 i1 kp dd tr m)
          exact zq_iret (by decide +kernel) rfl rfl rfl
set_option maxHeartbeats 4000000 in
set_option maxRecDepth 100000 in
theorem x_hide_0 {x : Int32} {y : Int32} (hP : P ≤ 6) (hce : ∀ j, j < P → ce j = nI (cn j) ∧ cn j ≤ 26) (hx : 0 ≤ x.toInt ∧ x.toInt < (zp2 P : Int)) (hy : 0 ≤ y.toInt ∧ y.toInt < (zp2 P : Int)) (hxy : x &&& y = 0) : zq_P l mX11_hide 6 [.ref 0, .int x, .int y, .int 0] (XH tx (nI Z) (nI P, nI C, nI R, nI L, hs, ss, cs, gs, vs) dr rd (nI D, sm, nI N, nI K, ce, de, ke, se) i0 i1 kp dd tr m) (some (.int (if zleast (fun c => nearN (colB (x &&& orB (bareB P hs sm cn) P) cn c) cn P) (fun c => farN (colB (y &&& orB (bareB P hs sm cn) P) cn c) cn P) = -9 then -9 else zbc (zleast (fun c => nearN (colB (x &&& orB (bareB P hs sm cn) P) cn c) cn P) (fun c => farN (colB (y &&& orB (bareB P hs sm cn) P) cn c) cn P))))) (XH tx (nI Z) (nI P, nI C, nI R, nI L, hs, ss, cs, gs, vs) dr rd (nI D, sm, nI N, nI K, ce, de, ke, se) i0 i1 kp dd tr m) := by
  refine zq_start (by decide +kernel) rfl (Nat.le_of_ble_eq_true rfl) ?_
  show zq_G _ _ _ _ _ 0 ([(0, .ref 0), (1, .int x), (2, .int y), (3, .int 0)], [], XH tx (nI Z) (nI P, nI C, nI R, nI L, hs, ss, cs, gs, vs) dr rd (nI D, sm, nI N, nI K, ce, de, ke, se) i0 i1 kp dd tr m)
  refine zq_b [zq_al 0, zq_get 11 2, zq_il 1] [zq_alchk 0, zq_getchk 11 2, zq_ilchk 1] 5 rfl (by decide +kernel) ?_
  show zq_G _ _ _ _ _ 5 ([(0, .ref 0), (1, .int x), (2, .int y), (3, .int 0)], [.int x, .ref 2], XH tx (nI Z) (nI P, nI C, nI R, nI L, hs, ss, cs, gs, vs) dr rd (nI D, sm, nI N, nI K, ce, de, ke, se) i0 i1 kp dd tr m)
  refine zq_callV (av := [.int x]) (rest := []) (by decide +kernel) k11_184 (x_areBits (b := x) hP) rfl rfl rfl rfl ?_
  show zq_G _ _ _ _ _ 8 ([(0, .ref 0), (1, .int x), (2, .int y), (3, .int 0)], [.int (zb (0 ≤ x.toInt ∧ x.toInt < (zp2 P : Int)))], XH tx (nI Z) (nI P, nI C, nI R, nI L, hs, ss, cs, gs, vs) dr rd (nI D, sm, nI N, nI K, ce, de, ke, se) i0 i1 kp dd tr m)
  refine zq_ifz .eq 36 (¬ (0 ≤ x.toInt ∧ x.toInt < (zp2 P : Int))) (by decide +kernel) (zb_eq _) (fun c8 => absurd c8 (fun q => q hx)) (fun c8 => ?_)
  show zq_G _ _ _ _ _ 11 ([(0, .ref 0), (1, .int x), (2, .int y), (3, .int 0)], [], XH tx (nI Z) (nI P, nI C, nI R, nI L, hs, ss, cs, gs, vs) dr rd (nI D, sm, nI N, nI K, ce, de, ke, se) i0 i1 kp dd tr m)
  refine zq_b [zq_al 0, zq_get 11 2, zq_il 2] [zq_alchk 0, zq_getchk 11 2, zq_ilchk 2] 16 rfl (by decide +kernel) ?_
  show zq_G _ _ _ _ _ 16 ([(0, .ref 0), (1, .int x), (2, .int y), (3, .int 0)], [.int y, .ref 2], XH tx (nI Z) (nI P, nI C, nI R, nI L, hs, ss, cs, gs, vs) dr rd (nI D, sm, nI N, nI K, ce, de, ke, se) i0 i1 kp dd tr m)
  refine zq_callV (av := [.int y]) (rest := []) (by decide +kernel) k11_184 (x_areBits (b := y) hP) rfl rfl rfl rfl ?_
  show zq_G _ _ _ _ _ 19 ([(0, .ref 0), (1, .int x), (2, .int y), (3, .int 0)], [.int (zb (0 ≤ y.toInt ∧ y.toInt < (zp2 P : Int)))], XH tx (nI Z) (nI P, nI C, nI R, nI L, hs, ss, cs, gs, vs) dr rd (nI D, sm, nI N, nI K, ce, de, ke, se) i0 i1 kp dd tr m)
  refine zq_ifz .eq 36 (¬ (0 ≤ y.toInt ∧ y.toInt < (zp2 P : Int))) (by decide +kernel) (zb_eq _) (fun c19 => absurd c19 (fun q => q hy)) (fun c19 => ?_)
  show zq_G _ _ _ _ _ 22 ([(0, .ref 0), (1, .int x), (2, .int y), (3, .int 0)], [], XH tx (nI Z) (nI P, nI C, nI R, nI L, hs, ss, cs, gs, vs) dr rd (nI D, sm, nI N, nI K, ce, de, ke, se) i0 i1 kp dd tr m)
  refine zq_b [zq_il 1, zq_il 2, zq_iand (x &&& y)] [zq_ilchk 1, zq_ilchk 2, zq_is .iand 1] 25 rfl (by decide +kernel) ?_
  refine ⟨rfl, ?_⟩
  show zq_G _ _ _ _ _ 25 ([(0, .ref 0), (1, .int x), (2, .int y), (3, .int 0)], [.int (x &&& y)], XH tx (nI Z) (nI P, nI C, nI R, nI L, hs, ss, cs, gs, vs) dr rd (nI D, sm, nI N, nI K, ce, de, ke, se) i0 i1 kp dd tr m)
  refine zq_ifz .ne 36 (¬ (x &&& y) = 0) (by decide +kernel) (Iff.rfl) (fun c25 => absurd c25 (fun q => q hxy)) (fun c25 => ?_)
  show zq_G _ _ _ _ _ 28 ([(0, .ref 0), (1, .int x), (2, .int y), (3, .int 0)], [], XH tx (nI Z) (nI P, nI C, nI R, nI L, hs, ss, cs, gs, vs) dr rd (nI D, sm, nI N, nI K, ce, de, ke, se) i0 i1 kp dd tr m)
  refine zq_b [zq_il 3, zq_k 1] [zq_ilchk 3, zq_kchk 1] 30 rfl (by decide +kernel) ?_
  show zq_G _ _ _ _ _ 30 ([(0, .ref 0), (1, .int x), (2, .int y), (3, .int 0)], [.int 1, .int 0], XH tx (nI Z) (nI P, nI C, nI R, nI L, hs, ss, cs, gs, vs) dr rd (nI D, sm, nI N, nI K, ce, de, ke, se) i0 i1 kp dd tr m)
  refine zq_callS (av := [.int 0, .int 1]) (rest := []) (by decide +kernel) k11_87 (x_isBeyondN (p := 0) (q := 1) (by omega) (by omega)) rfl rfl ?_
  show zq_G _ _ _ _ _ 33 ([(0, .ref 0), (1, .int x), (2, .int y), (3, .int 0)], [.int (zb (1 < 0))], XH tx (nI Z) (nI P, nI C, nI R, nI L, hs, ss, cs, gs, vs) dr rd (nI D, sm, nI N, nI K, ce, de, ke, se) i0 i1 kp dd tr m)
  refine zq_ifz .eq 38 (¬ (1 < 0)) (by decide +kernel) (zb_eq _) (fun c33 => ?_) (fun c33 => absurd (by omega) c33)
  show zq_G _ _ _ _ _ 38 ([(0, .ref 0), (1, .int x), (2, .int y), (3, .int 0)], [], XH tx (nI Z) (nI P, nI C, nI R, nI L, hs, ss, cs, gs, vs) dr rd (nI D, sm, nI N, nI K, ce, de, ke, se) i0 i1 kp dd tr m)
  refine zq_b [zq_al 0, zq_get 11 5, zq_il 1, zq_il 2] [zq_alchk 0, zq_getchk 11 5, zq_ilchk 1, zq_ilchk 2] 44 rfl (by decide +kernel) ?_
  show zq_G _ _ _ _ _ 44 ([(0, .ref 0), (1, .int x), (2, .int y), (3, .int 0)], [.int y, .int x, .ref 15], XH tx (nI Z) (nI P, nI C, nI R, nI L, hs, ss, cs, gs, vs) dr rd (nI D, sm, nI N, nI K, ce, de, ke, se) i0 i1 kp dd tr m)
  refine zq_callV (av := [.int x, .int y]) (rest := []) (by decide +kernel) k11_187 (c_leastSmoke (x := x) (y := y) hP hce) rfl rfl rfl rfl ?_
  show zq_G _ _ _ _ _ 47 ([(0, .ref 0), (1, .int x), (2, .int y), (3, .int 0)], [.int (zleast (fun c => nearN (colB (x &&& orB (bareB P hs sm cn) P) cn c) cn P) (fun c => farN (colB (y &&& orB (bareB P hs sm cn) P) cn c) cn P))], XH tx (nI Z) (nI P, nI C, nI R, nI L, hs, ss, cs, gs, vs) dr rd (nI D, sm, nI N, nI K, ce, de, ke, se) i0 i1 kp dd tr m)
  refine zq_b [zq_is1 4, zq_il 4, zq_k (-9)] [zq_is1chk 4, zq_ilchk 4, zq_kchk (-9)] 53 rfl (by decide +kernel) ?_
  show zq_G _ _ _ _ _ 53 ([(0, .ref 0), (1, .int x), (2, .int y), (3, .int 0), (4, .int (zleast (fun c => nearN (colB (x &&& orB (bareB P hs sm cn) P) cn c) cn P) (fun c => farN (colB (y &&& orB (bareB P hs sm cn) P) cn c) cn P)))], [.int (-9), .int (zleast (fun c => nearN (colB (x &&& orB (bareB P hs sm cn) P) cn c) cn P) (fun c => farN (colB (y &&& orB (bareB P hs sm cn) P) cn c) cn P))], XH tx (nI Z) (nI P, nI C, nI R, nI L, hs, ss, cs, gs, vs) dr rd (nI D, sm, nI N, nI K, ce, de, ke, se) i0 i1 kp dd tr m)
  refine zq_if .ne 59 (¬ (zleast (fun c => nearN (colB (x &&& orB (bareB P hs sm cn) P) cn c) cn P) (fun c => farN (colB (y &&& orB (bareB P hs sm cn) P) cn c) cn P)) = (-9)) (by decide +kernel) (Iff.rfl) (fun c53 => ?_) (fun c53 => ?_)
  · show zq_G _ _ _ _ _ 59 ([(0, .ref 0), (1, .int x), (2, .int y), (3, .int 0), (4, .int (zleast (fun c => nearN (colB (x &&& orB (bareB P hs sm cn) P) cn c) cn P) (fun c => farN (colB (y &&& orB (bareB P hs sm cn) P) cn c) cn P)))], [], XH tx (nI Z) (nI P, nI C, nI R, nI L, hs, ss, cs, gs, vs) dr rd (nI D, sm, nI N, nI K, ce, de, ke, se) i0 i1 kp dd tr m)
    refine zq_b [zq_il 3] [zq_ilchk 3] 60 rfl (by decide +kernel) ?_
    show zq_G _ _ _ _ _ 60 ([(0, .ref 0), (1, .int x), (2, .int y), (3, .int 0), (4, .int (zleast (fun c => nearN (colB (x &&& orB (bareB P hs sm cn) P) cn c) cn P) (fun c => farN (colB (y &&& orB (bareB P hs sm cn) P) cn c) cn P)))], [.int 0], XH tx (nI Z) (nI P, nI C, nI R, nI L, hs, ss, cs, gs, vs) dr rd (nI D, sm, nI N, nI K, ce, de, ke, se) i0 i1 kp dd tr m)
    refine zq_ifz .ne 71 (¬ 0 = 0) (by decide +kernel) (zq_cne (a := 0) (b := 0) (by omega) (by omega)) (fun c60 => absurd c60 (fun q => q rfl)) (fun c60 => ?_)
    show zq_G _ _ _ _ _ 63 ([(0, .ref 0), (1, .int x), (2, .int y), (3, .int 0), (4, .int (zleast (fun c => nearN (colB (x &&& orB (bareB P hs sm cn) P) cn c) cn P) (fun c => farN (colB (y &&& orB (bareB P hs sm cn) P) cn c) cn P)))], [], XH tx (nI Z) (nI P, nI C, nI R, nI L, hs, ss, cs, gs, vs) dr rd (nI D, sm, nI N, nI K, ce, de, ke, se) i0 i1 kp dd tr m)
    refine zq_b [zq_il 4] [zq_ilchk 4] 65 rfl (by decide +kernel) ?_
    show zq_G _ _ _ _ _ 65 ([(0, .ref 0), (1, .int x), (2, .int y), (3, .int 0), (4, .int (zleast (fun c => nearN (colB (x &&& orB (bareB P hs sm cn) P) cn c) cn P) (fun c => farN (colB (y &&& orB (bareB P hs sm cn) P) cn c) cn P)))], [.int (zleast (fun c => nearN (colB (x &&& orB (bareB P hs sm cn) P) cn c) cn P) (fun c => farN (colB (y &&& orB (bareB P hs sm cn) P) cn c) cn P))], XH tx (nI Z) (nI P, nI C, nI R, nI L, hs, ss, cs, gs, vs) dr rd (nI D, sm, nI N, nI K, ce, de, ke, se) i0 i1 kp dd tr m)
    refine zq_callS (av := [.int (zleast (fun c => nearN (colB (x &&& orB (bareB P hs sm cn) P) cn c) cn P) (fun c => farN (colB (y &&& orB (bareB P hs sm cn) P) cn c) cn P))]) (rest := []) (by decide +kernel) k11_145 (c_bitCount (x := (zleast (fun c => nearN (colB (x &&& orB (bareB P hs sm cn) P) cn c) cn P) (fun c => farN (colB (y &&& orB (bareB P hs sm cn) P) cn c) cn P)))) rfl rfl ?_
    show zq_G _ _ _ _ _ 68 ([(0, .ref 0), (1, .int x), (2, .int y), (3, .int 0), (4, .int (zleast (fun c => nearN (colB (x &&& orB (bareB P hs sm cn) P) cn c) cn P) (fun c => farN (colB (y &&& orB (bareB P hs sm cn) P) cn c) cn P)))], [.int (zbc (zleast (fun c => nearN (colB (x &&& orB (bareB P hs sm cn) P) cn c) cn P) (fun c => farN (colB (y &&& orB (bareB P hs sm cn) P) cn c) cn P)))], XH tx (nI Z) (nI P, nI C, nI R, nI L, hs, ss, cs, gs, vs) dr rd (nI D, sm, nI N, nI K, ce, de, ke, se) i0 i1 kp dd tr m)
    refine zq_b [zq_go] [zq_gochk] 73 rfl (by decide +kernel) ?_
    show zq_G _ _ _ _ _ 73 ([(0, .ref 0), (1, .int x), (2, .int y), (3, .int 0), (4, .int (zleast (fun c => nearN (colB (x &&& orB (bareB P hs sm cn) P) cn c) cn P) (fun c => farN (colB (y &&& orB (bareB P hs sm cn) P) cn c) cn P)))], [.int (zbc (zleast (fun c => nearN (colB (x &&& orB (bareB P hs sm cn) P) cn c) cn P) (fun c => farN (colB (y &&& orB (bareB P hs sm cn) P) cn c) cn P)))], XH tx (nI Z) (nI P, nI C, nI R, nI L, hs, ss, cs, gs, vs) dr rd (nI D, sm, nI N, nI K, ce, de, ke, se) i0 i1 kp dd tr m)
    exact zq_iret (by decide +kernel) rfl (by rw [if_neg c53]) rfl
  · show zq_G _ _ _ _ _ 56 ([(0, .ref 0), (1, .int x), (2, .int y), (3, .int 0), (4, .int (zleast (fun c => nearN (colB (x &&& orB (bareB P hs sm cn) P) cn c) cn P) (fun c => farN (colB (y &&& orB (bareB P hs sm cn) P) cn c) cn P)))], [], XH tx (nI Z) (nI P, nI C, nI R, nI L, hs, ss, cs, gs, vs) dr rd (nI D, sm, nI N, nI K, ce, de, ke, se) i0 i1 kp dd tr m)
    refine zq_b [zq_k (-9)] [zq_kchk (-9)] 58 rfl (by decide +kernel) ?_
    show zq_G _ _ _ _ _ 58 ([(0, .ref 0), (1, .int x), (2, .int y), (3, .int 0), (4, .int (zleast (fun c => nearN (colB (x &&& orB (bareB P hs sm cn) P) cn c) cn P) (fun c => farN (colB (y &&& orB (bareB P hs sm cn) P) cn c) cn P)))], [.int (-9)], XH tx (nI Z) (nI P, nI C, nI R, nI L, hs, ss, cs, gs, vs) dr rd (nI D, sm, nI N, nI K, ce, de, ke, se) i0 i1 kp dd tr m)
    exact zq_iret (by decide +kernel) rfl (by rw [if_pos (Decidable.not_not.mp c53)]) rfl
set_option maxHeartbeats 4000000 in
set_option maxRecDepth 100000 in
theorem x_hide_1 {x : Int32} {y : Int32} (hP : P ≤ 6) (hce : ∀ j, j < P → ce j = nI (cn j) ∧ cn j ≤ 26) (hx : 0 ≤ x.toInt ∧ x.toInt < (zp2 P : Int)) (hy : 0 ≤ y.toInt ∧ y.toInt < (zp2 P : Int)) (hxy : x &&& y = 0) : zq_P l mX11_hide 6 [.ref 0, .int x, .int y, .int 1] (XH tx (nI Z) (nI P, nI C, nI R, nI L, hs, ss, cs, gs, vs) dr rd (nI D, sm, nI N, nI K, ce, de, ke, se) i0 i1 kp dd tr m) (some (.int (if zleast (fun c => nearN (colB (x &&& orB (bareB P hs sm cn) P) cn c) cn P) (fun c => farN (colB (y &&& orB (bareB P hs sm cn) P) cn c) cn P) = -9 then -9 else zleast (fun c => nearN (colB (x &&& orB (bareB P hs sm cn) P) cn c) cn P) (fun c => farN (colB (y &&& orB (bareB P hs sm cn) P) cn c) cn P)))) (XH tx (nI Z) (nI P, nI C, nI R, nI L, hs, ss, cs, gs, vs) dr rd (nI D, sm, nI N, nI K, ce, de, ke, se) i0 i1 kp dd tr m) := by
  refine zq_start (by decide +kernel) rfl (Nat.le_of_ble_eq_true rfl) ?_
  show zq_G _ _ _ _ _ 0 ([(0, .ref 0), (1, .int x), (2, .int y), (3, .int 1)], [], XH tx (nI Z) (nI P, nI C, nI R, nI L, hs, ss, cs, gs, vs) dr rd (nI D, sm, nI N, nI K, ce, de, ke, se) i0 i1 kp dd tr m)
  refine zq_b [zq_al 0, zq_get 11 2, zq_il 1] [zq_alchk 0, zq_getchk 11 2, zq_ilchk 1] 5 rfl (by decide +kernel) ?_
  show zq_G _ _ _ _ _ 5 ([(0, .ref 0), (1, .int x), (2, .int y), (3, .int 1)], [.int x, .ref 2], XH tx (nI Z) (nI P, nI C, nI R, nI L, hs, ss, cs, gs, vs) dr rd (nI D, sm, nI N, nI K, ce, de, ke, se) i0 i1 kp dd tr m)
  refine zq_callV (av := [.int x]) (rest := []) (by decide +kernel) k11_184 (x_areBits (b := x) hP) rfl rfl rfl rfl ?_
  show zq_G _ _ _ _ _ 8 ([(0, .ref 0), (1, .int x), (2, .int y), (3, .int 1)], [.int (zb (0 ≤ x.toInt ∧ x.toInt < (zp2 P : Int)))], XH tx (nI Z) (nI P, nI C, nI R, nI L, hs, ss, cs, gs, vs) dr rd (nI D, sm, nI N, nI K, ce, de, ke, se) i0 i1 kp dd tr m)
  refine zq_ifz .eq 36 (¬ (0 ≤ x.toInt ∧ x.toInt < (zp2 P : Int))) (by decide +kernel) (zb_eq _) (fun c8 => absurd c8 (fun q => q hx)) (fun c8 => ?_)
  show zq_G _ _ _ _ _ 11 ([(0, .ref 0), (1, .int x), (2, .int y), (3, .int 1)], [], XH tx (nI Z) (nI P, nI C, nI R, nI L, hs, ss, cs, gs, vs) dr rd (nI D, sm, nI N, nI K, ce, de, ke, se) i0 i1 kp dd tr m)
  refine zq_b [zq_al 0, zq_get 11 2, zq_il 2] [zq_alchk 0, zq_getchk 11 2, zq_ilchk 2] 16 rfl (by decide +kernel) ?_
  show zq_G _ _ _ _ _ 16 ([(0, .ref 0), (1, .int x), (2, .int y), (3, .int 1)], [.int y, .ref 2], XH tx (nI Z) (nI P, nI C, nI R, nI L, hs, ss, cs, gs, vs) dr rd (nI D, sm, nI N, nI K, ce, de, ke, se) i0 i1 kp dd tr m)
  refine zq_callV (av := [.int y]) (rest := []) (by decide +kernel) k11_184 (x_areBits (b := y) hP) rfl rfl rfl rfl ?_
  show zq_G _ _ _ _ _ 19 ([(0, .ref 0), (1, .int x), (2, .int y), (3, .int 1)], [.int (zb (0 ≤ y.toInt ∧ y.toInt < (zp2 P : Int)))], XH tx (nI Z) (nI P, nI C, nI R, nI L, hs, ss, cs, gs, vs) dr rd (nI D, sm, nI N, nI K, ce, de, ke, se) i0 i1 kp dd tr m)
  refine zq_ifz .eq 36 (¬ (0 ≤ y.toInt ∧ y.toInt < (zp2 P : Int))) (by decide +kernel) (zb_eq _) (fun c19 => absurd c19 (fun q => q hy)) (fun c19 => ?_)
  show zq_G _ _ _ _ _ 22 ([(0, .ref 0), (1, .int x), (2, .int y), (3, .int 1)], [], XH tx (nI Z) (nI P, nI C, nI R, nI L, hs, ss, cs, gs, vs) dr rd (nI D, sm, nI N, nI K, ce, de, ke, se) i0 i1 kp dd tr m)
  refine zq_b [zq_il 1, zq_il 2, zq_iand (x &&& y)] [zq_ilchk 1, zq_ilchk 2, zq_is .iand 1] 25 rfl (by decide +kernel) ?_
  refine ⟨rfl, ?_⟩
  show zq_G _ _ _ _ _ 25 ([(0, .ref 0), (1, .int x), (2, .int y), (3, .int 1)], [.int (x &&& y)], XH tx (nI Z) (nI P, nI C, nI R, nI L, hs, ss, cs, gs, vs) dr rd (nI D, sm, nI N, nI K, ce, de, ke, se) i0 i1 kp dd tr m)
  refine zq_ifz .ne 36 (¬ (x &&& y) = 0) (by decide +kernel) (Iff.rfl) (fun c25 => absurd c25 (fun q => q hxy)) (fun c25 => ?_)
  show zq_G _ _ _ _ _ 28 ([(0, .ref 0), (1, .int x), (2, .int y), (3, .int 1)], [], XH tx (nI Z) (nI P, nI C, nI R, nI L, hs, ss, cs, gs, vs) dr rd (nI D, sm, nI N, nI K, ce, de, ke, se) i0 i1 kp dd tr m)
  refine zq_b [zq_il 3, zq_k 1] [zq_ilchk 3, zq_kchk 1] 30 rfl (by decide +kernel) ?_
  show zq_G _ _ _ _ _ 30 ([(0, .ref 0), (1, .int x), (2, .int y), (3, .int 1)], [.int 1, .int 1], XH tx (nI Z) (nI P, nI C, nI R, nI L, hs, ss, cs, gs, vs) dr rd (nI D, sm, nI N, nI K, ce, de, ke, se) i0 i1 kp dd tr m)
  refine zq_callS (av := [.int 1, .int 1]) (rest := []) (by decide +kernel) k11_87 (x_isBeyondN (p := 1) (q := 1) (by omega) (by omega)) rfl rfl ?_
  show zq_G _ _ _ _ _ 33 ([(0, .ref 0), (1, .int x), (2, .int y), (3, .int 1)], [.int (zb (1 < 1))], XH tx (nI Z) (nI P, nI C, nI R, nI L, hs, ss, cs, gs, vs) dr rd (nI D, sm, nI N, nI K, ce, de, ke, se) i0 i1 kp dd tr m)
  refine zq_ifz .eq 38 (¬ (1 < 1)) (by decide +kernel) (zb_eq _) (fun c33 => ?_) (fun c33 => absurd (by omega) c33)
  show zq_G _ _ _ _ _ 38 ([(0, .ref 0), (1, .int x), (2, .int y), (3, .int 1)], [], XH tx (nI Z) (nI P, nI C, nI R, nI L, hs, ss, cs, gs, vs) dr rd (nI D, sm, nI N, nI K, ce, de, ke, se) i0 i1 kp dd tr m)
  refine zq_b [zq_al 0, zq_get 11 5, zq_il 1, zq_il 2] [zq_alchk 0, zq_getchk 11 5, zq_ilchk 1, zq_ilchk 2] 44 rfl (by decide +kernel) ?_
  show zq_G _ _ _ _ _ 44 ([(0, .ref 0), (1, .int x), (2, .int y), (3, .int 1)], [.int y, .int x, .ref 15], XH tx (nI Z) (nI P, nI C, nI R, nI L, hs, ss, cs, gs, vs) dr rd (nI D, sm, nI N, nI K, ce, de, ke, se) i0 i1 kp dd tr m)
  refine zq_callV (av := [.int x, .int y]) (rest := []) (by decide +kernel) k11_187 (c_leastSmoke (x := x) (y := y) hP hce) rfl rfl rfl rfl ?_
  show zq_G _ _ _ _ _ 47 ([(0, .ref 0), (1, .int x), (2, .int y), (3, .int 1)], [.int (zleast (fun c => nearN (colB (x &&& orB (bareB P hs sm cn) P) cn c) cn P) (fun c => farN (colB (y &&& orB (bareB P hs sm cn) P) cn c) cn P))], XH tx (nI Z) (nI P, nI C, nI R, nI L, hs, ss, cs, gs, vs) dr rd (nI D, sm, nI N, nI K, ce, de, ke, se) i0 i1 kp dd tr m)
  refine zq_b [zq_is1 4, zq_il 4, zq_k (-9)] [zq_is1chk 4, zq_ilchk 4, zq_kchk (-9)] 53 rfl (by decide +kernel) ?_
  show zq_G _ _ _ _ _ 53 ([(0, .ref 0), (1, .int x), (2, .int y), (3, .int 1), (4, .int (zleast (fun c => nearN (colB (x &&& orB (bareB P hs sm cn) P) cn c) cn P) (fun c => farN (colB (y &&& orB (bareB P hs sm cn) P) cn c) cn P)))], [.int (-9), .int (zleast (fun c => nearN (colB (x &&& orB (bareB P hs sm cn) P) cn c) cn P) (fun c => farN (colB (y &&& orB (bareB P hs sm cn) P) cn c) cn P))], XH tx (nI Z) (nI P, nI C, nI R, nI L, hs, ss, cs, gs, vs) dr rd (nI D, sm, nI N, nI K, ce, de, ke, se) i0 i1 kp dd tr m)
  refine zq_if .ne 59 (¬ (zleast (fun c => nearN (colB (x &&& orB (bareB P hs sm cn) P) cn c) cn P) (fun c => farN (colB (y &&& orB (bareB P hs sm cn) P) cn c) cn P)) = (-9)) (by decide +kernel) (Iff.rfl) (fun c53 => ?_) (fun c53 => ?_)
  · show zq_G _ _ _ _ _ 59 ([(0, .ref 0), (1, .int x), (2, .int y), (3, .int 1), (4, .int (zleast (fun c => nearN (colB (x &&& orB (bareB P hs sm cn) P) cn c) cn P) (fun c => farN (colB (y &&& orB (bareB P hs sm cn) P) cn c) cn P)))], [], XH tx (nI Z) (nI P, nI C, nI R, nI L, hs, ss, cs, gs, vs) dr rd (nI D, sm, nI N, nI K, ce, de, ke, se) i0 i1 kp dd tr m)
    refine zq_b [zq_il 3] [zq_ilchk 3] 60 rfl (by decide +kernel) ?_
    show zq_G _ _ _ _ _ 60 ([(0, .ref 0), (1, .int x), (2, .int y), (3, .int 1), (4, .int (zleast (fun c => nearN (colB (x &&& orB (bareB P hs sm cn) P) cn c) cn P) (fun c => farN (colB (y &&& orB (bareB P hs sm cn) P) cn c) cn P)))], [.int 1], XH tx (nI Z) (nI P, nI C, nI R, nI L, hs, ss, cs, gs, vs) dr rd (nI D, sm, nI N, nI K, ce, de, ke, se) i0 i1 kp dd tr m)
    refine zq_ifz .ne 71 (¬ 1 = 0) (by decide +kernel) (zq_cne (a := 1) (b := 0) (by omega) (by omega)) (fun c60 => ?_) (fun c60 => absurd (by decide) c60)
    show zq_G _ _ _ _ _ 71 ([(0, .ref 0), (1, .int x), (2, .int y), (3, .int 1), (4, .int (zleast (fun c => nearN (colB (x &&& orB (bareB P hs sm cn) P) cn c) cn P) (fun c => farN (colB (y &&& orB (bareB P hs sm cn) P) cn c) cn P)))], [], XH tx (nI Z) (nI P, nI C, nI R, nI L, hs, ss, cs, gs, vs) dr rd (nI D, sm, nI N, nI K, ce, de, ke, se) i0 i1 kp dd tr m)
    refine zq_b [zq_il 4] [zq_ilchk 4] 73 rfl (by decide +kernel) ?_
    show zq_G _ _ _ _ _ 73 ([(0, .ref 0), (1, .int x), (2, .int y), (3, .int 1), (4, .int (zleast (fun c => nearN (colB (x &&& orB (bareB P hs sm cn) P) cn c) cn P) (fun c => farN (colB (y &&& orB (bareB P hs sm cn) P) cn c) cn P)))], [.int (zleast (fun c => nearN (colB (x &&& orB (bareB P hs sm cn) P) cn c) cn P) (fun c => farN (colB (y &&& orB (bareB P hs sm cn) P) cn c) cn P))], XH tx (nI Z) (nI P, nI C, nI R, nI L, hs, ss, cs, gs, vs) dr rd (nI D, sm, nI N, nI K, ce, de, ke, se) i0 i1 kp dd tr m)
    exact zq_iret (by decide +kernel) rfl (by rw [if_neg c53]) rfl
  · show zq_G _ _ _ _ _ 56 ([(0, .ref 0), (1, .int x), (2, .int y), (3, .int 1), (4, .int (zleast (fun c => nearN (colB (x &&& orB (bareB P hs sm cn) P) cn c) cn P) (fun c => farN (colB (y &&& orB (bareB P hs sm cn) P) cn c) cn P)))], [], XH tx (nI Z) (nI P, nI C, nI R, nI L, hs, ss, cs, gs, vs) dr rd (nI D, sm, nI N, nI K, ce, de, ke, se) i0 i1 kp dd tr m)
    refine zq_b [zq_k (-9)] [zq_kchk (-9)] 58 rfl (by decide +kernel) ?_
    show zq_G _ _ _ _ _ 58 ([(0, .ref 0), (1, .int x), (2, .int y), (3, .int 1), (4, .int (zleast (fun c => nearN (colB (x &&& orB (bareB P hs sm cn) P) cn c) cn P) (fun c => farN (colB (y &&& orB (bareB P hs sm cn) P) cn c) cn P)))], [.int (-9)], XH tx (nI Z) (nI P, nI C, nI R, nI L, hs, ss, cs, gs, vs) dr rd (nI D, sm, nI N, nI K, ce, de, ke, se) i0 i1 kp dd tr m)
    exact zq_iret (by decide +kernel) rfl (by rw [if_pos (Decidable.not_not.mp c53)]) rfl
set_option maxHeartbeats 4000000 in
set_option maxRecDepth 100000 in
theorem x_blocks_bad {x : Int32} {y : Int32} (hP : P ≤ 6) (hb : ¬ ((0 ≤ x.toInt ∧ x.toInt < (P : Int)) ∧ (0 ≤ y.toInt ∧ y.toInt < (P : Int)) ∧ ¬ x.toInt = y.toInt)) : zq_P l mX11_blocks 1 [.ref 0, .int x, .int y] (XH tx (nI Z) (nI P, nI C, nI R, nI L, hs, ss, cs, gs, vs) dr rd (nI D, sm, nI N, nI K, ce, de, ke, se) i0 i1 kp dd tr m) (some (.int (-1))) (XH tx (nI Z) (nI P, nI C, nI R, nI L, hs, ss, cs, gs, vs) dr rd (nI D, sm, nI N, nI K, ce, de, ke, se) i0 i1 kp dd tr m) := by
  refine zq_start (by decide +kernel) rfl (Nat.le_of_ble_eq_true rfl) ?_
  show zq_G _ _ _ _ _ 0 ([(0, .ref 0), (1, .int x), (2, .int y)], [], XH tx (nI Z) (nI P, nI C, nI R, nI L, hs, ss, cs, gs, vs) dr rd (nI D, sm, nI N, nI K, ce, de, ke, se) i0 i1 kp dd tr m)
  refine zq_b [zq_al 0, zq_get 11 2, zq_il 1] [zq_alchk 0, zq_getchk 11 2, zq_ilchk 1] 5 rfl (by decide +kernel) ?_
  show zq_G _ _ _ _ _ 5 ([(0, .ref 0), (1, .int x), (2, .int y)], [.int x, .ref 2], XH tx (nI Z) (nI P, nI C, nI R, nI L, hs, ss, cs, gs, vs) dr rd (nI D, sm, nI N, nI K, ce, de, ke, se) i0 i1 kp dd tr m)
  refine zq_callV (av := [.int x]) (rest := []) (by decide +kernel) k11_105 (x_hasPerson (p := x) hP) rfl rfl rfl rfl ?_
  show zq_G _ _ _ _ _ 8 ([(0, .ref 0), (1, .int x), (2, .int y)], [.int (zb (0 ≤ x.toInt ∧ x.toInt < (P : Int)))], XH tx (nI Z) (nI P, nI C, nI R, nI L, hs, ss, cs, gs, vs) dr rd (nI D, sm, nI N, nI K, ce, de, ke, se) i0 i1 kp dd tr m)
  refine zq_ifz .eq 27 (¬ (0 ≤ x.toInt ∧ x.toInt < (P : Int))) (by decide +kernel) (zb_eq _) (fun c8 => ?_) (fun c8 => ?_)
  · show zq_G _ _ _ _ _ 27 ([(0, .ref 0), (1, .int x), (2, .int y)], [], XH tx (nI Z) (nI P, nI C, nI R, nI L, hs, ss, cs, gs, vs) dr rd (nI D, sm, nI N, nI K, ce, de, ke, se) i0 i1 kp dd tr m)
    refine zq_b [zq_k (-1)] [zq_kchk (-1)] 28 rfl (by decide +kernel) ?_
    show zq_G _ _ _ _ _ 28 ([(0, .ref 0), (1, .int x), (2, .int y)], [.int (-1)], XH tx (nI Z) (nI P, nI C, nI R, nI L, hs, ss, cs, gs, vs) dr rd (nI D, sm, nI N, nI K, ce, de, ke, se) i0 i1 kp dd tr m)
    exact zq_iret (by decide +kernel) rfl rfl rfl
  · show zq_G _ _ _ _ _ 11 ([(0, .ref 0), (1, .int x), (2, .int y)], [], XH tx (nI Z) (nI P, nI C, nI R, nI L, hs, ss, cs, gs, vs) dr rd (nI D, sm, nI N, nI K, ce, de, ke, se) i0 i1 kp dd tr m)
    refine zq_b [zq_al 0, zq_get 11 2, zq_il 2] [zq_alchk 0, zq_getchk 11 2, zq_ilchk 2] 16 rfl (by decide +kernel) ?_
    show zq_G _ _ _ _ _ 16 ([(0, .ref 0), (1, .int x), (2, .int y)], [.int y, .ref 2], XH tx (nI Z) (nI P, nI C, nI R, nI L, hs, ss, cs, gs, vs) dr rd (nI D, sm, nI N, nI K, ce, de, ke, se) i0 i1 kp dd tr m)
    refine zq_callV (av := [.int y]) (rest := []) (by decide +kernel) k11_105 (x_hasPerson (p := y) hP) rfl rfl rfl rfl ?_
    show zq_G _ _ _ _ _ 19 ([(0, .ref 0), (1, .int x), (2, .int y)], [.int (zb (0 ≤ y.toInt ∧ y.toInt < (P : Int)))], XH tx (nI Z) (nI P, nI C, nI R, nI L, hs, ss, cs, gs, vs) dr rd (nI D, sm, nI N, nI K, ce, de, ke, se) i0 i1 kp dd tr m)
    refine zq_ifz .eq 27 (¬ (0 ≤ y.toInt ∧ y.toInt < (P : Int))) (by decide +kernel) (zb_eq _) (fun c19 => ?_) (fun c19 => ?_)
    · show zq_G _ _ _ _ _ 27 ([(0, .ref 0), (1, .int x), (2, .int y)], [], XH tx (nI Z) (nI P, nI C, nI R, nI L, hs, ss, cs, gs, vs) dr rd (nI D, sm, nI N, nI K, ce, de, ke, se) i0 i1 kp dd tr m)
      refine zq_b [zq_k (-1)] [zq_kchk (-1)] 28 rfl (by decide +kernel) ?_
      show zq_G _ _ _ _ _ 28 ([(0, .ref 0), (1, .int x), (2, .int y)], [.int (-1)], XH tx (nI Z) (nI P, nI C, nI R, nI L, hs, ss, cs, gs, vs) dr rd (nI D, sm, nI N, nI K, ce, de, ke, se) i0 i1 kp dd tr m)
      exact zq_iret (by decide +kernel) rfl rfl rfl
    · show zq_G _ _ _ _ _ 22 ([(0, .ref 0), (1, .int x), (2, .int y)], [], XH tx (nI Z) (nI P, nI C, nI R, nI L, hs, ss, cs, gs, vs) dr rd (nI D, sm, nI N, nI K, ce, de, ke, se) i0 i1 kp dd tr m)
      refine zq_b [zq_il 1, zq_il 2] [zq_ilchk 1, zq_ilchk 2] 24 rfl (by decide +kernel) ?_
      show zq_G _ _ _ _ _ 24 ([(0, .ref 0), (1, .int x), (2, .int y)], [.int y, .int x], XH tx (nI Z) (nI P, nI C, nI R, nI L, hs, ss, cs, gs, vs) dr rd (nI D, sm, nI N, nI K, ce, de, ke, se) i0 i1 kp dd tr m)
      refine zq_if .ne 29 (¬ x.toInt = y.toInt) (by decide +kernel) (zq_tt .ne _ _) (fun c24 => ?_) (fun c24 => ?_)
      · show zq_G _ _ _ _ _ 29 ([(0, .ref 0), (1, .int x), (2, .int y)], [], XH tx (nI Z) (nI P, nI C, nI R, nI L, hs, ss, cs, gs, vs) dr rd (nI D, sm, nI N, nI K, ce, de, ke, se) i0 i1 kp dd tr m)
        exact absurd hb (by omega)
      · show zq_G _ _ _ _ _ 27 ([(0, .ref 0), (1, .int x), (2, .int y)], [], XH tx (nI Z) (nI P, nI C, nI R, nI L, hs, ss, cs, gs, vs) dr rd (nI D, sm, nI N, nI K, ce, de, ke, se) i0 i1 kp dd tr m)
        refine zq_b [zq_k (-1)] [zq_kchk (-1)] 28 rfl (by decide +kernel) ?_
        show zq_G _ _ _ _ _ 28 ([(0, .ref 0), (1, .int x), (2, .int y)], [.int (-1)], XH tx (nI Z) (nI P, nI C, nI R, nI L, hs, ss, cs, gs, vs) dr rd (nI D, sm, nI N, nI K, ce, de, ke, se) i0 i1 kp dd tr m)
        exact zq_iret (by decide +kernel) rfl rfl rfl
set_option maxHeartbeats 4000000 in
set_option maxRecDepth 100000 in
theorem x_blocks_bad2 {a : Nat} {b : Nat} (ha : a < P) (hbP : b < P) (hab : ¬ a = b) (hP : P ≤ 6) (hce : ∀ j, j < P → ce j = nI (cn j) ∧ cn j ≤ 26) (hb : 25 ≤ cn b ∨ cn a = 26) : zq_P l mX11_blocks 1 [.ref 0, .int (nI a), .int (nI b)] (XH tx (nI Z) (nI P, nI C, nI R, nI L, hs, ss, cs, gs, vs) dr rd (nI D, sm, nI N, nI K, ce, de, ke, se) i0 i1 kp dd tr m) (some (.int (-1))) (XH tx (nI Z) (nI P, nI C, nI R, nI L, hs, ss, cs, gs, vs) dr rd (nI D, sm, nI N, nI K, ce, de, ke, se) i0 i1 kp dd tr m) := by
  refine zq_start (by decide +kernel) rfl (Nat.le_of_ble_eq_true rfl) ?_
  show zq_G _ _ _ _ _ 0 ([(0, .ref 0), (1, .int (nI a)), (2, .int (nI b))], [], XH tx (nI Z) (nI P, nI C, nI R, nI L, hs, ss, cs, gs, vs) dr rd (nI D, sm, nI N, nI K, ce, de, ke, se) i0 i1 kp dd tr m)
  have hca := (hce a ha).2
  have hcb := (hce b hbP).2
  refine zq_b [zq_al 0, zq_get 11 2, zq_il 1] [zq_alchk 0, zq_getchk 11 2, zq_ilchk 1] 5 rfl (by decide +kernel) ?_
  show zq_G _ _ _ _ _ 5 ([(0, .ref 0), (1, .int (nI a)), (2, .int (nI b))], [.int (nI a), .ref 2], XH tx (nI Z) (nI P, nI C, nI R, nI L, hs, ss, cs, gs, vs) dr rd (nI D, sm, nI N, nI K, ce, de, ke, se) i0 i1 kp dd tr m)
  refine zq_callV (av := [.int (nI a)]) (rest := []) (by decide +kernel) k11_105 (x_hasPersonN (p := a) hP (by omega)) rfl rfl rfl rfl ?_
  show zq_G _ _ _ _ _ 8 ([(0, .ref 0), (1, .int (nI a)), (2, .int (nI b))], [.int (zb (a < P))], XH tx (nI Z) (nI P, nI C, nI R, nI L, hs, ss, cs, gs, vs) dr rd (nI D, sm, nI N, nI K, ce, de, ke, se) i0 i1 kp dd tr m)
  refine zq_ifz .eq 27 (¬ (a < P)) (by decide +kernel) (zb_eq _) (fun c8 => absurd c8 (by omega)) (fun c8 => ?_)
  show zq_G _ _ _ _ _ 11 ([(0, .ref 0), (1, .int (nI a)), (2, .int (nI b))], [], XH tx (nI Z) (nI P, nI C, nI R, nI L, hs, ss, cs, gs, vs) dr rd (nI D, sm, nI N, nI K, ce, de, ke, se) i0 i1 kp dd tr m)
  refine zq_b [zq_al 0, zq_get 11 2, zq_il 2] [zq_alchk 0, zq_getchk 11 2, zq_ilchk 2] 16 rfl (by decide +kernel) ?_
  show zq_G _ _ _ _ _ 16 ([(0, .ref 0), (1, .int (nI a)), (2, .int (nI b))], [.int (nI b), .ref 2], XH tx (nI Z) (nI P, nI C, nI R, nI L, hs, ss, cs, gs, vs) dr rd (nI D, sm, nI N, nI K, ce, de, ke, se) i0 i1 kp dd tr m)
  refine zq_callV (av := [.int (nI b)]) (rest := []) (by decide +kernel) k11_105 (x_hasPersonN (p := b) hP (by omega)) rfl rfl rfl rfl ?_
  show zq_G _ _ _ _ _ 19 ([(0, .ref 0), (1, .int (nI a)), (2, .int (nI b))], [.int (zb (b < P))], XH tx (nI Z) (nI P, nI C, nI R, nI L, hs, ss, cs, gs, vs) dr rd (nI D, sm, nI N, nI K, ce, de, ke, se) i0 i1 kp dd tr m)
  refine zq_ifz .eq 27 (¬ (b < P)) (by decide +kernel) (zb_eq _) (fun c19 => absurd c19 (by omega)) (fun c19 => ?_)
  show zq_G _ _ _ _ _ 22 ([(0, .ref 0), (1, .int (nI a)), (2, .int (nI b))], [], XH tx (nI Z) (nI P, nI C, nI R, nI L, hs, ss, cs, gs, vs) dr rd (nI D, sm, nI N, nI K, ce, de, ke, se) i0 i1 kp dd tr m)
  refine zq_b [zq_il 1, zq_il 2] [zq_ilchk 1, zq_ilchk 2] 24 rfl (by decide +kernel) ?_
  show zq_G _ _ _ _ _ 24 ([(0, .ref 0), (1, .int (nI a)), (2, .int (nI b))], [.int (nI b), .int (nI a)], XH tx (nI Z) (nI P, nI C, nI R, nI L, hs, ss, cs, gs, vs) dr rd (nI D, sm, nI N, nI K, ce, de, ke, se) i0 i1 kp dd tr m)
  refine zq_if .ne 29 (¬ a = b) (by decide +kernel) (zq_cne (a := a) (b := b) (by omega) (by omega)) (fun c24 => ?_) (fun c24 => absurd (by omega) c24)
  show zq_G _ _ _ _ _ 29 ([(0, .ref 0), (1, .int (nI a)), (2, .int (nI b))], [], XH tx (nI Z) (nI P, nI C, nI R, nI L, hs, ss, cs, gs, vs) dr rd (nI D, sm, nI N, nI K, ce, de, ke, se) i0 i1 kp dd tr m)
  refine zq_b [zq_al 0, zq_get 11 5, zq_get 5 5, zq_il 2, zq_iald b (nI (cn b))] [zq_alchk 0, zq_getchk 11 5, zq_getchk 5 5, zq_ilchk 2, zq_is .iaload 1] 38 rfl (by decide +kernel) ?_
  refine ⟨rfl, (by omega), (by omega), (hce b hbP).1, ?_⟩
  show zq_G _ _ _ _ _ 38 ([(0, .ref 0), (1, .int (nI a)), (2, .int (nI b))], [.int (nI (cn b))], XH tx (nI Z) (nI P, nI C, nI R, nI L, hs, ss, cs, gs, vs) dr rd (nI D, sm, nI N, nI K, ce, de, ke, se) i0 i1 kp dd tr m)
  refine zq_callS (av := [.int (nI (cn b))]) (rest := []) (by decide +kernel) k11_150 (c_isInSquare (a := (cn b)) (by omega)) rfl rfl ?_
  show zq_G _ _ _ _ _ 41 ([(0, .ref 0), (1, .int (nI a)), (2, .int (nI b))], [.int (zb ((cn b) < 25))], XH tx (nI Z) (nI P, nI C, nI R, nI L, hs, ss, cs, gs, vs) dr rd (nI D, sm, nI N, nI K, ce, de, ke, se) i0 i1 kp dd tr m)
  refine zq_ifz .eq 58 (¬ ((cn b) < 25)) (by decide +kernel) (zb_eq _) (fun c41 => ?_) (fun c41 => ?_)
  · show zq_G _ _ _ _ _ 58 ([(0, .ref 0), (1, .int (nI a)), (2, .int (nI b))], [], XH tx (nI Z) (nI P, nI C, nI R, nI L, hs, ss, cs, gs, vs) dr rd (nI D, sm, nI N, nI K, ce, de, ke, se) i0 i1 kp dd tr m)
    refine zq_b [zq_k (-1)] [zq_kchk (-1)] 59 rfl (by decide +kernel) ?_
    show zq_G _ _ _ _ _ 59 ([(0, .ref 0), (1, .int (nI a)), (2, .int (nI b))], [.int (-1)], XH tx (nI Z) (nI P, nI C, nI R, nI L, hs, ss, cs, gs, vs) dr rd (nI D, sm, nI N, nI K, ce, de, ke, se) i0 i1 kp dd tr m)
    exact zq_iret (by decide +kernel) rfl rfl rfl
  · show zq_G _ _ _ _ _ 44 ([(0, .ref 0), (1, .int (nI a)), (2, .int (nI b))], [], XH tx (nI Z) (nI P, nI C, nI R, nI L, hs, ss, cs, gs, vs) dr rd (nI D, sm, nI N, nI K, ce, de, ke, se) i0 i1 kp dd tr m)
    refine zq_b [zq_al 0, zq_get 11 5, zq_get 5 5, zq_il 1, zq_iald a (nI (cn a)), zq_k 26] [zq_alchk 0, zq_getchk 11 5, zq_getchk 5 5, zq_ilchk 1, zq_is .iaload 1, zq_kchk 26] 55 rfl (by decide +kernel) ?_
    refine ⟨rfl, (by omega), (by omega), (hce a ha).1, ?_⟩
    show zq_G _ _ _ _ _ 55 ([(0, .ref 0), (1, .int (nI a)), (2, .int (nI b))], [.int 26, .int (nI (cn a))], XH tx (nI Z) (nI P, nI C, nI R, nI L, hs, ss, cs, gs, vs) dr rd (nI D, sm, nI N, nI K, ce, de, ke, se) i0 i1 kp dd tr m)
    refine zq_if .ne 60 (¬ (cn a) = 26) (by decide +kernel) (zq_cne (a := cn a) (b := 26) (by omega) (by omega)) (fun c55 => ?_) (fun c55 => ?_)
    · show zq_G _ _ _ _ _ 60 ([(0, .ref 0), (1, .int (nI a)), (2, .int (nI b))], [], XH tx (nI Z) (nI P, nI C, nI R, nI L, hs, ss, cs, gs, vs) dr rd (nI D, sm, nI N, nI K, ce, de, ke, se) i0 i1 kp dd tr m)
      exact absurd hb (by omega)
    · show zq_G _ _ _ _ _ 58 ([(0, .ref 0), (1, .int (nI a)), (2, .int (nI b))], [], XH tx (nI Z) (nI P, nI C, nI R, nI L, hs, ss, cs, gs, vs) dr rd (nI D, sm, nI N, nI K, ce, de, ke, se) i0 i1 kp dd tr m)
      refine zq_b [zq_k (-1)] [zq_kchk (-1)] 59 rfl (by decide +kernel) ?_
      show zq_G _ _ _ _ _ 59 ([(0, .ref 0), (1, .int (nI a)), (2, .int (nI b))], [.int (-1)], XH tx (nI Z) (nI P, nI C, nI R, nI L, hs, ss, cs, gs, vs) dr rd (nI D, sm, nI N, nI K, ce, de, ke, se) i0 i1 kp dd tr m)
      exact zq_iret (by decide +kernel) rfl rfl rfl
set_option maxHeartbeats 4000000 in
set_option maxRecDepth 100000 in
theorem x_blocks {a : Nat} {b : Nat} (ha : a < P) (hbP : b < P) (hab : ¬ a = b) (hP : P ≤ 6) (hce : ∀ j, j < P → ce j = nI (cn j) ∧ cn j ≤ 26) (hb : cn b < 25 ∧ ¬ cn a = 26) : zq_P l mX11_blocks 3 [.ref 0, .int (nI a), .int (nI b)] (XH tx (nI Z) (nI P, nI C, nI R, nI L, hs, ss, cs, gs, vs) dr rd (nI D, sm, nI N, nI K, ce, de, ke, se) i0 i1 kp dd tr m) (some (.int (orB (fun c => !bareB P hs sm (zcm (nI a) c cn) b) 25))) (XH tx (nI Z) (nI P, nI C, nI R, nI L, hs, ss, cs, gs, vs) dr rd (nI D, sm, nI N, nI K, ce, de, ke, se) i0 i1 kp dd tr m) := by
  refine zq_start (by decide +kernel) rfl (Nat.le_of_ble_eq_true rfl) ?_
  show zq_G _ _ _ _ _ 0 ([(0, .ref 0), (1, .int (nI a)), (2, .int (nI b))], [], XH tx (nI Z) (nI P, nI C, nI R, nI L, hs, ss, cs, gs, vs) dr rd (nI D, sm, nI N, nI K, ce, de, ke, se) i0 i1 kp dd tr m)
  have hca := (hce a ha).2
  have hcb := (hce b hbP).2
  refine zq_b [zq_al 0, zq_get 11 2, zq_il 1] [zq_alchk 0, zq_getchk 11 2, zq_ilchk 1] 5 rfl (by decide +kernel) ?_
  show zq_G _ _ _ _ _ 5 ([(0, .ref 0), (1, .int (nI a)), (2, .int (nI b))], [.int (nI a), .ref 2], XH tx (nI Z) (nI P, nI C, nI R, nI L, hs, ss, cs, gs, vs) dr rd (nI D, sm, nI N, nI K, ce, de, ke, se) i0 i1 kp dd tr m)
  refine zq_callV (av := [.int (nI a)]) (rest := []) (by decide +kernel) k11_105 (x_hasPersonN (p := a) hP (by omega)) rfl rfl rfl rfl ?_
  show zq_G _ _ _ _ _ 8 ([(0, .ref 0), (1, .int (nI a)), (2, .int (nI b))], [.int (zb (a < P))], XH tx (nI Z) (nI P, nI C, nI R, nI L, hs, ss, cs, gs, vs) dr rd (nI D, sm, nI N, nI K, ce, de, ke, se) i0 i1 kp dd tr m)
  refine zq_ifz .eq 27 (¬ (a < P)) (by decide +kernel) (zb_eq _) (fun c8 => absurd c8 (by omega)) (fun c8 => ?_)
  show zq_G _ _ _ _ _ 11 ([(0, .ref 0), (1, .int (nI a)), (2, .int (nI b))], [], XH tx (nI Z) (nI P, nI C, nI R, nI L, hs, ss, cs, gs, vs) dr rd (nI D, sm, nI N, nI K, ce, de, ke, se) i0 i1 kp dd tr m)
  refine zq_b [zq_al 0, zq_get 11 2, zq_il 2] [zq_alchk 0, zq_getchk 11 2, zq_ilchk 2] 16 rfl (by decide +kernel) ?_
  show zq_G _ _ _ _ _ 16 ([(0, .ref 0), (1, .int (nI a)), (2, .int (nI b))], [.int (nI b), .ref 2], XH tx (nI Z) (nI P, nI C, nI R, nI L, hs, ss, cs, gs, vs) dr rd (nI D, sm, nI N, nI K, ce, de, ke, se) i0 i1 kp dd tr m)
  refine zq_callV (av := [.int (nI b)]) (rest := []) (by decide +kernel) k11_105 (x_hasPersonN (p := b) hP (by omega)) rfl rfl rfl rfl ?_
  show zq_G _ _ _ _ _ 19 ([(0, .ref 0), (1, .int (nI a)), (2, .int (nI b))], [.int (zb (b < P))], XH tx (nI Z) (nI P, nI C, nI R, nI L, hs, ss, cs, gs, vs) dr rd (nI D, sm, nI N, nI K, ce, de, ke, se) i0 i1 kp dd tr m)
  refine zq_ifz .eq 27 (¬ (b < P)) (by decide +kernel) (zb_eq _) (fun c19 => absurd c19 (by omega)) (fun c19 => ?_)
  show zq_G _ _ _ _ _ 22 ([(0, .ref 0), (1, .int (nI a)), (2, .int (nI b))], [], XH tx (nI Z) (nI P, nI C, nI R, nI L, hs, ss, cs, gs, vs) dr rd (nI D, sm, nI N, nI K, ce, de, ke, se) i0 i1 kp dd tr m)
  refine zq_b [zq_il 1, zq_il 2] [zq_ilchk 1, zq_ilchk 2] 24 rfl (by decide +kernel) ?_
  show zq_G _ _ _ _ _ 24 ([(0, .ref 0), (1, .int (nI a)), (2, .int (nI b))], [.int (nI b), .int (nI a)], XH tx (nI Z) (nI P, nI C, nI R, nI L, hs, ss, cs, gs, vs) dr rd (nI D, sm, nI N, nI K, ce, de, ke, se) i0 i1 kp dd tr m)
  refine zq_if .ne 29 (¬ a = b) (by decide +kernel) (zq_cne (a := a) (b := b) (by omega) (by omega)) (fun c24 => ?_) (fun c24 => absurd (by omega) c24)
  show zq_G _ _ _ _ _ 29 ([(0, .ref 0), (1, .int (nI a)), (2, .int (nI b))], [], XH tx (nI Z) (nI P, nI C, nI R, nI L, hs, ss, cs, gs, vs) dr rd (nI D, sm, nI N, nI K, ce, de, ke, se) i0 i1 kp dd tr m)
  refine zq_b [zq_al 0, zq_get 11 5, zq_get 5 5, zq_il 2, zq_iald b (nI (cn b))] [zq_alchk 0, zq_getchk 11 5, zq_getchk 5 5, zq_ilchk 2, zq_is .iaload 1] 38 rfl (by decide +kernel) ?_
  refine ⟨rfl, (by omega), (by omega), (hce b hbP).1, ?_⟩
  show zq_G _ _ _ _ _ 38 ([(0, .ref 0), (1, .int (nI a)), (2, .int (nI b))], [.int (nI (cn b))], XH tx (nI Z) (nI P, nI C, nI R, nI L, hs, ss, cs, gs, vs) dr rd (nI D, sm, nI N, nI K, ce, de, ke, se) i0 i1 kp dd tr m)
  refine zq_callS (av := [.int (nI (cn b))]) (rest := []) (by decide +kernel) k11_150 (c_isInSquare (a := (cn b)) (by omega)) rfl rfl ?_
  show zq_G _ _ _ _ _ 41 ([(0, .ref 0), (1, .int (nI a)), (2, .int (nI b))], [.int (zb ((cn b) < 25))], XH tx (nI Z) (nI P, nI C, nI R, nI L, hs, ss, cs, gs, vs) dr rd (nI D, sm, nI N, nI K, ce, de, ke, se) i0 i1 kp dd tr m)
  refine zq_ifz .eq 58 (¬ ((cn b) < 25)) (by decide +kernel) (zb_eq _) (fun c41 => absurd c41 (by omega)) (fun c41 => ?_)
  show zq_G _ _ _ _ _ 44 ([(0, .ref 0), (1, .int (nI a)), (2, .int (nI b))], [], XH tx (nI Z) (nI P, nI C, nI R, nI L, hs, ss, cs, gs, vs) dr rd (nI D, sm, nI N, nI K, ce, de, ke, se) i0 i1 kp dd tr m)
  refine zq_b [zq_al 0, zq_get 11 5, zq_get 5 5, zq_il 1, zq_iald a (nI (cn a)), zq_k 26] [zq_alchk 0, zq_getchk 11 5, zq_getchk 5 5, zq_ilchk 1, zq_is .iaload 1, zq_kchk 26] 55 rfl (by decide +kernel) ?_
  refine ⟨rfl, (by omega), (by omega), (hce a ha).1, ?_⟩
  show zq_G _ _ _ _ _ 55 ([(0, .ref 0), (1, .int (nI a)), (2, .int (nI b))], [.int 26, .int (nI (cn a))], XH tx (nI Z) (nI P, nI C, nI R, nI L, hs, ss, cs, gs, vs) dr rd (nI D, sm, nI N, nI K, ce, de, ke, se) i0 i1 kp dd tr m)
  refine zq_if .ne 60 (¬ (cn a) = 26) (by decide +kernel) (zq_cne (a := cn a) (b := 26) (by omega) (by omega)) (fun c55 => ?_) (fun c55 => absurd (by omega) c55)
  show zq_G _ _ _ _ _ 60 ([(0, .ref 0), (1, .int (nI a)), (2, .int (nI b))], [], XH tx (nI Z) (nI P, nI C, nI R, nI L, hs, ss, cs, gs, vs) dr rd (nI D, sm, nI N, nI K, ce, de, ke, se) i0 i1 kp dd tr m)
  refine zq_b [zq_k 0, zq_is1 3, zq_k 0, zq_is1 4] [zq_kchk 0, zq_is1chk 3, zq_kchk 0, zq_is1chk 4] 65 rfl (by decide +kernel) ?_
  show zq_G _ _ _ _ _ 65 ([(0, .ref 0), (1, .int (nI a)), (2, .int (nI b)), (3, .int 0), (4, .int 0)], [], XH tx (nI Z) (nI P, nI C, nI R, nI L, hs, ss, cs, gs, vs) dr rd (nI D, sm, nI N, nI K, ce, de, ke, se) i0 i1 kp dd tr m)
  refine zq_loop (fun i => ([(0, .ref 0), (1, .int (nI a)), (2, .int (nI b)), (3, .int (orB (fun c => !bareB P hs sm (zcm (nI a) c cn) b) i)), (4, .int (nI i))], [], XH tx (nI Z) (nI P, nI C, nI R, nI L, hs, ss, cs, gs, vs) dr rd (nI D, sm, nI N, nI K, ce, de, ke, se) i0 i1 kp dd tr m)) (fun i => True) (25) (0) (by omega) (trivial) (fun i hl65 hi65 hI65 ih65 => ?_) (fun hI65 => ?_)
  · show zq_G _ _ _ _ _ 65 ([(0, .ref 0), (1, .int (nI a)), (2, .int (nI b)), (3, .int (orB (fun c => !bareB P hs sm (zcm (nI a) c cn) b) i)), (4, .int (nI i))], [], XH tx (nI Z) (nI P, nI C, nI R, nI L, hs, ss, cs, gs, vs) dr rd (nI D, sm, nI N, nI K, ce, de, ke, se) i0 i1 kp dd tr m)
    refine zq_b [zq_il 4, zq_k 25] [zq_ilchk 4, zq_kchk 25] 69 rfl (by decide +kernel) ?_
    show zq_G _ _ _ _ _ 69 ([(0, .ref 0), (1, .int (nI a)), (2, .int (nI b)), (3, .int (orB (fun c => !bareB P hs sm (zcm (nI a) c cn) b) i)), (4, .int (nI i))], [.int 25, .int (nI i)], XH tx (nI Z) (nI P, nI C, nI R, nI L, hs, ss, cs, gs, vs) dr rd (nI D, sm, nI N, nI K, ce, de, ke, se) i0 i1 kp dd tr m)
    refine zq_if .ge 99 (25 ≤ i) (by decide +kernel) (zq_cge (a := i) (b := 25) (by omega) (by omega)) (fun c69 => absurd c69 (by omega)) (fun c69 => ?_)
    show zq_G _ _ _ _ _ 72 ([(0, .ref 0), (1, .int (nI a)), (2, .int (nI b)), (3, .int (orB (fun c => !bareB P hs sm (zcm (nI a) c cn) b) i)), (4, .int (nI i))], [], XH tx (nI Z) (nI P, nI C, nI R, nI L, hs, ss, cs, gs, vs) dr rd (nI D, sm, nI N, nI K, ce, de, ke, se) i0 i1 kp dd tr m)
    refine zq_b [zq_al 0, zq_get 11 5, zq_il 2, zq_il 1, zq_il 4] [zq_alchk 0, zq_getchk 11 5, zq_ilchk 2, zq_ilchk 1, zq_ilchk 4] 80 rfl (by decide +kernel) ?_
    show zq_G _ _ _ _ _ 80 ([(0, .ref 0), (1, .int (nI a)), (2, .int (nI b)), (3, .int (orB (fun c => !bareB P hs sm (zcm (nI a) c cn) b) i)), (4, .int (nI i))], [.int (nI i), .int (nI a), .int (nI b), .ref 15], XH tx (nI Z) (nI P, nI C, nI R, nI L, hs, ss, cs, gs, vs) dr rd (nI D, sm, nI N, nI K, ce, de, ke, se) i0 i1 kp dd tr m)
    refine zq_callV (av := [.int (nI b), .int (nI a), .int (nI i)]) (rest := []) (by decide +kernel) k11_190 (c_shows (p := b) (mv := (nI a)) (wc := i) (by omega) (by omega) hP hce) rfl rfl rfl rfl ?_
    show zq_G _ _ _ _ _ 83 ([(0, .ref 0), (1, .int (nI a)), (2, .int (nI b)), (3, .int (orB (fun c => !bareB P hs sm (zcm (nI a) c cn) b) i)), (4, .int (nI i))], [.int (zb (bareB P hs sm (zcm (nI a) i cn) b = true))], XH tx (nI Z) (nI P, nI C, nI R, nI L, hs, ss, cs, gs, vs) dr rd (nI D, sm, nI N, nI K, ce, de, ke, se) i0 i1 kp dd tr m)
    refine zq_ifz .ne 93 (bareB P hs sm (zcm (nI a) i cn) b = true) (by decide +kernel) (zb_ne _) (fun c83 => ?_) (fun c83 => ?_)
    · show zq_G _ _ _ _ _ 93 ([(0, .ref 0), (1, .int (nI a)), (2, .int (nI b)), (3, .int (orB (fun c => !bareB P hs sm (zcm (nI a) c cn) b) i)), (4, .int (nI i))], [], XH tx (nI Z) (nI P, nI C, nI R, nI L, hs, ss, cs, gs, vs) dr rd (nI D, sm, nI N, nI K, ce, de, ke, se) i0 i1 kp dd tr m)
      refine zq_b [zq_inc 4 1 (nI (i + 1)), zq_go] [zq_incchk 4 1, zq_gochk] 65 rfl (by decide +kernel) ?_
      refine ⟨nI_add i 1, ?_⟩
      show zq_G _ _ _ _ _ 65 ([(0, .ref 0), (1, .int (nI a)), (2, .int (nI b)), (3, .int (orB (fun c => !bareB P hs sm (zcm (nI a) c cn) b) i)), (4, .int (nI (i + 1)))], [], XH tx (nI Z) (nI P, nI C, nI R, nI L, hs, ss, cs, gs, vs) dr rd (nI D, sm, nI N, nI K, ce, de, ke, se) i0 i1 kp dd tr m)
      exact zq_eq (by rw [orB_f (f := (fun c => !bareB P hs sm (zcm (nI a) c cn) b)) (by simp [c83])]) (ih65 trivial)
    · show zq_G _ _ _ _ _ 86 ([(0, .ref 0), (1, .int (nI a)), (2, .int (nI b)), (3, .int (orB (fun c => !bareB P hs sm (zcm (nI a) c cn) b) i)), (4, .int (nI i))], [], XH tx (nI Z) (nI P, nI C, nI R, nI L, hs, ss, cs, gs, vs) dr rd (nI D, sm, nI N, nI K, ce, de, ke, se) i0 i1 kp dd tr m)
      refine zq_b [zq_il 3, zq_k 1, zq_il 4, zq_ishl (1 <<< (nI i &&& 31)), zq_ior ((orB (fun c => !bareB P hs sm (zcm (nI a) c cn) b) i) ||| (1 <<< (nI i &&& 31))), zq_is1 3, zq_inc 4 1 (nI (i + 1)), zq_go] [zq_ilchk 3, zq_kchk 1, zq_ilchk 4, zq_is .ishl 1, zq_is .ior 1, zq_is1chk 3, zq_incchk 4 1, zq_gochk] 65 rfl (by decide +kernel) ?_
      refine ⟨rfl, rfl, nI_add i 1, ?_⟩
      show zq_G _ _ _ _ _ 65 ([(0, .ref 0), (1, .int (nI a)), (2, .int (nI b)), (3, .int ((orB (fun c => !bareB P hs sm (zcm (nI a) c cn) b) i) ||| (1 <<< (nI i &&& 31)))), (4, .int (nI (i + 1)))], [], XH tx (nI Z) (nI P, nI C, nI R, nI L, hs, ss, cs, gs, vs) dr rd (nI D, sm, nI N, nI K, ce, de, ke, se) i0 i1 kp dd tr m)
      exact zq_eq (by rw [orB_t (f := (fun c => !bareB P hs sm (zcm (nI a) c cn) b)) (by simp [eq_false_of_ne_true c83])]) (ih65 trivial)
  · show zq_G _ _ _ _ _ 65 ([(0, .ref 0), (1, .int (nI a)), (2, .int (nI b)), (3, .int (orB (fun c => !bareB P hs sm (zcm (nI a) c cn) b) 25)), (4, .int 25)], [], XH tx (nI Z) (nI P, nI C, nI R, nI L, hs, ss, cs, gs, vs) dr rd (nI D, sm, nI N, nI K, ce, de, ke, se) i0 i1 kp dd tr m)
    refine zq_b [zq_il 4, zq_k 25] [zq_ilchk 4, zq_kchk 25] 69 rfl (by decide +kernel) ?_
    show zq_G _ _ _ _ _ 69 ([(0, .ref 0), (1, .int (nI a)), (2, .int (nI b)), (3, .int (orB (fun c => !bareB P hs sm (zcm (nI a) c cn) b) 25)), (4, .int 25)], [.int 25, .int 25], XH tx (nI Z) (nI P, nI C, nI R, nI L, hs, ss, cs, gs, vs) dr rd (nI D, sm, nI N, nI K, ce, de, ke, se) i0 i1 kp dd tr m)
    refine zq_if .ge 99 (25 ≤ 25) (by decide +kernel) (zq_cge (a := 25) (b := 25) (by omega) (by omega)) (fun c69 => ?_) (fun c69 => absurd (by omega) c69)
    show zq_G _ _ _ _ _ 99 ([(0, .ref 0), (1, .int (nI a)), (2, .int (nI b)), (3, .int (orB (fun c => !bareB P hs sm (zcm (nI a) c cn) b) 25)), (4, .int 25)], [], XH tx (nI Z) (nI P, nI C, nI R, nI L, hs, ss, cs, gs, vs) dr rd (nI D, sm, nI N, nI K, ce, de, ke, se) i0 i1 kp dd tr m)
    refine zq_b [zq_il 3] [zq_ilchk 3] 100 rfl (by decide +kernel) ?_
    show zq_G _ _ _ _ _ 100 ([(0, .ref 0), (1, .int (nI a)), (2, .int (nI b)), (3, .int (orB (fun c => !bareB P hs sm (zcm (nI a) c cn) b) 25)), (4, .int 25)], [.int (orB (fun c => !bareB P hs sm (zcm (nI a) c cn) b) 25)], XH tx (nI Z) (nI P, nI C, nI R, nI L, hs, ss, cs, gs, vs) dr rd (nI D, sm, nI N, nI K, ce, de, ke, se) i0 i1 kp dd tr m)
    exact zq_iret (by decide +kernel) rfl rfl rfl
set_option maxHeartbeats 4000000 in
set_option maxRecDepth 100000 in
theorem x_hides_bad {x : Int32} (hP : P ≤ 6) (hb : ¬ (0 ≤ x.toInt ∧ x.toInt < (P : Int))) : zq_P l mX11_hides 1 [.ref 0, .int x] (XH tx (nI Z) (nI P, nI C, nI R, nI L, hs, ss, cs, gs, vs) dr rd (nI D, sm, nI N, nI K, ce, de, ke, se) i0 i1 kp dd tr m) (some (.int (-1))) (XH tx (nI Z) (nI P, nI C, nI R, nI L, hs, ss, cs, gs, vs) dr rd (nI D, sm, nI N, nI K, ce, de, ke, se) i0 i1 kp dd tr m) := by
  refine zq_start (by decide +kernel) rfl (Nat.le_of_ble_eq_true rfl) ?_
  show zq_G _ _ _ _ _ 0 ([(0, .ref 0), (1, .int x)], [], XH tx (nI Z) (nI P, nI C, nI R, nI L, hs, ss, cs, gs, vs) dr rd (nI D, sm, nI N, nI K, ce, de, ke, se) i0 i1 kp dd tr m)
  refine zq_b [zq_al 0, zq_get 11 2, zq_il 1] [zq_alchk 0, zq_getchk 11 2, zq_ilchk 1] 5 rfl (by decide +kernel) ?_
  show zq_G _ _ _ _ _ 5 ([(0, .ref 0), (1, .int x)], [.int x, .ref 2], XH tx (nI Z) (nI P, nI C, nI R, nI L, hs, ss, cs, gs, vs) dr rd (nI D, sm, nI N, nI K, ce, de, ke, se) i0 i1 kp dd tr m)
  refine zq_callV (av := [.int x]) (rest := []) (by decide +kernel) k11_105 (x_hasPerson (p := x) hP) rfl rfl rfl rfl ?_
  show zq_G _ _ _ _ _ 8 ([(0, .ref 0), (1, .int x)], [.int (zb (0 ≤ x.toInt ∧ x.toInt < (P : Int)))], XH tx (nI Z) (nI P, nI C, nI R, nI L, hs, ss, cs, gs, vs) dr rd (nI D, sm, nI N, nI K, ce, de, ke, se) i0 i1 kp dd tr m)
  refine zq_ifz .ne 13 (0 ≤ x.toInt ∧ x.toInt < (P : Int)) (by decide +kernel) (zb_ne _) (fun c8 => ?_) (fun c8 => ?_)
  · show zq_G _ _ _ _ _ 13 ([(0, .ref 0), (1, .int x)], [], XH tx (nI Z) (nI P, nI C, nI R, nI L, hs, ss, cs, gs, vs) dr rd (nI D, sm, nI N, nI K, ce, de, ke, se) i0 i1 kp dd tr m)
    exact absurd hb (by omega)
  · show zq_G _ _ _ _ _ 11 ([(0, .ref 0), (1, .int x)], [], XH tx (nI Z) (nI P, nI C, nI R, nI L, hs, ss, cs, gs, vs) dr rd (nI D, sm, nI N, nI K, ce, de, ke, se) i0 i1 kp dd tr m)
    refine zq_b [zq_k (-1)] [zq_kchk (-1)] 12 rfl (by decide +kernel) ?_
    show zq_G _ _ _ _ _ 12 ([(0, .ref 0), (1, .int x)], [.int (-1)], XH tx (nI Z) (nI P, nI C, nI R, nI L, hs, ss, cs, gs, vs) dr rd (nI D, sm, nI N, nI K, ce, de, ke, se) i0 i1 kp dd tr m)
    exact zq_iret (by decide +kernel) rfl rfl rfl
set_option maxHeartbeats 4000000 in
set_option maxRecDepth 100000 in
theorem x_hides {a : Nat} (ha : a < P) (hP : P ≤ 6) (hce : ∀ j, j < P → ce j = nI (cn j) ∧ cn j ≤ 26) : zq_P l mX11_hides 5 [.ref 0, .int (nI a)] (XH tx (nI Z) (nI P, nI C, nI R, nI L, hs, ss, cs, gs, vs) dr rd (nI D, sm, nI N, nI K, ce, de, ke, se) i0 i1 kp dd tr m) (some (.int (orB (bareB P hs sm (zcm (nI a) 25 cn)) P &&& (orB (bareB P hs sm cn) P ^^^ -1)))) (XH tx (nI Z) (nI P, nI C, nI R, nI L, hs, ss, cs, gs, vs) dr rd (nI D, sm, nI N, nI K, ce, de, ke, se) i0 i1 kp dd tr m) := by
  refine zq_start (by decide +kernel) rfl (Nat.le_of_ble_eq_true rfl) ?_
  show zq_G _ _ _ _ _ 0 ([(0, .ref 0), (1, .int (nI a))], [], XH tx (nI Z) (nI P, nI C, nI R, nI L, hs, ss, cs, gs, vs) dr rd (nI D, sm, nI N, nI K, ce, de, ke, se) i0 i1 kp dd tr m)
  refine zq_b [zq_al 0, zq_get 11 2, zq_il 1] [zq_alchk 0, zq_getchk 11 2, zq_ilchk 1] 5 rfl (by decide +kernel) ?_
  show zq_G _ _ _ _ _ 5 ([(0, .ref 0), (1, .int (nI a))], [.int (nI a), .ref 2], XH tx (nI Z) (nI P, nI C, nI R, nI L, hs, ss, cs, gs, vs) dr rd (nI D, sm, nI N, nI K, ce, de, ke, se) i0 i1 kp dd tr m)
  refine zq_callV (av := [.int (nI a)]) (rest := []) (by decide +kernel) k11_105 (x_hasPersonN (p := a) hP (by omega)) rfl rfl rfl rfl ?_
  show zq_G _ _ _ _ _ 8 ([(0, .ref 0), (1, .int (nI a))], [.int (zb (a < P))], XH tx (nI Z) (nI P, nI C, nI R, nI L, hs, ss, cs, gs, vs) dr rd (nI D, sm, nI N, nI K, ce, de, ke, se) i0 i1 kp dd tr m)
  refine zq_ifz .ne 13 (a < P) (by decide +kernel) (zb_ne _) (fun c8 => ?_) (fun c8 => absurd (by omega) c8)
  show zq_G _ _ _ _ _ 13 ([(0, .ref 0), (1, .int (nI a))], [], XH tx (nI Z) (nI P, nI C, nI R, nI L, hs, ss, cs, gs, vs) dr rd (nI D, sm, nI N, nI K, ce, de, ke, se) i0 i1 kp dd tr m)
  refine zq_b [zq_al 0, zq_get 11 5, zq_il 1, zq_k 25] [zq_alchk 0, zq_getchk 11 5, zq_ilchk 1, zq_kchk 25] 20 rfl (by decide +kernel) ?_
  show zq_G _ _ _ _ _ 20 ([(0, .ref 0), (1, .int (nI a))], [.int 25, .int (nI a), .ref 15], XH tx (nI Z) (nI P, nI C, nI R, nI L, hs, ss, cs, gs, vs) dr rd (nI D, sm, nI N, nI K, ce, de, ke, se) i0 i1 kp dd tr m)
  refine zq_callV (av := [.int (nI a), .int 25]) (rest := []) (by decide +kernel) k11_194 (c_shownIf (mv := (nI a)) (wc := 25) (by omega) hP hce) rfl rfl rfl rfl ?_
  show zq_G _ _ _ _ _ 23 ([(0, .ref 0), (1, .int (nI a))], [.int (orB (bareB P hs sm (zcm (nI a) 25 cn)) P)], XH tx (nI Z) (nI P, nI C, nI R, nI L, hs, ss, cs, gs, vs) dr rd (nI D, sm, nI N, nI K, ce, de, ke, se) i0 i1 kp dd tr m)
  refine zq_b [zq_al 0, zq_get 11 5] [zq_alchk 0, zq_getchk 11 5] 27 rfl (by decide +kernel) ?_
  show zq_G _ _ _ _ _ 27 ([(0, .ref 0), (1, .int (nI a))], [.ref 15, .int (orB (bareB P hs sm (zcm (nI a) 25 cn)) P)], XH tx (nI Z) (nI P, nI C, nI R, nI L, hs, ss, cs, gs, vs) dr rd (nI D, sm, nI N, nI K, ce, de, ke, se) i0 i1 kp dd tr m)
  refine zq_callV (av := []) (rest := [.int (orB (bareB P hs sm (zcm (nI a) 25 cn)) P)]) (by decide +kernel) k11_197 (c_shown hP hce) rfl rfl rfl rfl ?_
  show zq_G _ _ _ _ _ 30 ([(0, .ref 0), (1, .int (nI a))], [.int (orB (bareB P hs sm cn) P), .int (orB (bareB P hs sm (zcm (nI a) 25 cn)) P)], XH tx (nI Z) (nI P, nI C, nI R, nI L, hs, ss, cs, gs, vs) dr rd (nI D, sm, nI N, nI K, ce, de, ke, se) i0 i1 kp dd tr m)
  refine zq_b [zq_k (-1), zq_ixor ((orB (bareB P hs sm cn) P) ^^^ (-1)), zq_iand ((orB (bareB P hs sm (zcm (nI a) 25 cn)) P) &&& ((orB (bareB P hs sm cn) P) ^^^ (-1)))] [zq_kchk (-1), zq_is .ixor 1, zq_is .iand 1] 33 rfl (by decide +kernel) ?_
  refine ⟨rfl, rfl, ?_⟩
  show zq_G _ _ _ _ _ 33 ([(0, .ref 0), (1, .int (nI a))], [.int ((orB (bareB P hs sm (zcm (nI a) 25 cn)) P) &&& ((orB (bareB P hs sm cn) P) ^^^ (-1)))], XH tx (nI Z) (nI P, nI C, nI R, nI L, hs, ss, cs, gs, vs) dr rd (nI D, sm, nI N, nI K, ce, de, ke, se) i0 i1 kp dd tr m)
  exact zq_iret (by decide +kernel) rfl rfl rfl
set_option maxHeartbeats 4000000 in
set_option maxRecDepth 100000 in
theorem x_stood_bad {x : Int32} {y : Int32} (hD : D ≤ 99) (hb : ¬ (0 ≤ x.toInt ∧ x.toInt < (D : Int) ∧ 1 ≤ y.toInt ∧ y.toInt ≤ 9)) : zq_P l mX11_stood 1 [.ref 0, .int x, .int y] (XH tx (nI Z) (nI P, nI C, nI R, nI L, hs, ss, cs, gs, vs) dr rd (nI D, sm, nI N, nI K, ce, de, ke, se) i0 i1 kp dd tr m) (some (.int (-1))) (XH tx (nI Z) (nI P, nI C, nI R, nI L, hs, ss, cs, gs, vs) dr rd (nI D, sm, nI N, nI K, ce, de, ke, se) i0 i1 kp dd tr m) := by
  refine zq_start (by decide +kernel) rfl (Nat.le_of_ble_eq_true rfl) ?_
  show zq_G _ _ _ _ _ 0 ([(0, .ref 0), (1, .int x), (2, .int y)], [], XH tx (nI Z) (nI P, nI C, nI R, nI L, hs, ss, cs, gs, vs) dr rd (nI D, sm, nI N, nI K, ce, de, ke, se) i0 i1 kp dd tr m)
  refine zq_b [zq_il 1] [zq_ilchk 1] 1 rfl (by decide +kernel) ?_
  show zq_G _ _ _ _ _ 1 ([(0, .ref 0), (1, .int x), (2, .int y)], [.int x], XH tx (nI Z) (nI P, nI C, nI R, nI L, hs, ss, cs, gs, vs) dr rd (nI D, sm, nI N, nI K, ce, de, ke, se) i0 i1 kp dd tr m)
  refine zq_ifz .lt 26 (x.toInt < (0 : Int)) (by decide +kernel) (zq_tn .lt x (n := 0) (by omega)) (fun c1 => ?_) (fun c1 => ?_)
  · show zq_G _ _ _ _ _ 26 ([(0, .ref 0), (1, .int x), (2, .int y)], [], XH tx (nI Z) (nI P, nI C, nI R, nI L, hs, ss, cs, gs, vs) dr rd (nI D, sm, nI N, nI K, ce, de, ke, se) i0 i1 kp dd tr m)
    refine zq_b [zq_k (-1)] [zq_kchk (-1)] 27 rfl (by decide +kernel) ?_
    show zq_G _ _ _ _ _ 27 ([(0, .ref 0), (1, .int x), (2, .int y)], [.int (-1)], XH tx (nI Z) (nI P, nI C, nI R, nI L, hs, ss, cs, gs, vs) dr rd (nI D, sm, nI N, nI K, ce, de, ke, se) i0 i1 kp dd tr m)
    exact zq_iret (by decide +kernel) rfl rfl rfl
  · show zq_G _ _ _ _ _ 4 ([(0, .ref 0), (1, .int x), (2, .int y)], [], XH tx (nI Z) (nI P, nI C, nI R, nI L, hs, ss, cs, gs, vs) dr rd (nI D, sm, nI N, nI K, ce, de, ke, se) i0 i1 kp dd tr m)
    refine zq_b [zq_il 1, zq_al 0, zq_get 11 5, zq_get 5 1] [zq_ilchk 1, zq_alchk 0, zq_getchk 11 5, zq_getchk 5 1] 12 rfl (by decide +kernel) ?_
    show zq_G _ _ _ _ _ 12 ([(0, .ref 0), (1, .int x), (2, .int y)], [.int (nI D), .int x], XH tx (nI Z) (nI P, nI C, nI R, nI L, hs, ss, cs, gs, vs) dr rd (nI D, sm, nI N, nI K, ce, de, ke, se) i0 i1 kp dd tr m)
    refine zq_if .ge 26 ((D : Int) ≤ x.toInt) (by decide +kernel) (zq_tn .ge x (n := D) (by omega)) (fun c12 => ?_) (fun c12 => ?_)
    · show zq_G _ _ _ _ _ 26 ([(0, .ref 0), (1, .int x), (2, .int y)], [], XH tx (nI Z) (nI P, nI C, nI R, nI L, hs, ss, cs, gs, vs) dr rd (nI D, sm, nI N, nI K, ce, de, ke, se) i0 i1 kp dd tr m)
      refine zq_b [zq_k (-1)] [zq_kchk (-1)] 27 rfl (by decide +kernel) ?_
      show zq_G _ _ _ _ _ 27 ([(0, .ref 0), (1, .int x), (2, .int y)], [.int (-1)], XH tx (nI Z) (nI P, nI C, nI R, nI L, hs, ss, cs, gs, vs) dr rd (nI D, sm, nI N, nI K, ce, de, ke, se) i0 i1 kp dd tr m)
      exact zq_iret (by decide +kernel) rfl rfl rfl
    · show zq_G _ _ _ _ _ 15 ([(0, .ref 0), (1, .int x), (2, .int y)], [], XH tx (nI Z) (nI P, nI C, nI R, nI L, hs, ss, cs, gs, vs) dr rd (nI D, sm, nI N, nI K, ce, de, ke, se) i0 i1 kp dd tr m)
      refine zq_b [zq_il 2, zq_k 1] [zq_ilchk 2, zq_kchk 1] 17 rfl (by decide +kernel) ?_
      show zq_G _ _ _ _ _ 17 ([(0, .ref 0), (1, .int x), (2, .int y)], [.int 1, .int y], XH tx (nI Z) (nI P, nI C, nI R, nI L, hs, ss, cs, gs, vs) dr rd (nI D, sm, nI N, nI K, ce, de, ke, se) i0 i1 kp dd tr m)
      refine zq_if .lt 26 (y.toInt < (1 : Int)) (by decide +kernel) (zq_tn .lt y (n := 1) (by omega)) (fun c17 => ?_) (fun c17 => ?_)
      · show zq_G _ _ _ _ _ 26 ([(0, .ref 0), (1, .int x), (2, .int y)], [], XH tx (nI Z) (nI P, nI C, nI R, nI L, hs, ss, cs, gs, vs) dr rd (nI D, sm, nI N, nI K, ce, de, ke, se) i0 i1 kp dd tr m)
        refine zq_b [zq_k (-1)] [zq_kchk (-1)] 27 rfl (by decide +kernel) ?_
        show zq_G _ _ _ _ _ 27 ([(0, .ref 0), (1, .int x), (2, .int y)], [.int (-1)], XH tx (nI Z) (nI P, nI C, nI R, nI L, hs, ss, cs, gs, vs) dr rd (nI D, sm, nI N, nI K, ce, de, ke, se) i0 i1 kp dd tr m)
        exact zq_iret (by decide +kernel) rfl rfl rfl
      · show zq_G _ _ _ _ _ 20 ([(0, .ref 0), (1, .int x), (2, .int y)], [], XH tx (nI Z) (nI P, nI C, nI R, nI L, hs, ss, cs, gs, vs) dr rd (nI D, sm, nI N, nI K, ce, de, ke, se) i0 i1 kp dd tr m)
        refine zq_b [zq_il 2, zq_k 9] [zq_ilchk 2, zq_kchk 9] 23 rfl (by decide +kernel) ?_
        show zq_G _ _ _ _ _ 23 ([(0, .ref 0), (1, .int x), (2, .int y)], [.int 9, .int y], XH tx (nI Z) (nI P, nI C, nI R, nI L, hs, ss, cs, gs, vs) dr rd (nI D, sm, nI N, nI K, ce, de, ke, se) i0 i1 kp dd tr m)
        refine zq_if .le 28 (y.toInt ≤ (9 : Int)) (by decide +kernel) (zq_tn .le y (n := 9) (by omega)) (fun c23 => ?_) (fun c23 => ?_)
        · show zq_G _ _ _ _ _ 28 ([(0, .ref 0), (1, .int x), (2, .int y)], [], XH tx (nI Z) (nI P, nI C, nI R, nI L, hs, ss, cs, gs, vs) dr rd (nI D, sm, nI N, nI K, ce, de, ke, se) i0 i1 kp dd tr m)
          exact absurd hb (by omega)
        · show zq_G _ _ _ _ _ 26 ([(0, .ref 0), (1, .int x), (2, .int y)], [], XH tx (nI Z) (nI P, nI C, nI R, nI L, hs, ss, cs, gs, vs) dr rd (nI D, sm, nI N, nI K, ce, de, ke, se) i0 i1 kp dd tr m)
          refine zq_b [zq_k (-1)] [zq_kchk (-1)] 27 rfl (by decide +kernel) ?_
          show zq_G _ _ _ _ _ 27 ([(0, .ref 0), (1, .int x), (2, .int y)], [.int (-1)], XH tx (nI Z) (nI P, nI C, nI R, nI L, hs, ss, cs, gs, vs) dr rd (nI D, sm, nI N, nI K, ce, de, ke, se) i0 i1 kp dd tr m)
          exact zq_iret (by decide +kernel) rfl rfl rfl
set_option maxHeartbeats 4000000 in
set_option maxRecDepth 100000 in
theorem x_stood {b : Nat} {q : Nat} (hb2 : b < D) (hq1 : 1 ≤ q) (hq2 : q ≤ 9) (hD : D ≤ 99) (hP : P ≤ 6) : zq_P l mX11_stood 1 [.ref 0, .int (nI b), .int (nI q)] (XH tx (nI Z) (nI P, nI C, nI R, nI L, hs, ss, cs, gs, vs) dr rd (nI D, sm, nI N, nI K, ce, de, ke, se) i0 i1 kp dd tr m) (some (.int (ke b &&& orB (fun p => decide (hs p = nI q)) P))) (XH tx (nI Z) (nI P, nI C, nI R, nI L, hs, ss, cs, gs, vs) dr rd (nI D, sm, nI N, nI K, ce, de, ke, se) i0 i1 kp dd tr m) := by
  refine zq_start (by decide +kernel) rfl (Nat.le_of_ble_eq_true rfl) ?_
  show zq_G _ _ _ _ _ 0 ([(0, .ref 0), (1, .int (nI b)), (2, .int (nI q))], [], XH tx (nI Z) (nI P, nI C, nI R, nI L, hs, ss, cs, gs, vs) dr rd (nI D, sm, nI N, nI K, ce, de, ke, se) i0 i1 kp dd tr m)
  refine zq_b [zq_il 1] [zq_ilchk 1] 1 rfl (by decide +kernel) ?_
  show zq_G _ _ _ _ _ 1 ([(0, .ref 0), (1, .int (nI b)), (2, .int (nI q))], [.int (nI b)], XH tx (nI Z) (nI P, nI C, nI R, nI L, hs, ss, cs, gs, vs) dr rd (nI D, sm, nI N, nI K, ce, de, ke, se) i0 i1 kp dd tr m)
  refine zq_ifz .lt 26 (b < 0) (by decide +kernel) (zq_clt (a := b) (b := 0) (by omega) (by omega)) (fun c1 => absurd c1 (by omega)) (fun c1 => ?_)
  show zq_G _ _ _ _ _ 4 ([(0, .ref 0), (1, .int (nI b)), (2, .int (nI q))], [], XH tx (nI Z) (nI P, nI C, nI R, nI L, hs, ss, cs, gs, vs) dr rd (nI D, sm, nI N, nI K, ce, de, ke, se) i0 i1 kp dd tr m)
  refine zq_b [zq_il 1, zq_al 0, zq_get 11 5, zq_get 5 1] [zq_ilchk 1, zq_alchk 0, zq_getchk 11 5, zq_getchk 5 1] 12 rfl (by decide +kernel) ?_
  show zq_G _ _ _ _ _ 12 ([(0, .ref 0), (1, .int (nI b)), (2, .int (nI q))], [.int (nI D), .int (nI b)], XH tx (nI Z) (nI P, nI C, nI R, nI L, hs, ss, cs, gs, vs) dr rd (nI D, sm, nI N, nI K, ce, de, ke, se) i0 i1 kp dd tr m)
  refine zq_if .ge 26 (D ≤ b) (by decide +kernel) (zq_cge (a := b) (b := D) (by omega) (by omega)) (fun c12 => absurd c12 (by omega)) (fun c12 => ?_)
  show zq_G _ _ _ _ _ 15 ([(0, .ref 0), (1, .int (nI b)), (2, .int (nI q))], [], XH tx (nI Z) (nI P, nI C, nI R, nI L, hs, ss, cs, gs, vs) dr rd (nI D, sm, nI N, nI K, ce, de, ke, se) i0 i1 kp dd tr m)
  refine zq_b [zq_il 2, zq_k 1] [zq_ilchk 2, zq_kchk 1] 17 rfl (by decide +kernel) ?_
  show zq_G _ _ _ _ _ 17 ([(0, .ref 0), (1, .int (nI b)), (2, .int (nI q))], [.int 1, .int (nI q)], XH tx (nI Z) (nI P, nI C, nI R, nI L, hs, ss, cs, gs, vs) dr rd (nI D, sm, nI N, nI K, ce, de, ke, se) i0 i1 kp dd tr m)
  refine zq_if .lt 26 (q < 1) (by decide +kernel) (zq_clt (a := q) (b := 1) (by omega) (by omega)) (fun c17 => absurd c17 (by omega)) (fun c17 => ?_)
  show zq_G _ _ _ _ _ 20 ([(0, .ref 0), (1, .int (nI b)), (2, .int (nI q))], [], XH tx (nI Z) (nI P, nI C, nI R, nI L, hs, ss, cs, gs, vs) dr rd (nI D, sm, nI N, nI K, ce, de, ke, se) i0 i1 kp dd tr m)
  refine zq_b [zq_il 2, zq_k 9] [zq_ilchk 2, zq_kchk 9] 23 rfl (by decide +kernel) ?_
  show zq_G _ _ _ _ _ 23 ([(0, .ref 0), (1, .int (nI b)), (2, .int (nI q))], [.int 9, .int (nI q)], XH tx (nI Z) (nI P, nI C, nI R, nI L, hs, ss, cs, gs, vs) dr rd (nI D, sm, nI N, nI K, ce, de, ke, se) i0 i1 kp dd tr m)
  refine zq_if .le 28 (q ≤ 9) (by decide +kernel) (zq_cle (a := q) (b := 9) (by omega) (by omega)) (fun c23 => ?_) (fun c23 => absurd (by omega) c23)
  show zq_G _ _ _ _ _ 28 ([(0, .ref 0), (1, .int (nI b)), (2, .int (nI q))], [], XH tx (nI Z) (nI P, nI C, nI R, nI L, hs, ss, cs, gs, vs) dr rd (nI D, sm, nI N, nI K, ce, de, ke, se) i0 i1 kp dd tr m)
  refine zq_b [zq_al 0, zq_get 11 5, zq_il 1] [zq_alchk 0, zq_getchk 11 5, zq_ilchk 1] 33 rfl (by decide +kernel) ?_
  show zq_G _ _ _ _ _ 33 ([(0, .ref 0), (1, .int (nI b)), (2, .int (nI q))], [.int (nI b), .ref 15], XH tx (nI Z) (nI P, nI C, nI R, nI L, hs, ss, cs, gs, vs) dr rd (nI D, sm, nI N, nI K, ce, de, ke, se) i0 i1 kp dd tr m)
  refine zq_callV (av := [.int (nI b)]) (rest := []) (by decide +kernel) k11_181 (x_keptOnN (b := b) (by omega) hD) rfl rfl rfl rfl ?_
  show zq_G _ _ _ _ _ 36 ([(0, .ref 0), (1, .int (nI b)), (2, .int (nI q))], [.int (ke b)], XH tx (nI Z) (nI P, nI C, nI R, nI L, hs, ss, cs, gs, vs) dr rd (nI D, sm, nI N, nI K, ce, de, ke, se) i0 i1 kp dd tr m)
  refine zq_b [zq_al 0, zq_get 11 2, zq_il 2] [zq_alchk 0, zq_getchk 11 2, zq_ilchk 2] 41 rfl (by decide +kernel) ?_
  show zq_G _ _ _ _ _ 41 ([(0, .ref 0), (1, .int (nI b)), (2, .int (nI q))], [.int (nI q), .ref 2, .int (ke b)], XH tx (nI Z) (nI P, nI C, nI R, nI L, hs, ss, cs, gs, vs) dr rd (nI D, sm, nI N, nI K, ce, de, ke, se) i0 i1 kp dd tr m)
  refine zq_callV (av := [.int (nI q)]) (rest := [.int (ke b)]) (by decide +kernel) k11_217 (c_ofHeight (x := (nI q)) hP) rfl rfl rfl rfl ?_
  show zq_G _ _ _ _ _ 44 ([(0, .ref 0), (1, .int (nI b)), (2, .int (nI q))], [.int (orB (fun p => decide (hs p = (nI q))) P), .int (ke b)], XH tx (nI Z) (nI P, nI C, nI R, nI L, hs, ss, cs, gs, vs) dr rd (nI D, sm, nI N, nI K, ce, de, ke, se) i0 i1 kp dd tr m)
  refine zq_b [zq_iand ((ke b) &&& (orB (fun p => decide (hs p = (nI q))) P))] [zq_is .iand 1] 45 rfl (by decide +kernel) ?_
  refine ⟨rfl, ?_⟩
  show zq_G _ _ _ _ _ 45 ([(0, .ref 0), (1, .int (nI b)), (2, .int (nI q))], [.int ((ke b) &&& (orB (fun p => decide (hs p = (nI q))) P))], XH tx (nI Z) (nI P, nI C, nI R, nI L, hs, ss, cs, gs, vs) dr rd (nI D, sm, nI N, nI K, ce, de, ke, se) i0 i1 kp dd tr m)
  exact zq_iret (by decide +kernel) rfl rfl rfl
set_option maxHeartbeats 4000000 in
set_option maxRecDepth 100000 in
theorem x_days_bad {x : Int32} {y : Int32} (hP : P ≤ 6) (hb : ¬ (0 ≤ x.toInt ∧ x.toInt < (P : Int) ∧ 0 ≤ y.toInt ∧ y.toInt ≤ 2)) : zq_P l mX11_days 1 [.ref 0, .int x, .int y] (XH tx (nI Z) (nI P, nI C, nI R, nI L, hs, ss, cs, gs, vs) dr rd (nI D, sm, nI N, nI K, ce, de, ke, se) i0 i1 kp dd tr m) (some (.int (-1))) (XH tx (nI Z) (nI P, nI C, nI R, nI L, hs, ss, cs, gs, vs) dr rd (nI D, sm, nI N, nI K, ce, de, ke, se) i0 i1 kp dd tr m) := by
  refine zq_start (by decide +kernel) rfl (Nat.le_of_ble_eq_true rfl) ?_
  show zq_G _ _ _ _ _ 0 ([(0, .ref 0), (1, .int x), (2, .int y)], [], XH tx (nI Z) (nI P, nI C, nI R, nI L, hs, ss, cs, gs, vs) dr rd (nI D, sm, nI N, nI K, ce, de, ke, se) i0 i1 kp dd tr m)
  refine zq_b [zq_al 0, zq_get 11 2, zq_il 1] [zq_alchk 0, zq_getchk 11 2, zq_ilchk 1] 5 rfl (by decide +kernel) ?_
  show zq_G _ _ _ _ _ 5 ([(0, .ref 0), (1, .int x), (2, .int y)], [.int x, .ref 2], XH tx (nI Z) (nI P, nI C, nI R, nI L, hs, ss, cs, gs, vs) dr rd (nI D, sm, nI N, nI K, ce, de, ke, se) i0 i1 kp dd tr m)
  refine zq_callV (av := [.int x]) (rest := []) (by decide +kernel) k11_105 (x_hasPerson (p := x) hP) rfl rfl rfl rfl ?_
  show zq_G _ _ _ _ _ 8 ([(0, .ref 0), (1, .int x), (2, .int y)], [.int (zb (0 ≤ x.toInt ∧ x.toInt < (P : Int)))], XH tx (nI Z) (nI P, nI C, nI R, nI L, hs, ss, cs, gs, vs) dr rd (nI D, sm, nI N, nI K, ce, de, ke, se) i0 i1 kp dd tr m)
  refine zq_ifz .eq 19 (¬ (0 ≤ x.toInt ∧ x.toInt < (P : Int))) (by decide +kernel) (zb_eq _) (fun c8 => ?_) (fun c8 => ?_)
  · show zq_G _ _ _ _ _ 19 ([(0, .ref 0), (1, .int x), (2, .int y)], [], XH tx (nI Z) (nI P, nI C, nI R, nI L, hs, ss, cs, gs, vs) dr rd (nI D, sm, nI N, nI K, ce, de, ke, se) i0 i1 kp dd tr m)
    refine zq_b [zq_k (-1)] [zq_kchk (-1)] 20 rfl (by decide +kernel) ?_
    show zq_G _ _ _ _ _ 20 ([(0, .ref 0), (1, .int x), (2, .int y)], [.int (-1)], XH tx (nI Z) (nI P, nI C, nI R, nI L, hs, ss, cs, gs, vs) dr rd (nI D, sm, nI N, nI K, ce, de, ke, se) i0 i1 kp dd tr m)
    exact zq_iret (by decide +kernel) rfl rfl rfl
  · show zq_G _ _ _ _ _ 11 ([(0, .ref 0), (1, .int x), (2, .int y)], [], XH tx (nI Z) (nI P, nI C, nI R, nI L, hs, ss, cs, gs, vs) dr rd (nI D, sm, nI N, nI K, ce, de, ke, se) i0 i1 kp dd tr m)
    refine zq_b [zq_il 2, zq_k 2] [zq_ilchk 2, zq_kchk 2] 13 rfl (by decide +kernel) ?_
    show zq_G _ _ _ _ _ 13 ([(0, .ref 0), (1, .int x), (2, .int y)], [.int 2, .int y], XH tx (nI Z) (nI P, nI C, nI R, nI L, hs, ss, cs, gs, vs) dr rd (nI D, sm, nI N, nI K, ce, de, ke, se) i0 i1 kp dd tr m)
    refine zq_callS (av := [.int y, .int 2]) (rest := []) (by decide +kernel) k11_87 (x_isBeyond (x := y) (q := 2) (by omega)) rfl rfl ?_
    show zq_G _ _ _ _ _ 16 ([(0, .ref 0), (1, .int x), (2, .int y)], [.int (zb (y.toInt < 0 ∨ (2 : Int) < y.toInt))], XH tx (nI Z) (nI P, nI C, nI R, nI L, hs, ss, cs, gs, vs) dr rd (nI D, sm, nI N, nI K, ce, de, ke, se) i0 i1 kp dd tr m)
    refine zq_ifz .eq 21 (¬ (y.toInt < 0 ∨ (2 : Int) < y.toInt)) (by decide +kernel) (zb_eq _) (fun c16 => ?_) (fun c16 => ?_)
    · show zq_G _ _ _ _ _ 21 ([(0, .ref 0), (1, .int x), (2, .int y)], [], XH tx (nI Z) (nI P, nI C, nI R, nI L, hs, ss, cs, gs, vs) dr rd (nI D, sm, nI N, nI K, ce, de, ke, se) i0 i1 kp dd tr m)
      exact absurd hb (by omega)
    · show zq_G _ _ _ _ _ 19 ([(0, .ref 0), (1, .int x), (2, .int y)], [], XH tx (nI Z) (nI P, nI C, nI R, nI L, hs, ss, cs, gs, vs) dr rd (nI D, sm, nI N, nI K, ce, de, ke, se) i0 i1 kp dd tr m)
      refine zq_b [zq_k (-1)] [zq_kchk (-1)] 20 rfl (by decide +kernel) ?_
      show zq_G _ _ _ _ _ 20 ([(0, .ref 0), (1, .int x), (2, .int y)], [.int (-1)], XH tx (nI Z) (nI P, nI C, nI R, nI L, hs, ss, cs, gs, vs) dr rd (nI D, sm, nI N, nI K, ce, de, ke, se) i0 i1 kp dd tr m)
      exact zq_iret (by decide +kernel) rfl rfl rfl
set_option maxHeartbeats 4000000 in
set_option maxRecDepth 100000 in
theorem x_days_0 {a : Nat} (ha : a < P) (hP : P ≤ 6) (hD : D ≤ 99) : zq_P l mX11_days 2 [.ref 0, .int (nI a), .int 0] (XH tx (nI Z) (nI P, nI C, nI R, nI L, hs, ss, cs, gs, vs) dr rd (nI D, sm, nI N, nI K, ce, de, ke, se) i0 i1 kp dd tr m) (some (.int (nI (zct (fun d => decide (ke d &&& ((1 : Int32) <<< (nI a &&& 31)) = (1 : Int32) <<< (nI a &&& 31))) D)))) (XH tx (nI Z) (nI P, nI C, nI R, nI L, hs, ss, cs, gs, vs) dr rd (nI D, sm, nI N, nI K, ce, de, ke, se) i0 i1 kp dd tr m) := by
  refine zq_start (by decide +kernel) rfl (Nat.le_of_ble_eq_true rfl) ?_
  show zq_G _ _ _ _ _ 0 ([(0, .ref 0), (1, .int (nI a)), (2, .int 0)], [], XH tx (nI Z) (nI P, nI C, nI R, nI L, hs, ss, cs, gs, vs) dr rd (nI D, sm, nI N, nI K, ce, de, ke, se) i0 i1 kp dd tr m)
  refine zq_b [zq_al 0, zq_get 11 2, zq_il 1] [zq_alchk 0, zq_getchk 11 2, zq_ilchk 1] 5 rfl (by decide +kernel) ?_
  show zq_G _ _ _ _ _ 5 ([(0, .ref 0), (1, .int (nI a)), (2, .int 0)], [.int (nI a), .ref 2], XH tx (nI Z) (nI P, nI C, nI R, nI L, hs, ss, cs, gs, vs) dr rd (nI D, sm, nI N, nI K, ce, de, ke, se) i0 i1 kp dd tr m)
  refine zq_callV (av := [.int (nI a)]) (rest := []) (by decide +kernel) k11_105 (x_hasPersonN (p := a) hP (by omega)) rfl rfl rfl rfl ?_
  show zq_G _ _ _ _ _ 8 ([(0, .ref 0), (1, .int (nI a)), (2, .int 0)], [.int (zb (a < P))], XH tx (nI Z) (nI P, nI C, nI R, nI L, hs, ss, cs, gs, vs) dr rd (nI D, sm, nI N, nI K, ce, de, ke, se) i0 i1 kp dd tr m)
  refine zq_ifz .eq 19 (¬ (a < P)) (by decide +kernel) (zb_eq _) (fun c8 => absurd c8 (by omega)) (fun c8 => ?_)
  show zq_G _ _ _ _ _ 11 ([(0, .ref 0), (1, .int (nI a)), (2, .int 0)], [], XH tx (nI Z) (nI P, nI C, nI R, nI L, hs, ss, cs, gs, vs) dr rd (nI D, sm, nI N, nI K, ce, de, ke, se) i0 i1 kp dd tr m)
  refine zq_b [zq_il 2, zq_k 2] [zq_ilchk 2, zq_kchk 2] 13 rfl (by decide +kernel) ?_
  show zq_G _ _ _ _ _ 13 ([(0, .ref 0), (1, .int (nI a)), (2, .int 0)], [.int 2, .int 0], XH tx (nI Z) (nI P, nI C, nI R, nI L, hs, ss, cs, gs, vs) dr rd (nI D, sm, nI N, nI K, ce, de, ke, se) i0 i1 kp dd tr m)
  refine zq_callS (av := [.int 0, .int 2]) (rest := []) (by decide +kernel) k11_87 (x_isBeyondN (p := 0) (q := 2) (by omega) (by omega)) rfl rfl ?_
  show zq_G _ _ _ _ _ 16 ([(0, .ref 0), (1, .int (nI a)), (2, .int 0)], [.int (zb (2 < 0))], XH tx (nI Z) (nI P, nI C, nI R, nI L, hs, ss, cs, gs, vs) dr rd (nI D, sm, nI N, nI K, ce, de, ke, se) i0 i1 kp dd tr m)
  refine zq_ifz .eq 21 (¬ (2 < 0)) (by decide +kernel) (zb_eq _) (fun c16 => ?_) (fun c16 => absurd (by omega) c16)
  show zq_G _ _ _ _ _ 21 ([(0, .ref 0), (1, .int (nI a)), (2, .int 0)], [], XH tx (nI Z) (nI P, nI C, nI R, nI L, hs, ss, cs, gs, vs) dr rd (nI D, sm, nI N, nI K, ce, de, ke, se) i0 i1 kp dd tr m)
  refine zq_b [zq_il 2] [zq_ilchk 2] 22 rfl (by decide +kernel) ?_
  show zq_G _ _ _ _ _ 22 ([(0, .ref 0), (1, .int (nI a)), (2, .int 0)], [.int 0], XH tx (nI Z) (nI P, nI C, nI R, nI L, hs, ss, cs, gs, vs) dr rd (nI D, sm, nI N, nI K, ce, de, ke, se) i0 i1 kp dd tr m)
  refine zq_swc [(0, 48), (1, 59)] 68 (by decide +kernel) ⟨fun _ => ?_, fun c => absurd c (by decide), trivial⟩ (fun c => absurd (by decide) c.1)
  show zq_G _ _ _ _ _ 48 ([(0, .ref 0), (1, .int (nI a)), (2, .int 0)], [], XH tx (nI Z) (nI P, nI C, nI R, nI L, hs, ss, cs, gs, vs) dr rd (nI D, sm, nI N, nI K, ce, de, ke, se) i0 i1 kp dd tr m)
  refine zq_b [zq_al 0, zq_get 11 5, zq_k 1, zq_il 1, zq_ishl (1 <<< (nI a &&& 31))] [zq_alchk 0, zq_getchk 11 5, zq_kchk 1, zq_ilchk 1, zq_is .ishl 1] 55 rfl (by decide +kernel) ?_
  refine ⟨rfl, ?_⟩
  show zq_G _ _ _ _ _ 55 ([(0, .ref 0), (1, .int (nI a)), (2, .int 0)], [.int (1 <<< (nI a &&& 31)), .ref 15], XH tx (nI Z) (nI P, nI C, nI R, nI L, hs, ss, cs, gs, vs) dr rd (nI D, sm, nI N, nI K, ce, de, ke, se) i0 i1 kp dd tr m)
  refine zq_callV (av := [.int (1 <<< (nI a &&& 31))]) (rest := []) (by decide +kernel) k11_220 (c_daysKept (x := (1 <<< (nI a &&& 31))) hD) rfl rfl rfl rfl ?_
  show zq_G _ _ _ _ _ 58 ([(0, .ref 0), (1, .int (nI a)), (2, .int 0)], [.int (nI (zct (fun d => decide (ke d &&& (1 <<< (nI a &&& 31)) = (1 <<< (nI a &&& 31)))) D))], XH tx (nI Z) (nI P, nI C, nI R, nI L, hs, ss, cs, gs, vs) dr rd (nI D, sm, nI N, nI K, ce, de, ke, se) i0 i1 kp dd tr m)
  exact zq_iret (by decide +kernel) rfl rfl rfl
set_option maxHeartbeats 4000000 in
set_option maxRecDepth 100000 in
theorem x_days_1 {a : Nat} (ha : a < P) (hP : P ≤ 6) (hD : D ≤ 99) : zq_P l mX11_days 2 [.ref 0, .int (nI a), .int 1] (XH tx (nI Z) (nI P, nI C, nI R, nI L, hs, ss, cs, gs, vs) dr rd (nI D, sm, nI N, nI K, ce, de, ke, se) i0 i1 kp dd tr m) (some (.int (zfs (fun d => decide (zbit (ke d) (nI a) = 1)) nI D))) (XH tx (nI Z) (nI P, nI C, nI R, nI L, hs, ss, cs, gs, vs) dr rd (nI D, sm, nI N, nI K, ce, de, ke, se) i0 i1 kp dd tr m) := by
  refine zq_start (by decide +kernel) rfl (Nat.le_of_ble_eq_true rfl) ?_
  show zq_G _ _ _ _ _ 0 ([(0, .ref 0), (1, .int (nI a)), (2, .int 1)], [], XH tx (nI Z) (nI P, nI C, nI R, nI L, hs, ss, cs, gs, vs) dr rd (nI D, sm, nI N, nI K, ce, de, ke, se) i0 i1 kp dd tr m)
  refine zq_b [zq_al 0, zq_get 11 2, zq_il 1] [zq_alchk 0, zq_getchk 11 2, zq_ilchk 1] 5 rfl (by decide +kernel) ?_
  show zq_G _ _ _ _ _ 5 ([(0, .ref 0), (1, .int (nI a)), (2, .int 1)], [.int (nI a), .ref 2], XH tx (nI Z) (nI P, nI C, nI R, nI L, hs, ss, cs, gs, vs) dr rd (nI D, sm, nI N, nI K, ce, de, ke, se) i0 i1 kp dd tr m)
  refine zq_callV (av := [.int (nI a)]) (rest := []) (by decide +kernel) k11_105 (x_hasPersonN (p := a) hP (by omega)) rfl rfl rfl rfl ?_
  show zq_G _ _ _ _ _ 8 ([(0, .ref 0), (1, .int (nI a)), (2, .int 1)], [.int (zb (a < P))], XH tx (nI Z) (nI P, nI C, nI R, nI L, hs, ss, cs, gs, vs) dr rd (nI D, sm, nI N, nI K, ce, de, ke, se) i0 i1 kp dd tr m)
  refine zq_ifz .eq 19 (¬ (a < P)) (by decide +kernel) (zb_eq _) (fun c8 => absurd c8 (by omega)) (fun c8 => ?_)
  show zq_G _ _ _ _ _ 11 ([(0, .ref 0), (1, .int (nI a)), (2, .int 1)], [], XH tx (nI Z) (nI P, nI C, nI R, nI L, hs, ss, cs, gs, vs) dr rd (nI D, sm, nI N, nI K, ce, de, ke, se) i0 i1 kp dd tr m)
  refine zq_b [zq_il 2, zq_k 2] [zq_ilchk 2, zq_kchk 2] 13 rfl (by decide +kernel) ?_
  show zq_G _ _ _ _ _ 13 ([(0, .ref 0), (1, .int (nI a)), (2, .int 1)], [.int 2, .int 1], XH tx (nI Z) (nI P, nI C, nI R, nI L, hs, ss, cs, gs, vs) dr rd (nI D, sm, nI N, nI K, ce, de, ke, se) i0 i1 kp dd tr m)
  refine zq_callS (av := [.int 1, .int 2]) (rest := []) (by decide +kernel) k11_87 (x_isBeyondN (p := 1) (q := 2) (by omega) (by omega)) rfl rfl ?_
  show zq_G _ _ _ _ _ 16 ([(0, .ref 0), (1, .int (nI a)), (2, .int 1)], [.int (zb (2 < 1))], XH tx (nI Z) (nI P, nI C, nI R, nI L, hs, ss, cs, gs, vs) dr rd (nI D, sm, nI N, nI K, ce, de, ke, se) i0 i1 kp dd tr m)
  refine zq_ifz .eq 21 (¬ (2 < 1)) (by decide +kernel) (zb_eq _) (fun c16 => ?_) (fun c16 => absurd (by omega) c16)
  show zq_G _ _ _ _ _ 21 ([(0, .ref 0), (1, .int (nI a)), (2, .int 1)], [], XH tx (nI Z) (nI P, nI C, nI R, nI L, hs, ss, cs, gs, vs) dr rd (nI D, sm, nI N, nI K, ce, de, ke, se) i0 i1 kp dd tr m)
  refine zq_b [zq_il 2] [zq_ilchk 2] 22 rfl (by decide +kernel) ?_
  show zq_G _ _ _ _ _ 22 ([(0, .ref 0), (1, .int (nI a)), (2, .int 1)], [.int 1], XH tx (nI Z) (nI P, nI C, nI R, nI L, hs, ss, cs, gs, vs) dr rd (nI D, sm, nI N, nI K, ce, de, ke, se) i0 i1 kp dd tr m)
  refine zq_swc [(0, 48), (1, 59)] 68 (by decide +kernel) ⟨fun c => absurd c (by decide), fun _ => ?_, trivial⟩ (fun c => absurd (by decide) c.2.1)
  show zq_G _ _ _ _ _ 59 ([(0, .ref 0), (1, .int (nI a)), (2, .int 1)], [], XH tx (nI Z) (nI P, nI C, nI R, nI L, hs, ss, cs, gs, vs) dr rd (nI D, sm, nI N, nI K, ce, de, ke, se) i0 i1 kp dd tr m)
  refine zq_b [zq_al 0, zq_get 11 5, zq_il 1] [zq_alchk 0, zq_getchk 11 5, zq_ilchk 1] 64 rfl (by decide +kernel) ?_
  show zq_G _ _ _ _ _ 64 ([(0, .ref 0), (1, .int (nI a)), (2, .int 1)], [.int (nI a), .ref 15], XH tx (nI Z) (nI P, nI C, nI R, nI L, hs, ss, cs, gs, vs) dr rd (nI D, sm, nI N, nI K, ce, de, ke, se) i0 i1 kp dd tr m)
  refine zq_callV (av := [.int (nI a)]) (rest := []) (by decide +kernel) k11_223 (c_firstDayKept (p := (nI a)) hD) rfl rfl rfl rfl ?_
  show zq_G _ _ _ _ _ 67 ([(0, .ref 0), (1, .int (nI a)), (2, .int 1)], [.int (zfs (fun d => decide (zbit (ke d) (nI a) = 1)) nI D)], XH tx (nI Z) (nI P, nI C, nI R, nI L, hs, ss, cs, gs, vs) dr rd (nI D, sm, nI N, nI K, ce, de, ke, se) i0 i1 kp dd tr m)
  exact zq_iret (by decide +kernel) rfl rfl rfl
set_option maxHeartbeats 4000000 in
set_option maxRecDepth 100000 in
theorem x_days_2 {a : Nat} (ha : a < P) (hP : P ≤ 6) (hD : D ≤ 99) : zq_P l mX11_days 2 [.ref 0, .int (nI a), .int 2] (XH tx (nI Z) (nI P, nI C, nI R, nI L, hs, ss, cs, gs, vs) dr rd (nI D, sm, nI N, nI K, ce, de, ke, se) i0 i1 kp dd tr m) (some (.int (zls (fun d => decide (zbit (ke d) (nI a) = 1)) nI D))) (XH tx (nI Z) (nI P, nI C, nI R, nI L, hs, ss, cs, gs, vs) dr rd (nI D, sm, nI N, nI K, ce, de, ke, se) i0 i1 kp dd tr m) := by
  refine zq_start (by decide +kernel) rfl (Nat.le_of_ble_eq_true rfl) ?_
  show zq_G _ _ _ _ _ 0 ([(0, .ref 0), (1, .int (nI a)), (2, .int 2)], [], XH tx (nI Z) (nI P, nI C, nI R, nI L, hs, ss, cs, gs, vs) dr rd (nI D, sm, nI N, nI K, ce, de, ke, se) i0 i1 kp dd tr m)
  refine zq_b [zq_al 0, zq_get 11 2, zq_il 1] [zq_alchk 0, zq_getchk 11 2, zq_ilchk 1] 5 rfl (by decide +kernel) ?_
  show zq_G _ _ _ _ _ 5 ([(0, .ref 0), (1, .int (nI a)), (2, .int 2)], [.int (nI a), .ref 2], XH tx (nI Z) (nI P, nI C, nI R, nI L, hs, ss, cs, gs, vs) dr rd (nI D, sm, nI N, nI K, ce, de, ke, se) i0 i1 kp dd tr m)
  refine zq_callV (av := [.int (nI a)]) (rest := []) (by decide +kernel) k11_105 (x_hasPersonN (p := a) hP (by omega)) rfl rfl rfl rfl ?_
  show zq_G _ _ _ _ _ 8 ([(0, .ref 0), (1, .int (nI a)), (2, .int 2)], [.int (zb (a < P))], XH tx (nI Z) (nI P, nI C, nI R, nI L, hs, ss, cs, gs, vs) dr rd (nI D, sm, nI N, nI K, ce, de, ke, se) i0 i1 kp dd tr m)
  refine zq_ifz .eq 19 (¬ (a < P)) (by decide +kernel) (zb_eq _) (fun c8 => absurd c8 (by omega)) (fun c8 => ?_)
  show zq_G _ _ _ _ _ 11 ([(0, .ref 0), (1, .int (nI a)), (2, .int 2)], [], XH tx (nI Z) (nI P, nI C, nI R, nI L, hs, ss, cs, gs, vs) dr rd (nI D, sm, nI N, nI K, ce, de, ke, se) i0 i1 kp dd tr m)
  refine zq_b [zq_il 2, zq_k 2] [zq_ilchk 2, zq_kchk 2] 13 rfl (by decide +kernel) ?_
  show zq_G _ _ _ _ _ 13 ([(0, .ref 0), (1, .int (nI a)), (2, .int 2)], [.int 2, .int 2], XH tx (nI Z) (nI P, nI C, nI R, nI L, hs, ss, cs, gs, vs) dr rd (nI D, sm, nI N, nI K, ce, de, ke, se) i0 i1 kp dd tr m)
  refine zq_callS (av := [.int 2, .int 2]) (rest := []) (by decide +kernel) k11_87 (x_isBeyondN (p := 2) (q := 2) (by omega) (by omega)) rfl rfl ?_
  show zq_G _ _ _ _ _ 16 ([(0, .ref 0), (1, .int (nI a)), (2, .int 2)], [.int (zb (2 < 2))], XH tx (nI Z) (nI P, nI C, nI R, nI L, hs, ss, cs, gs, vs) dr rd (nI D, sm, nI N, nI K, ce, de, ke, se) i0 i1 kp dd tr m)
  refine zq_ifz .eq 21 (¬ (2 < 2)) (by decide +kernel) (zb_eq _) (fun c16 => ?_) (fun c16 => absurd (by omega) c16)
  show zq_G _ _ _ _ _ 21 ([(0, .ref 0), (1, .int (nI a)), (2, .int 2)], [], XH tx (nI Z) (nI P, nI C, nI R, nI L, hs, ss, cs, gs, vs) dr rd (nI D, sm, nI N, nI K, ce, de, ke, se) i0 i1 kp dd tr m)
  refine zq_b [zq_il 2] [zq_ilchk 2] 22 rfl (by decide +kernel) ?_
  show zq_G _ _ _ _ _ 22 ([(0, .ref 0), (1, .int (nI a)), (2, .int 2)], [.int 2], XH tx (nI Z) (nI P, nI C, nI R, nI L, hs, ss, cs, gs, vs) dr rd (nI D, sm, nI N, nI K, ce, de, ke, se) i0 i1 kp dd tr m)
  refine zq_swc [(0, 48), (1, 59)] 68 (by decide +kernel) ⟨fun c => absurd c (by decide), fun c => absurd c (by decide), trivial⟩ (fun _ => ?_)
  show zq_G _ _ _ _ _ 68 ([(0, .ref 0), (1, .int (nI a)), (2, .int 2)], [], XH tx (nI Z) (nI P, nI C, nI R, nI L, hs, ss, cs, gs, vs) dr rd (nI D, sm, nI N, nI K, ce, de, ke, se) i0 i1 kp dd tr m)
  refine zq_b [zq_al 0, zq_get 11 5, zq_il 1] [zq_alchk 0, zq_getchk 11 5, zq_ilchk 1] 73 rfl (by decide +kernel) ?_
  show zq_G _ _ _ _ _ 73 ([(0, .ref 0), (1, .int (nI a)), (2, .int 2)], [.int (nI a), .ref 15], XH tx (nI Z) (nI P, nI C, nI R, nI L, hs, ss, cs, gs, vs) dr rd (nI D, sm, nI N, nI K, ce, de, ke, se) i0 i1 kp dd tr m)
  refine zq_callV (av := [.int (nI a)]) (rest := []) (by decide +kernel) k11_226 (c_lastDayKept (p := (nI a)) hD) rfl rfl rfl rfl ?_
  show zq_G _ _ _ _ _ 76 ([(0, .ref 0), (1, .int (nI a)), (2, .int 2)], [.int (zls (fun d => decide (zbit (ke d) (nI a) = 1)) nI D)], XH tx (nI Z) (nI P, nI C, nI R, nI L, hs, ss, cs, gs, vs) dr rd (nI D, sm, nI N, nI K, ce, de, ke, se) i0 i1 kp dd tr m)
  exact zq_iret (by decide +kernel) rfl rfl rfl
set_option maxHeartbeats 4000000 in
set_option maxRecDepth 100000 in
theorem x_together_bad {x : Int32} (hP : P ≤ 6) (hb : ¬ (0 ≤ x.toInt ∧ x.toInt < (zp2 P : Int))) : zq_P l mX11_together 1 [.ref 0, .int x] (XH tx (nI Z) (nI P, nI C, nI R, nI L, hs, ss, cs, gs, vs) dr rd (nI D, sm, nI N, nI K, ce, de, ke, se) i0 i1 kp dd tr m) (some (.int (-1))) (XH tx (nI Z) (nI P, nI C, nI R, nI L, hs, ss, cs, gs, vs) dr rd (nI D, sm, nI N, nI K, ce, de, ke, se) i0 i1 kp dd tr m) := by
  refine zq_start (by decide +kernel) rfl (Nat.le_of_ble_eq_true rfl) ?_
  show zq_G _ _ _ _ _ 0 ([(0, .ref 0), (1, .int x)], [], XH tx (nI Z) (nI P, nI C, nI R, nI L, hs, ss, cs, gs, vs) dr rd (nI D, sm, nI N, nI K, ce, de, ke, se) i0 i1 kp dd tr m)
  refine zq_b [zq_al 0, zq_get 11 2, zq_il 1] [zq_alchk 0, zq_getchk 11 2, zq_ilchk 1] 5 rfl (by decide +kernel) ?_
  show zq_G _ _ _ _ _ 5 ([(0, .ref 0), (1, .int x)], [.int x, .ref 2], XH tx (nI Z) (nI P, nI C, nI R, nI L, hs, ss, cs, gs, vs) dr rd (nI D, sm, nI N, nI K, ce, de, ke, se) i0 i1 kp dd tr m)
  refine zq_callV (av := [.int x]) (rest := []) (by decide +kernel) k11_184 (x_areBits (b := x) hP) rfl rfl rfl rfl ?_
  show zq_G _ _ _ _ _ 8 ([(0, .ref 0), (1, .int x)], [.int (zb (0 ≤ x.toInt ∧ x.toInt < (zp2 P : Int)))], XH tx (nI Z) (nI P, nI C, nI R, nI L, hs, ss, cs, gs, vs) dr rd (nI D, sm, nI N, nI K, ce, de, ke, se) i0 i1 kp dd tr m)
  refine zq_ifz .ne 13 (0 ≤ x.toInt ∧ x.toInt < (zp2 P : Int)) (by decide +kernel) (zb_ne _) (fun c8 => ?_) (fun c8 => ?_)
  · show zq_G _ _ _ _ _ 13 ([(0, .ref 0), (1, .int x)], [], XH tx (nI Z) (nI P, nI C, nI R, nI L, hs, ss, cs, gs, vs) dr rd (nI D, sm, nI N, nI K, ce, de, ke, se) i0 i1 kp dd tr m)
    exact absurd c8 hb
  · show zq_G _ _ _ _ _ 11 ([(0, .ref 0), (1, .int x)], [], XH tx (nI Z) (nI P, nI C, nI R, nI L, hs, ss, cs, gs, vs) dr rd (nI D, sm, nI N, nI K, ce, de, ke, se) i0 i1 kp dd tr m)
    refine zq_b [zq_k (-1)] [zq_kchk (-1)] 12 rfl (by decide +kernel) ?_
    show zq_G _ _ _ _ _ 12 ([(0, .ref 0), (1, .int x)], [.int (-1)], XH tx (nI Z) (nI P, nI C, nI R, nI L, hs, ss, cs, gs, vs) dr rd (nI D, sm, nI N, nI K, ce, de, ke, se) i0 i1 kp dd tr m)
    exact zq_iret (by decide +kernel) rfl rfl rfl
set_option maxHeartbeats 4000000 in
set_option maxRecDepth 100000 in
theorem x_together {x : Int32} (hP : P ≤ 6) (hD : D ≤ 99) (hx : 0 ≤ x.toInt ∧ x.toInt < (zp2 P : Int)) : zq_P l mX11_together 1 [.ref 0, .int x] (XH tx (nI Z) (nI P, nI C, nI R, nI L, hs, ss, cs, gs, vs) dr rd (nI D, sm, nI N, nI K, ce, de, ke, se) i0 i1 kp dd tr m) (some (.int (nI (zct (fun d => decide (ke d &&& x = x)) D)))) (XH tx (nI Z) (nI P, nI C, nI R, nI L, hs, ss, cs, gs, vs) dr rd (nI D, sm, nI N, nI K, ce, de, ke, se) i0 i1 kp dd tr m) := by
  refine zq_start (by decide +kernel) rfl (Nat.le_of_ble_eq_true rfl) ?_
  show zq_G _ _ _ _ _ 0 ([(0, .ref 0), (1, .int x)], [], XH tx (nI Z) (nI P, nI C, nI R, nI L, hs, ss, cs, gs, vs) dr rd (nI D, sm, nI N, nI K, ce, de, ke, se) i0 i1 kp dd tr m)
  refine zq_b [zq_al 0, zq_get 11 2, zq_il 1] [zq_alchk 0, zq_getchk 11 2, zq_ilchk 1] 5 rfl (by decide +kernel) ?_
  show zq_G _ _ _ _ _ 5 ([(0, .ref 0), (1, .int x)], [.int x, .ref 2], XH tx (nI Z) (nI P, nI C, nI R, nI L, hs, ss, cs, gs, vs) dr rd (nI D, sm, nI N, nI K, ce, de, ke, se) i0 i1 kp dd tr m)
  refine zq_callV (av := [.int x]) (rest := []) (by decide +kernel) k11_184 (x_areBits (b := x) hP) rfl rfl rfl rfl ?_
  show zq_G _ _ _ _ _ 8 ([(0, .ref 0), (1, .int x)], [.int (zb (0 ≤ x.toInt ∧ x.toInt < (zp2 P : Int)))], XH tx (nI Z) (nI P, nI C, nI R, nI L, hs, ss, cs, gs, vs) dr rd (nI D, sm, nI N, nI K, ce, de, ke, se) i0 i1 kp dd tr m)
  refine zq_ifz .ne 13 (0 ≤ x.toInt ∧ x.toInt < (zp2 P : Int)) (by decide +kernel) (zb_ne _) (fun c8 => ?_) (fun c8 => absurd hx c8)
  show zq_G _ _ _ _ _ 13 ([(0, .ref 0), (1, .int x)], [], XH tx (nI Z) (nI P, nI C, nI R, nI L, hs, ss, cs, gs, vs) dr rd (nI D, sm, nI N, nI K, ce, de, ke, se) i0 i1 kp dd tr m)
  refine zq_b [zq_al 0, zq_get 11 5, zq_il 1] [zq_alchk 0, zq_getchk 11 5, zq_ilchk 1] 18 rfl (by decide +kernel) ?_
  show zq_G _ _ _ _ _ 18 ([(0, .ref 0), (1, .int x)], [.int x, .ref 15], XH tx (nI Z) (nI P, nI C, nI R, nI L, hs, ss, cs, gs, vs) dr rd (nI D, sm, nI N, nI K, ce, de, ke, se) i0 i1 kp dd tr m)
  refine zq_callV (av := [.int x]) (rest := []) (by decide +kernel) k11_220 (c_daysKept (x := x) hD) rfl rfl rfl rfl ?_
  show zq_G _ _ _ _ _ 21 ([(0, .ref 0), (1, .int x)], [.int (nI (zct (fun d => decide (ke d &&& x = x)) D))], XH tx (nI Z) (nI P, nI C, nI R, nI L, hs, ss, cs, gs, vs) dr rd (nI D, sm, nI N, nI K, ce, de, ke, se) i0 i1 kp dd tr m)
  exact zq_iret (by decide +kernel) rfl rfl rfl
set_option maxHeartbeats 4000000 in
set_option maxRecDepth 100000 in
theorem x_mark_bad {x : Int32} {y : Int32} (hN : N ≤ 12) (hb : ¬ (0 ≤ x.toInt ∧ x.toInt ≤ 5 ∧ 0 ≤ y.toInt ∧ y.toInt < (N : Int))) : zq_P l mX11_mark 1 [.ref 0, .int x, .int y] (XH tx (nI Z) (nI P, nI C, nI R, nI L, hs, ss, cs, gs, vs) dr rd (nI D, sm, nI N, nI K, ce, de, ke, se) i0 i1 kp dd tr m) (some (.int (-1000000))) (XH tx (nI Z) (nI P, nI C, nI R, nI L, hs, ss, cs, gs, vs) dr rd (nI D, sm, nI N, nI K, ce, de, ke, se) i0 i1 kp dd tr m) := by
  refine zq_start (by decide +kernel) rfl (Nat.le_of_ble_eq_true rfl) ?_
  show zq_G _ _ _ _ _ 0 ([(0, .ref 0), (1, .int x), (2, .int y)], [], XH tx (nI Z) (nI P, nI C, nI R, nI L, hs, ss, cs, gs, vs) dr rd (nI D, sm, nI N, nI K, ce, de, ke, se) i0 i1 kp dd tr m)
  refine zq_b [zq_il 1, zq_k 5] [zq_ilchk 1, zq_kchk 5] 2 rfl (by decide +kernel) ?_
  show zq_G _ _ _ _ _ 2 ([(0, .ref 0), (1, .int x), (2, .int y)], [.int 5, .int x], XH tx (nI Z) (nI P, nI C, nI R, nI L, hs, ss, cs, gs, vs) dr rd (nI D, sm, nI N, nI K, ce, de, ke, se) i0 i1 kp dd tr m)
  refine zq_callS (av := [.int x, .int 5]) (rest := []) (by decide +kernel) k11_87 (x_isBeyond (x := x) (q := 5) (by omega)) rfl rfl ?_
  show zq_G _ _ _ _ _ 5 ([(0, .ref 0), (1, .int x), (2, .int y)], [.int (zb (x.toInt < 0 ∨ (5 : Int) < x.toInt))], XH tx (nI Z) (nI P, nI C, nI R, nI L, hs, ss, cs, gs, vs) dr rd (nI D, sm, nI N, nI K, ce, de, ke, se) i0 i1 kp dd tr m)
  refine zq_ifz .ne 19 (x.toInt < 0 ∨ (5 : Int) < x.toInt) (by decide +kernel) (zb_ne _) (fun c5 => ?_) (fun c5 => ?_)
  · show zq_G _ _ _ _ _ 19 ([(0, .ref 0), (1, .int x), (2, .int y)], [], XH tx (nI Z) (nI P, nI C, nI R, nI L, hs, ss, cs, gs, vs) dr rd (nI D, sm, nI N, nI K, ce, de, ke, se) i0 i1 kp dd tr m)
    refine zq_b [zq_k (-1000000)] [zq_kchk (-1000000)] 21 rfl (by decide +kernel) ?_
    show zq_G _ _ _ _ _ 21 ([(0, .ref 0), (1, .int x), (2, .int y)], [.int (-1000000)], XH tx (nI Z) (nI P, nI C, nI R, nI L, hs, ss, cs, gs, vs) dr rd (nI D, sm, nI N, nI K, ce, de, ke, se) i0 i1 kp dd tr m)
    exact zq_iret (by decide +kernel) rfl rfl rfl
  · show zq_G _ _ _ _ _ 8 ([(0, .ref 0), (1, .int x), (2, .int y)], [], XH tx (nI Z) (nI P, nI C, nI R, nI L, hs, ss, cs, gs, vs) dr rd (nI D, sm, nI N, nI K, ce, de, ke, se) i0 i1 kp dd tr m)
    refine zq_b [zq_al 0, zq_get 11 5, zq_il 2] [zq_alchk 0, zq_getchk 11 5, zq_ilchk 2] 13 rfl (by decide +kernel) ?_
    show zq_G _ _ _ _ _ 13 ([(0, .ref 0), (1, .int x), (2, .int y)], [.int y, .ref 15], XH tx (nI Z) (nI P, nI C, nI R, nI L, hs, ss, cs, gs, vs) dr rd (nI D, sm, nI N, nI K, ce, de, ke, se) i0 i1 kp dd tr m)
    refine zq_callV (av := [.int y]) (rest := []) (by decide +kernel) k11_168 (x_hasDeed (i := y) hN) rfl rfl rfl rfl ?_
    show zq_G _ _ _ _ _ 16 ([(0, .ref 0), (1, .int x), (2, .int y)], [.int (zb (0 ≤ y.toInt ∧ y.toInt < (N : Int)))], XH tx (nI Z) (nI P, nI C, nI R, nI L, hs, ss, cs, gs, vs) dr rd (nI D, sm, nI N, nI K, ce, de, ke, se) i0 i1 kp dd tr m)
    refine zq_ifz .ne 22 (0 ≤ y.toInt ∧ y.toInt < (N : Int)) (by decide +kernel) (zb_ne _) (fun c16 => ?_) (fun c16 => ?_)
    · show zq_G _ _ _ _ _ 22 ([(0, .ref 0), (1, .int x), (2, .int y)], [], XH tx (nI Z) (nI P, nI C, nI R, nI L, hs, ss, cs, gs, vs) dr rd (nI D, sm, nI N, nI K, ce, de, ke, se) i0 i1 kp dd tr m)
      exact absurd hb (by omega)
    · show zq_G _ _ _ _ _ 19 ([(0, .ref 0), (1, .int x), (2, .int y)], [], XH tx (nI Z) (nI P, nI C, nI R, nI L, hs, ss, cs, gs, vs) dr rd (nI D, sm, nI N, nI K, ce, de, ke, se) i0 i1 kp dd tr m)
      refine zq_b [zq_k (-1000000)] [zq_kchk (-1000000)] 21 rfl (by decide +kernel) ?_
      show zq_G _ _ _ _ _ 21 ([(0, .ref 0), (1, .int x), (2, .int y)], [.int (-1000000)], XH tx (nI Z) (nI P, nI C, nI R, nI L, hs, ss, cs, gs, vs) dr rd (nI D, sm, nI N, nI K, ce, de, ke, se) i0 i1 kp dd tr m)
      exact zq_iret (by decide +kernel) rfl rfl rfl
set_option maxHeartbeats 4000000 in
set_option maxRecDepth 100000 in
theorem x_mark_0 {Q : Nat} (hQ2 : Q < N) (hN : N ≤ 12) : zq_P l mX11_mark 5 [.ref 0, .int 0, .int (nI Q)] (XH tx (nI Z) (nI P, nI C, nI R, nI L, hs, ss, cs, gs, vs) dr rd (nI D, sm, nI N, nI K, ce, de, ke, se) i0 i1 kp dd tr m) (some (.int (de (Q * 5 + 2)))) (XH tx (nI Z) (nI P, nI C, nI R, nI L, hs, ss, cs, gs, vs) dr rd (nI D, sm, nI N, nI K, ce, de, ke, se) i0 i1 kp (nI Q) (tr + 1) m) := by
  refine zq_start (by decide +kernel) rfl (Nat.le_of_ble_eq_true rfl) ?_
  show zq_G _ _ _ _ _ 0 ([(0, .ref 0), (1, .int 0), (2, .int (nI Q))], [], XH tx (nI Z) (nI P, nI C, nI R, nI L, hs, ss, cs, gs, vs) dr rd (nI D, sm, nI N, nI K, ce, de, ke, se) i0 i1 kp dd tr m)
  refine zq_b [zq_il 1, zq_k 5] [zq_ilchk 1, zq_kchk 5] 2 rfl (by decide +kernel) ?_
  show zq_G _ _ _ _ _ 2 ([(0, .ref 0), (1, .int 0), (2, .int (nI Q))], [.int 5, .int 0], XH tx (nI Z) (nI P, nI C, nI R, nI L, hs, ss, cs, gs, vs) dr rd (nI D, sm, nI N, nI K, ce, de, ke, se) i0 i1 kp dd tr m)
  refine zq_callS (av := [.int 0, .int 5]) (rest := []) (by decide +kernel) k11_87 (x_isBeyondN (p := 0) (q := 5) (by omega) (by omega)) rfl rfl ?_
  show zq_G _ _ _ _ _ 5 ([(0, .ref 0), (1, .int 0), (2, .int (nI Q))], [.int (zb (5 < 0))], XH tx (nI Z) (nI P, nI C, nI R, nI L, hs, ss, cs, gs, vs) dr rd (nI D, sm, nI N, nI K, ce, de, ke, se) i0 i1 kp dd tr m)
  refine zq_ifz .ne 19 (5 < 0) (by decide +kernel) (zb_ne _) (fun c5 => absurd c5 (by omega)) (fun c5 => ?_)
  show zq_G _ _ _ _ _ 8 ([(0, .ref 0), (1, .int 0), (2, .int (nI Q))], [], XH tx (nI Z) (nI P, nI C, nI R, nI L, hs, ss, cs, gs, vs) dr rd (nI D, sm, nI N, nI K, ce, de, ke, se) i0 i1 kp dd tr m)
  refine zq_b [zq_al 0, zq_get 11 5, zq_il 2] [zq_alchk 0, zq_getchk 11 5, zq_ilchk 2] 13 rfl (by decide +kernel) ?_
  show zq_G _ _ _ _ _ 13 ([(0, .ref 0), (1, .int 0), (2, .int (nI Q))], [.int (nI Q), .ref 15], XH tx (nI Z) (nI P, nI C, nI R, nI L, hs, ss, cs, gs, vs) dr rd (nI D, sm, nI N, nI K, ce, de, ke, se) i0 i1 kp dd tr m)
  refine zq_callV (av := [.int (nI Q)]) (rest := []) (by decide +kernel) k11_168 (x_hasDeedN (i := Q) hN (by omega)) rfl rfl rfl rfl ?_
  show zq_G _ _ _ _ _ 16 ([(0, .ref 0), (1, .int 0), (2, .int (nI Q))], [.int (zb (Q < N))], XH tx (nI Z) (nI P, nI C, nI R, nI L, hs, ss, cs, gs, vs) dr rd (nI D, sm, nI N, nI K, ce, de, ke, se) i0 i1 kp dd tr m)
  refine zq_ifz .ne 22 (Q < N) (by decide +kernel) (zb_ne _) (fun c16 => ?_) (fun c16 => absurd (by omega) c16)
  show zq_G _ _ _ _ _ 22 ([(0, .ref 0), (1, .int 0), (2, .int (nI Q))], [], XH tx (nI Z) (nI P, nI C, nI R, nI L, hs, ss, cs, gs, vs) dr rd (nI D, sm, nI N, nI K, ce, de, ke, se) i0 i1 kp dd tr m)
  refine zq_b [zq_al 0, zq_get 11 9, zq_il 2, zq_puti 0 2, zq_al 0, zq_get 11 10, zq_il 1, zq_aald 0, zq_al 0, zq_get 11 9] [zq_alchk 0, zq_getchk 11 9, zq_ilchk 2, zq_putchk 0 2 .int, zq_alchk 0, zq_getchk 11 10, zq_ilchk 1, zq_is .aaload 1, zq_alchk 0, zq_getchk 11 9] 40 rfl (by decide +kernel) ?_
  refine ⟨rfl, (by decide), (by decide), ?_⟩
  show zq_G _ _ _ _ _ 40 ([(0, .ref 0), (1, .int 0), (2, .int (nI Q))], [.ref 33, .ref 35], XH tx (nI Z) (nI P, nI C, nI R, nI L, hs, ss, cs, gs, vs) dr rd (nI D, sm, nI N, nI K, ce, de, ke, se) i0 i1 kp (nI Q) tr m)
  refine zq_callD (av := [.ref 33]) (rest := []) (by decide +kernel) kd11_233 kd_Plain (c_plain_35 (Q := Q) (by omega)) rfl rfl rfl rfl ?_
  show zq_G _ _ _ _ _ 43 ([(0, .ref 0), (1, .int 0), (2, .int (nI Q))], [.int (de (Q * 5 + 2))], XH tx (nI Z) (nI P, nI C, nI R, nI L, hs, ss, cs, gs, vs) dr rd (nI D, sm, nI N, nI K, ce, de, ke, se) i0 i1 kp (nI Q) (tr + 1) m)
  exact zq_iret (by decide +kernel) rfl rfl rfl
set_option maxHeartbeats 4000000 in
set_option maxRecDepth 100000 in
theorem x_mark_1 {Q : Nat} {wq : Nat} (hQ2 : Q < N) (hN : N ≤ 12) (hw0 : de (Q * 5 + 0) = nI wq) (hw6 : wq < 6) : zq_P l mX11_mark 5 [.ref 0, .int 1, .int (nI Q)] (XH tx (nI Z) (nI P, nI C, nI R, nI L, hs, ss, cs, gs, vs) dr rd (nI D, sm, nI N, nI K, ce, de, ke, se) i0 i1 kp dd tr m) (some (.int (de (Q * 5 + 2) + hs wq))) (XH tx (nI Z) (nI P, nI C, nI R, nI L, hs, ss, cs, gs, vs) dr rd (nI D, sm, nI N, nI K, ce, de, ke, se) i0 i1 kp (nI Q) ((tr + 10) + 1) m) := by
  refine zq_start (by decide +kernel) rfl (Nat.le_of_ble_eq_true rfl) ?_
  show zq_G _ _ _ _ _ 0 ([(0, .ref 0), (1, .int 1), (2, .int (nI Q))], [], XH tx (nI Z) (nI P, nI C, nI R, nI L, hs, ss, cs, gs, vs) dr rd (nI D, sm, nI N, nI K, ce, de, ke, se) i0 i1 kp dd tr m)
  refine zq_b [zq_il 1, zq_k 5] [zq_ilchk 1, zq_kchk 5] 2 rfl (by decide +kernel) ?_
  show zq_G _ _ _ _ _ 2 ([(0, .ref 0), (1, .int 1), (2, .int (nI Q))], [.int 5, .int 1], XH tx (nI Z) (nI P, nI C, nI R, nI L, hs, ss, cs, gs, vs) dr rd (nI D, sm, nI N, nI K, ce, de, ke, se) i0 i1 kp dd tr m)
  refine zq_callS (av := [.int 1, .int 5]) (rest := []) (by decide +kernel) k11_87 (x_isBeyondN (p := 1) (q := 5) (by omega) (by omega)) rfl rfl ?_
  show zq_G _ _ _ _ _ 5 ([(0, .ref 0), (1, .int 1), (2, .int (nI Q))], [.int (zb (5 < 1))], XH tx (nI Z) (nI P, nI C, nI R, nI L, hs, ss, cs, gs, vs) dr rd (nI D, sm, nI N, nI K, ce, de, ke, se) i0 i1 kp dd tr m)
  refine zq_ifz .ne 19 (5 < 1) (by decide +kernel) (zb_ne _) (fun c5 => absurd c5 (by omega)) (fun c5 => ?_)
  show zq_G _ _ _ _ _ 8 ([(0, .ref 0), (1, .int 1), (2, .int (nI Q))], [], XH tx (nI Z) (nI P, nI C, nI R, nI L, hs, ss, cs, gs, vs) dr rd (nI D, sm, nI N, nI K, ce, de, ke, se) i0 i1 kp dd tr m)
  refine zq_b [zq_al 0, zq_get 11 5, zq_il 2] [zq_alchk 0, zq_getchk 11 5, zq_ilchk 2] 13 rfl (by decide +kernel) ?_
  show zq_G _ _ _ _ _ 13 ([(0, .ref 0), (1, .int 1), (2, .int (nI Q))], [.int (nI Q), .ref 15], XH tx (nI Z) (nI P, nI C, nI R, nI L, hs, ss, cs, gs, vs) dr rd (nI D, sm, nI N, nI K, ce, de, ke, se) i0 i1 kp dd tr m)
  refine zq_callV (av := [.int (nI Q)]) (rest := []) (by decide +kernel) k11_168 (x_hasDeedN (i := Q) hN (by omega)) rfl rfl rfl rfl ?_
  show zq_G _ _ _ _ _ 16 ([(0, .ref 0), (1, .int 1), (2, .int (nI Q))], [.int (zb (Q < N))], XH tx (nI Z) (nI P, nI C, nI R, nI L, hs, ss, cs, gs, vs) dr rd (nI D, sm, nI N, nI K, ce, de, ke, se) i0 i1 kp dd tr m)
  refine zq_ifz .ne 22 (Q < N) (by decide +kernel) (zb_ne _) (fun c16 => ?_) (fun c16 => absurd (by omega) c16)
  show zq_G _ _ _ _ _ 22 ([(0, .ref 0), (1, .int 1), (2, .int (nI Q))], [], XH tx (nI Z) (nI P, nI C, nI R, nI L, hs, ss, cs, gs, vs) dr rd (nI D, sm, nI N, nI K, ce, de, ke, se) i0 i1 kp dd tr m)
  refine zq_b [zq_al 0, zq_get 11 9, zq_il 2, zq_puti 0 2, zq_al 0, zq_get 11 10, zq_il 1, zq_aald 1, zq_al 0, zq_get 11 9] [zq_alchk 0, zq_getchk 11 9, zq_ilchk 2, zq_putchk 0 2 .int, zq_alchk 0, zq_getchk 11 10, zq_ilchk 1, zq_is .aaload 1, zq_alchk 0, zq_getchk 11 9] 40 rfl (by decide +kernel) ?_
  refine ⟨rfl, (by decide), (by decide), ?_⟩
  show zq_G _ _ _ _ _ 40 ([(0, .ref 0), (1, .int 1), (2, .int (nI Q))], [.ref 33, .ref 36], XH tx (nI Z) (nI P, nI C, nI R, nI L, hs, ss, cs, gs, vs) dr rd (nI D, sm, nI N, nI K, ce, de, ke, se) i0 i1 kp (nI Q) tr m)
  refine zq_callD (av := [.ref 33]) (rest := []) (by decide +kernel) kd11_233 kd_Posed (c_posed_36 (Q := Q) (wq := wq) (by omega) hw0 hw6) rfl rfl rfl rfl ?_
  show zq_G _ _ _ _ _ 43 ([(0, .ref 0), (1, .int 1), (2, .int (nI Q))], [.int (de (Q * 5 + 2) + hs wq)], XH tx (nI Z) (nI P, nI C, nI R, nI L, hs, ss, cs, gs, vs) dr rd (nI D, sm, nI N, nI K, ce, de, ke, se) i0 i1 kp (nI Q) ((tr + 10) + 1) m)
  exact zq_iret (by decide +kernel) rfl rfl rfl
set_option maxHeartbeats 4000000 in
set_option maxRecDepth 100000 in
theorem x_mark_2 {Q : Nat} (hQ2 : Q < N) (hN : N ≤ 12) : zq_P l mX11_mark 5 [.ref 0, .int 2, .int (nI Q)] (XH tx (nI Z) (nI P, nI C, nI R, nI L, hs, ss, cs, gs, vs) dr rd (nI D, sm, nI N, nI K, ce, de, ke, se) i0 i1 kp dd tr m) (some (.int (de (Q * 5 + 2) - de (Q * 5 + 3) / 5))) (XH tx (nI Z) (nI P, nI C, nI R, nI L, hs, ss, cs, gs, vs) dr rd (nI D, sm, nI N, nI K, ce, de, ke, se) i0 i1 kp (nI Q) ((tr + 100) + 1) m) := by
  refine zq_start (by decide +kernel) rfl (Nat.le_of_ble_eq_true rfl) ?_
  show zq_G _ _ _ _ _ 0 ([(0, .ref 0), (1, .int 2), (2, .int (nI Q))], [], XH tx (nI Z) (nI P, nI C, nI R, nI L, hs, ss, cs, gs, vs) dr rd (nI D, sm, nI N, nI K, ce, de, ke, se) i0 i1 kp dd tr m)
  refine zq_b [zq_il 1, zq_k 5] [zq_ilchk 1, zq_kchk 5] 2 rfl (by decide +kernel) ?_
  show zq_G _ _ _ _ _ 2 ([(0, .ref 0), (1, .int 2), (2, .int (nI Q))], [.int 5, .int 2], XH tx (nI Z) (nI P, nI C, nI R, nI L, hs, ss, cs, gs, vs) dr rd (nI D, sm, nI N, nI K, ce, de, ke, se) i0 i1 kp dd tr m)
  refine zq_callS (av := [.int 2, .int 5]) (rest := []) (by decide +kernel) k11_87 (x_isBeyondN (p := 2) (q := 5) (by omega) (by omega)) rfl rfl ?_
  show zq_G _ _ _ _ _ 5 ([(0, .ref 0), (1, .int 2), (2, .int (nI Q))], [.int (zb (5 < 2))], XH tx (nI Z) (nI P, nI C, nI R, nI L, hs, ss, cs, gs, vs) dr rd (nI D, sm, nI N, nI K, ce, de, ke, se) i0 i1 kp dd tr m)
  refine zq_ifz .ne 19 (5 < 2) (by decide +kernel) (zb_ne _) (fun c5 => absurd c5 (by omega)) (fun c5 => ?_)
  show zq_G _ _ _ _ _ 8 ([(0, .ref 0), (1, .int 2), (2, .int (nI Q))], [], XH tx (nI Z) (nI P, nI C, nI R, nI L, hs, ss, cs, gs, vs) dr rd (nI D, sm, nI N, nI K, ce, de, ke, se) i0 i1 kp dd tr m)
  refine zq_b [zq_al 0, zq_get 11 5, zq_il 2] [zq_alchk 0, zq_getchk 11 5, zq_ilchk 2] 13 rfl (by decide +kernel) ?_
  show zq_G _ _ _ _ _ 13 ([(0, .ref 0), (1, .int 2), (2, .int (nI Q))], [.int (nI Q), .ref 15], XH tx (nI Z) (nI P, nI C, nI R, nI L, hs, ss, cs, gs, vs) dr rd (nI D, sm, nI N, nI K, ce, de, ke, se) i0 i1 kp dd tr m)
  refine zq_callV (av := [.int (nI Q)]) (rest := []) (by decide +kernel) k11_168 (x_hasDeedN (i := Q) hN (by omega)) rfl rfl rfl rfl ?_
  show zq_G _ _ _ _ _ 16 ([(0, .ref 0), (1, .int 2), (2, .int (nI Q))], [.int (zb (Q < N))], XH tx (nI Z) (nI P, nI C, nI R, nI L, hs, ss, cs, gs, vs) dr rd (nI D, sm, nI N, nI K, ce, de, ke, se) i0 i1 kp dd tr m)
  refine zq_ifz .ne 22 (Q < N) (by decide +kernel) (zb_ne _) (fun c16 => ?_) (fun c16 => absurd (by omega) c16)
  show zq_G _ _ _ _ _ 22 ([(0, .ref 0), (1, .int 2), (2, .int (nI Q))], [], XH tx (nI Z) (nI P, nI C, nI R, nI L, hs, ss, cs, gs, vs) dr rd (nI D, sm, nI N, nI K, ce, de, ke, se) i0 i1 kp dd tr m)
  refine zq_b [zq_al 0, zq_get 11 9, zq_il 2, zq_puti 0 2, zq_al 0, zq_get 11 10, zq_il 1, zq_aald 2, zq_al 0, zq_get 11 9] [zq_alchk 0, zq_getchk 11 9, zq_ilchk 2, zq_putchk 0 2 .int, zq_alchk 0, zq_getchk 11 10, zq_ilchk 1, zq_is .aaload 1, zq_alchk 0, zq_getchk 11 9] 40 rfl (by decide +kernel) ?_
  refine ⟨rfl, (by decide), (by decide), ?_⟩
  show zq_G _ _ _ _ _ 40 ([(0, .ref 0), (1, .int 2), (2, .int (nI Q))], [.ref 33, .ref 37], XH tx (nI Z) (nI P, nI C, nI R, nI L, hs, ss, cs, gs, vs) dr rd (nI D, sm, nI N, nI K, ce, de, ke, se) i0 i1 kp (nI Q) tr m)
  refine zq_callD (av := [.ref 33]) (rest := []) (by decide +kernel) kd11_233 kd_Hidden (c_hidden_37 (Q := Q) (by omega)) rfl rfl rfl rfl ?_
  show zq_G _ _ _ _ _ 43 ([(0, .ref 0), (1, .int 2), (2, .int (nI Q))], [.int (de (Q * 5 + 2) - de (Q * 5 + 3) / 5)], XH tx (nI Z) (nI P, nI C, nI R, nI L, hs, ss, cs, gs, vs) dr rd (nI D, sm, nI N, nI K, ce, de, ke, se) i0 i1 kp (nI Q) ((tr + 100) + 1) m)
  exact zq_iret (by decide +kernel) rfl rfl rfl
set_option maxHeartbeats 4000000 in
set_option maxRecDepth 100000 in
theorem x_mark_3 {Q : Nat} {wq : Nat} (hQ2 : Q < N) (hN : N ≤ 12) (hw0 : de (Q * 5 + 0) = nI wq) (hw6 : wq < 6) : zq_P l mX11_mark 5 [.ref 0, .int 3, .int (nI Q)] (XH tx (nI Z) (nI P, nI C, nI R, nI L, hs, ss, cs, gs, vs) dr rd (nI D, sm, nI N, nI K, ce, de, ke, se) i0 i1 kp dd tr m) (some (.int ((de (Q * 5 + 2) + hs wq) * 2))) (XH tx (nI Z) (nI P, nI C, nI R, nI L, hs, ss, cs, gs, vs) dr rd (nI D, sm, nI N, nI K, ce, de, ke, se) i0 i1 kp (nI Q) (((tr + 1000) + 10) + 1) m) := by
  refine zq_start (by decide +kernel) rfl (Nat.le_of_ble_eq_true rfl) ?_
  show zq_G _ _ _ _ _ 0 ([(0, .ref 0), (1, .int 3), (2, .int (nI Q))], [], XH tx (nI Z) (nI P, nI C, nI R, nI L, hs, ss, cs, gs, vs) dr rd (nI D, sm, nI N, nI K, ce, de, ke, se) i0 i1 kp dd tr m)
  refine zq_b [zq_il 1, zq_k 5] [zq_ilchk 1, zq_kchk 5] 2 rfl (by decide +kernel) ?_
  show zq_G _ _ _ _ _ 2 ([(0, .ref 0), (1, .int 3), (2, .int (nI Q))], [.int 5, .int 3], XH tx (nI Z) (nI P, nI C, nI R, nI L, hs, ss, cs, gs, vs) dr rd (nI D, sm, nI N, nI K, ce, de, ke, se) i0 i1 kp dd tr m)
  refine zq_callS (av := [.int 3, .int 5]) (rest := []) (by decide +kernel) k11_87 (x_isBeyondN (p := 3) (q := 5) (by omega) (by omega)) rfl rfl ?_
  show zq_G _ _ _ _ _ 5 ([(0, .ref 0), (1, .int 3), (2, .int (nI Q))], [.int (zb (5 < 3))], XH tx (nI Z) (nI P, nI C, nI R, nI L, hs, ss, cs, gs, vs) dr rd (nI D, sm, nI N, nI K, ce, de, ke, se) i0 i1 kp dd tr m)
  refine zq_ifz .ne 19 (5 < 3) (by decide +kernel) (zb_ne _) (fun c5 => absurd c5 (by omega)) (fun c5 => ?_)
  show zq_G _ _ _ _ _ 8 ([(0, .ref 0), (1, .int 3), (2, .int (nI Q))], [], XH tx (nI Z) (nI P, nI C, nI R, nI L, hs, ss, cs, gs, vs) dr rd (nI D, sm, nI N, nI K, ce, de, ke, se) i0 i1 kp dd tr m)
  refine zq_b [zq_al 0, zq_get 11 5, zq_il 2] [zq_alchk 0, zq_getchk 11 5, zq_ilchk 2] 13 rfl (by decide +kernel) ?_
  show zq_G _ _ _ _ _ 13 ([(0, .ref 0), (1, .int 3), (2, .int (nI Q))], [.int (nI Q), .ref 15], XH tx (nI Z) (nI P, nI C, nI R, nI L, hs, ss, cs, gs, vs) dr rd (nI D, sm, nI N, nI K, ce, de, ke, se) i0 i1 kp dd tr m)
  refine zq_callV (av := [.int (nI Q)]) (rest := []) (by decide +kernel) k11_168 (x_hasDeedN (i := Q) hN (by omega)) rfl rfl rfl rfl ?_
  show zq_G _ _ _ _ _ 16 ([(0, .ref 0), (1, .int 3), (2, .int (nI Q))], [.int (zb (Q < N))], XH tx (nI Z) (nI P, nI C, nI R, nI L, hs, ss, cs, gs, vs) dr rd (nI D, sm, nI N, nI K, ce, de, ke, se) i0 i1 kp dd tr m)
  refine zq_ifz .ne 22 (Q < N) (by decide +kernel) (zb_ne _) (fun c16 => ?_) (fun c16 => absurd (by omega) c16)
  show zq_G _ _ _ _ _ 22 ([(0, .ref 0), (1, .int 3), (2, .int (nI Q))], [], XH tx (nI Z) (nI P, nI C, nI R, nI L, hs, ss, cs, gs, vs) dr rd (nI D, sm, nI N, nI K, ce, de, ke, se) i0 i1 kp dd tr m)
  refine zq_b [zq_al 0, zq_get 11 9, zq_il 2, zq_puti 0 2, zq_al 0, zq_get 11 10, zq_il 1, zq_aald 3, zq_al 0, zq_get 11 9] [zq_alchk 0, zq_getchk 11 9, zq_ilchk 2, zq_putchk 0 2 .int, zq_alchk 0, zq_getchk 11 10, zq_ilchk 1, zq_is .aaload 1, zq_alchk 0, zq_getchk 11 9] 40 rfl (by decide +kernel) ?_
  refine ⟨rfl, (by decide), (by decide), ?_⟩
  show zq_G _ _ _ _ _ 40 ([(0, .ref 0), (1, .int 3), (2, .int (nI Q))], [.ref 33, .ref 38], XH tx (nI Z) (nI P, nI C, nI R, nI L, hs, ss, cs, gs, vs) dr rd (nI D, sm, nI N, nI K, ce, de, ke, se) i0 i1 kp (nI Q) tr m)
  refine zq_callD (av := [.ref 33]) (rest := []) (by decide +kernel) kd11_233 kd_Lawful (c_lawful_38 (Q := Q) (wq := wq) (by omega) hw0 hw6) rfl rfl rfl rfl ?_
  show zq_G _ _ _ _ _ 43 ([(0, .ref 0), (1, .int 3), (2, .int (nI Q))], [.int ((de (Q * 5 + 2) + hs wq) * 2)], XH tx (nI Z) (nI P, nI C, nI R, nI L, hs, ss, cs, gs, vs) dr rd (nI D, sm, nI N, nI K, ce, de, ke, se) i0 i1 kp (nI Q) (((tr + 1000) + 10) + 1) m)
  exact zq_iret (by decide +kernel) rfl rfl rfl
set_option maxHeartbeats 4000000 in
set_option maxRecDepth 100000 in
theorem x_mark_4 {Q : Nat} (hQ2 : Q < N) (hN : N ≤ 12) : zq_P l mX11_mark 5 [.ref 0, .int 4, .int (nI Q)] (XH tx (nI Z) (nI P, nI C, nI R, nI L, hs, ss, cs, gs, vs) dr rd (nI D, sm, nI N, nI K, ce, de, ke, se) i0 i1 kp dd tr m) (some (.int ((de (Q * 5 + 2) - de (Q * 5 + 3) / 5) + nI C))) (XH tx (nI Z) (nI P, nI C, nI R, nI L, hs, ss, cs, gs, vs) dr rd (nI D, sm, nI N, nI K, ce, de, ke, se) i0 i1 kp (nI Q) (((tr + 10000) + 100) + 1) m) := by
  refine zq_start (by decide +kernel) rfl (Nat.le_of_ble_eq_true rfl) ?_
  show zq_G _ _ _ _ _ 0 ([(0, .ref 0), (1, .int 4), (2, .int (nI Q))], [], XH tx (nI Z) (nI P, nI C, nI R, nI L, hs, ss, cs, gs, vs) dr rd (nI D, sm, nI N, nI K, ce, de, ke, se) i0 i1 kp dd tr m)
  refine zq_b [zq_il 1, zq_k 5] [zq_ilchk 1, zq_kchk 5] 2 rfl (by decide +kernel) ?_
  show zq_G _ _ _ _ _ 2 ([(0, .ref 0), (1, .int 4), (2, .int (nI Q))], [.int 5, .int 4], XH tx (nI Z) (nI P, nI C, nI R, nI L, hs, ss, cs, gs, vs) dr rd (nI D, sm, nI N, nI K, ce, de, ke, se) i0 i1 kp dd tr m)
  refine zq_callS (av := [.int 4, .int 5]) (rest := []) (by decide +kernel) k11_87 (x_isBeyondN (p := 4) (q := 5) (by omega) (by omega)) rfl rfl ?_
  show zq_G _ _ _ _ _ 5 ([(0, .ref 0), (1, .int 4), (2, .int (nI Q))], [.int (zb (5 < 4))], XH tx (nI Z) (nI P, nI C, nI R, nI L, hs, ss, cs, gs, vs) dr rd (nI D, sm, nI N, nI K, ce, de, ke, se) i0 i1 kp dd tr m)
  refine zq_ifz .ne 19 (5 < 4) (by decide +kernel) (zb_ne _) (fun c5 => absurd c5 (by omega)) (fun c5 => ?_)
  show zq_G _ _ _ _ _ 8 ([(0, .ref 0), (1, .int 4), (2, .int (nI Q))], [], XH tx (nI Z) (nI P, nI C, nI R, nI L, hs, ss, cs, gs, vs) dr rd (nI D, sm, nI N, nI K, ce, de, ke, se) i0 i1 kp dd tr m)
  refine zq_b [zq_al 0, zq_get 11 5, zq_il 2] [zq_alchk 0, zq_getchk 11 5, zq_ilchk 2] 13 rfl (by decide +kernel) ?_
  show zq_G _ _ _ _ _ 13 ([(0, .ref 0), (1, .int 4), (2, .int (nI Q))], [.int (nI Q), .ref 15], XH tx (nI Z) (nI P, nI C, nI R, nI L, hs, ss, cs, gs, vs) dr rd (nI D, sm, nI N, nI K, ce, de, ke, se) i0 i1 kp dd tr m)
  refine zq_callV (av := [.int (nI Q)]) (rest := []) (by decide +kernel) k11_168 (x_hasDeedN (i := Q) hN (by omega)) rfl rfl rfl rfl ?_
  show zq_G _ _ _ _ _ 16 ([(0, .ref 0), (1, .int 4), (2, .int (nI Q))], [.int (zb (Q < N))], XH tx (nI Z) (nI P, nI C, nI R, nI L, hs, ss, cs, gs, vs) dr rd (nI D, sm, nI N, nI K, ce, de, ke, se) i0 i1 kp dd tr m)
  refine zq_ifz .ne 22 (Q < N) (by decide +kernel) (zb_ne _) (fun c16 => ?_) (fun c16 => absurd (by omega) c16)
  show zq_G _ _ _ _ _ 22 ([(0, .ref 0), (1, .int 4), (2, .int (nI Q))], [], XH tx (nI Z) (nI P, nI C, nI R, nI L, hs, ss, cs, gs, vs) dr rd (nI D, sm, nI N, nI K, ce, de, ke, se) i0 i1 kp dd tr m)
  refine zq_b [zq_al 0, zq_get 11 9, zq_il 2, zq_puti 0 2, zq_al 0, zq_get 11 10, zq_il 1, zq_aald 4, zq_al 0, zq_get 11 9] [zq_alchk 0, zq_getchk 11 9, zq_ilchk 2, zq_putchk 0 2 .int, zq_alchk 0, zq_getchk 11 10, zq_ilchk 1, zq_is .aaload 1, zq_alchk 0, zq_getchk 11 9] 40 rfl (by decide +kernel) ?_
  refine ⟨rfl, (by decide), (by decide), ?_⟩
  show zq_G _ _ _ _ _ 40 ([(0, .ref 0), (1, .int 4), (2, .int (nI Q))], [.ref 33, .ref 39], XH tx (nI Z) (nI P, nI C, nI R, nI L, hs, ss, cs, gs, vs) dr rd (nI D, sm, nI N, nI K, ce, de, ke, se) i0 i1 kp (nI Q) tr m)
  refine zq_callD (av := [.ref 33]) (rest := []) (by decide +kernel) kd11_233 kd_Clouded (c_clouded_39 (Q := Q) (by omega)) rfl rfl rfl rfl ?_
  show zq_G _ _ _ _ _ 43 ([(0, .ref 0), (1, .int 4), (2, .int (nI Q))], [.int ((de (Q * 5 + 2) - de (Q * 5 + 3) / 5) + nI C)], XH tx (nI Z) (nI P, nI C, nI R, nI L, hs, ss, cs, gs, vs) dr rd (nI D, sm, nI N, nI K, ce, de, ke, se) i0 i1 kp (nI Q) (((tr + 10000) + 100) + 1) m)
  exact zq_iret (by decide +kernel) rfl rfl rfl
set_option maxHeartbeats 4000000 in
set_option maxRecDepth 100000 in
theorem x_mark_5 {Q : Nat} (hQ2 : Q < N) (hN : N ≤ 12) : zq_P l mX11_mark 5 [.ref 0, .int 5, .int (nI Q)] (XH tx (nI Z) (nI P, nI C, nI R, nI L, hs, ss, cs, gs, vs) dr rd (nI D, sm, nI N, nI K, ce, de, ke, se) i0 i1 kp dd tr m) (some (.int (de (Q * 5 + 2) + nI (zct (fun i => decide (de (i * 5 + 1) = de (Q * 5 + 1))) N)))) (XH tx (nI Z) (nI P, nI C, nI R, nI L, hs, ss, cs, gs, vs) dr rd (nI D, sm, nI N, nI K, ce, de, ke, se) i0 i1 kp (nI Q) ((tr + 100000) + 1) m) := by
  refine zq_start (by decide +kernel) rfl (Nat.le_of_ble_eq_true rfl) ?_
  show zq_G _ _ _ _ _ 0 ([(0, .ref 0), (1, .int 5), (2, .int (nI Q))], [], XH tx (nI Z) (nI P, nI C, nI R, nI L, hs, ss, cs, gs, vs) dr rd (nI D, sm, nI N, nI K, ce, de, ke, se) i0 i1 kp dd tr m)
  refine zq_b [zq_il 1, zq_k 5] [zq_ilchk 1, zq_kchk 5] 2 rfl (by decide +kernel) ?_
  show zq_G _ _ _ _ _ 2 ([(0, .ref 0), (1, .int 5), (2, .int (nI Q))], [.int 5, .int 5], XH tx (nI Z) (nI P, nI C, nI R, nI L, hs, ss, cs, gs, vs) dr rd (nI D, sm, nI N, nI K, ce, de, ke, se) i0 i1 kp dd tr m)
  refine zq_callS (av := [.int 5, .int 5]) (rest := []) (by decide +kernel) k11_87 (x_isBeyondN (p := 5) (q := 5) (by omega) (by omega)) rfl rfl ?_
  show zq_G _ _ _ _ _ 5 ([(0, .ref 0), (1, .int 5), (2, .int (nI Q))], [.int (zb (5 < 5))], XH tx (nI Z) (nI P, nI C, nI R, nI L, hs, ss, cs, gs, vs) dr rd (nI D, sm, nI N, nI K, ce, de, ke, se) i0 i1 kp dd tr m)
  refine zq_ifz .ne 19 (5 < 5) (by decide +kernel) (zb_ne _) (fun c5 => absurd c5 (by omega)) (fun c5 => ?_)
  show zq_G _ _ _ _ _ 8 ([(0, .ref 0), (1, .int 5), (2, .int (nI Q))], [], XH tx (nI Z) (nI P, nI C, nI R, nI L, hs, ss, cs, gs, vs) dr rd (nI D, sm, nI N, nI K, ce, de, ke, se) i0 i1 kp dd tr m)
  refine zq_b [zq_al 0, zq_get 11 5, zq_il 2] [zq_alchk 0, zq_getchk 11 5, zq_ilchk 2] 13 rfl (by decide +kernel) ?_
  show zq_G _ _ _ _ _ 13 ([(0, .ref 0), (1, .int 5), (2, .int (nI Q))], [.int (nI Q), .ref 15], XH tx (nI Z) (nI P, nI C, nI R, nI L, hs, ss, cs, gs, vs) dr rd (nI D, sm, nI N, nI K, ce, de, ke, se) i0 i1 kp dd tr m)
  refine zq_callV (av := [.int (nI Q)]) (rest := []) (by decide +kernel) k11_168 (x_hasDeedN (i := Q) hN (by omega)) rfl rfl rfl rfl ?_
  show zq_G _ _ _ _ _ 16 ([(0, .ref 0), (1, .int 5), (2, .int (nI Q))], [.int (zb (Q < N))], XH tx (nI Z) (nI P, nI C, nI R, nI L, hs, ss, cs, gs, vs) dr rd (nI D, sm, nI N, nI K, ce, de, ke, se) i0 i1 kp dd tr m)
  refine zq_ifz .ne 22 (Q < N) (by decide +kernel) (zb_ne _) (fun c16 => ?_) (fun c16 => absurd (by omega) c16)
  show zq_G _ _ _ _ _ 22 ([(0, .ref 0), (1, .int 5), (2, .int (nI Q))], [], XH tx (nI Z) (nI P, nI C, nI R, nI L, hs, ss, cs, gs, vs) dr rd (nI D, sm, nI N, nI K, ce, de, ke, se) i0 i1 kp dd tr m)
  refine zq_b [zq_al 0, zq_get 11 9, zq_il 2, zq_puti 0 2, zq_al 0, zq_get 11 10, zq_il 1, zq_aald 5, zq_al 0, zq_get 11 9] [zq_alchk 0, zq_getchk 11 9, zq_ilchk 2, zq_putchk 0 2 .int, zq_alchk 0, zq_getchk 11 10, zq_ilchk 1, zq_is .aaload 1, zq_alchk 0, zq_getchk 11 9] 40 rfl (by decide +kernel) ?_
  refine ⟨rfl, (by decide), (by decide), ?_⟩
  show zq_G _ _ _ _ _ 40 ([(0, .ref 0), (1, .int 5), (2, .int (nI Q))], [.ref 33, .ref 40], XH tx (nI Z) (nI P, nI C, nI R, nI L, hs, ss, cs, gs, vs) dr rd (nI D, sm, nI N, nI K, ce, de, ke, se) i0 i1 kp (nI Q) tr m)
  refine zq_callD (av := [.ref 33]) (rest := []) (by decide +kernel) kd11_233 kd_Twice (c_twice_40 (Q := Q) (by omega) hN) rfl rfl rfl rfl ?_
  show zq_G _ _ _ _ _ 43 ([(0, .ref 0), (1, .int 5), (2, .int (nI Q))], [.int (de (Q * 5 + 2) + nI (zct (fun i => decide (de (i * 5 + 1) = de (Q * 5 + 1))) N))], XH tx (nI Z) (nI P, nI C, nI R, nI L, hs, ss, cs, gs, vs) dr rd (nI D, sm, nI N, nI K, ce, de, ke, se) i0 i1 kp (nI Q) ((tr + 100000) + 1) m)
  exact zq_iret (by decide +kernel) rfl rfl rfl
set_option maxHeartbeats 4000000 in
set_option maxRecDepth 100000 in
theorem x_keep_bad {x : Int32} (hb : x.toInt < 0 ∨ 1 < x.toInt) : zq_P l mX11_keep 1 [.ref 0, .int x] (XH tx (nI Z) (nI P, nI C, nI R, nI L, hs, ss, cs, gs, vs) dr rd (nI D, sm, nI N, nI K, ce, de, ke, se) i0 i1 kp dd tr m) (some (.int (-1))) (XH tx (nI Z) (nI P, nI C, nI R, nI L, hs, ss, cs, gs, vs) dr rd (nI D, sm, nI N, nI K, ce, de, ke, se) i0 i1 kp dd tr m) := by
  refine zq_start (by decide +kernel) rfl (Nat.le_of_ble_eq_true rfl) ?_
  show zq_G _ _ _ _ _ 0 ([(0, .ref 0), (1, .int x)], [], XH tx (nI Z) (nI P, nI C, nI R, nI L, hs, ss, cs, gs, vs) dr rd (nI D, sm, nI N, nI K, ce, de, ke, se) i0 i1 kp dd tr m)
  refine zq_b [zq_il 1, zq_k 1] [zq_ilchk 1, zq_kchk 1] 2 rfl (by decide +kernel) ?_
  show zq_G _ _ _ _ _ 2 ([(0, .ref 0), (1, .int x)], [.int 1, .int x], XH tx (nI Z) (nI P, nI C, nI R, nI L, hs, ss, cs, gs, vs) dr rd (nI D, sm, nI N, nI K, ce, de, ke, se) i0 i1 kp dd tr m)
  refine zq_callS (av := [.int x, .int 1]) (rest := []) (by decide +kernel) k11_87 (x_isBeyond (x := x) (q := 1) (by omega)) rfl rfl ?_
  show zq_G _ _ _ _ _ 5 ([(0, .ref 0), (1, .int x)], [.int (zb (x.toInt < 0 ∨ (1 : Int) < x.toInt))], XH tx (nI Z) (nI P, nI C, nI R, nI L, hs, ss, cs, gs, vs) dr rd (nI D, sm, nI N, nI K, ce, de, ke, se) i0 i1 kp dd tr m)
  refine zq_ifz .eq 10 (¬ (x.toInt < 0 ∨ (1 : Int) < x.toInt)) (by decide +kernel) (zb_eq _) (fun c5 => ?_) (fun c5 => ?_)
  · show zq_G _ _ _ _ _ 10 ([(0, .ref 0), (1, .int x)], [], XH tx (nI Z) (nI P, nI C, nI R, nI L, hs, ss, cs, gs, vs) dr rd (nI D, sm, nI N, nI K, ce, de, ke, se) i0 i1 kp dd tr m)
    exact absurd hb (by omega)
  · show zq_G _ _ _ _ _ 8 ([(0, .ref 0), (1, .int x)], [], XH tx (nI Z) (nI P, nI C, nI R, nI L, hs, ss, cs, gs, vs) dr rd (nI D, sm, nI N, nI K, ce, de, ke, se) i0 i1 kp dd tr m)
    refine zq_b [zq_k (-1)] [zq_kchk (-1)] 9 rfl (by decide +kernel) ?_
    show zq_G _ _ _ _ _ 9 ([(0, .ref 0), (1, .int x)], [.int (-1)], XH tx (nI Z) (nI P, nI C, nI R, nI L, hs, ss, cs, gs, vs) dr rd (nI D, sm, nI N, nI K, ce, de, ke, se) i0 i1 kp dd tr m)
    exact zq_iret (by decide +kernel) rfl rfl rfl
set_option maxHeartbeats 4000000 in
set_option maxRecDepth 100000 in
theorem x_back_bad {x : Int32} (hb : x.toInt < 0 ∨ 1 < x.toInt) : zq_P l mX11_back 1 [.ref 0, .int x] (XH tx (nI Z) (nI P, nI C, nI R, nI L, hs, ss, cs, gs, vs) dr rd (nI D, sm, nI N, nI K, ce, de, ke, se) i0 i1 kp dd tr m) (some (.int (-1))) (XH tx (nI Z) (nI P, nI C, nI R, nI L, hs, ss, cs, gs, vs) dr rd (nI D, sm, nI N, nI K, ce, de, ke, se) i0 i1 kp dd tr m) := by
  refine zq_start (by decide +kernel) rfl (Nat.le_of_ble_eq_true rfl) ?_
  show zq_G _ _ _ _ _ 0 ([(0, .ref 0), (1, .int x)], [], XH tx (nI Z) (nI P, nI C, nI R, nI L, hs, ss, cs, gs, vs) dr rd (nI D, sm, nI N, nI K, ce, de, ke, se) i0 i1 kp dd tr m)
  refine zq_b [zq_il 1, zq_k 1] [zq_ilchk 1, zq_kchk 1] 2 rfl (by decide +kernel) ?_
  show zq_G _ _ _ _ _ 2 ([(0, .ref 0), (1, .int x)], [.int 1, .int x], XH tx (nI Z) (nI P, nI C, nI R, nI L, hs, ss, cs, gs, vs) dr rd (nI D, sm, nI N, nI K, ce, de, ke, se) i0 i1 kp dd tr m)
  refine zq_callS (av := [.int x, .int 1]) (rest := []) (by decide +kernel) k11_87 (x_isBeyond (x := x) (q := 1) (by omega)) rfl rfl ?_
  show zq_G _ _ _ _ _ 5 ([(0, .ref 0), (1, .int x)], [.int (zb (x.toInt < 0 ∨ (1 : Int) < x.toInt))], XH tx (nI Z) (nI P, nI C, nI R, nI L, hs, ss, cs, gs, vs) dr rd (nI D, sm, nI N, nI K, ce, de, ke, se) i0 i1 kp dd tr m)
  refine zq_ifz .eq 10 (¬ (x.toInt < 0 ∨ (1 : Int) < x.toInt)) (by decide +kernel) (zb_eq _) (fun c5 => ?_) (fun c5 => ?_)
  · show zq_G _ _ _ _ _ 10 ([(0, .ref 0), (1, .int x)], [], XH tx (nI Z) (nI P, nI C, nI R, nI L, hs, ss, cs, gs, vs) dr rd (nI D, sm, nI N, nI K, ce, de, ke, se) i0 i1 kp dd tr m)
    exact absurd hb (by omega)
  · show zq_G _ _ _ _ _ 8 ([(0, .ref 0), (1, .int x)], [], XH tx (nI Z) (nI P, nI C, nI R, nI L, hs, ss, cs, gs, vs) dr rd (nI D, sm, nI N, nI K, ce, de, ke, se) i0 i1 kp dd tr m)
    refine zq_b [zq_k (-1)] [zq_kchk (-1)] 9 rfl (by decide +kernel) ?_
    show zq_G _ _ _ _ _ 9 ([(0, .ref 0), (1, .int x)], [.int (-1)], XH tx (nI Z) (nI P, nI C, nI R, nI L, hs, ss, cs, gs, vs) dr rd (nI D, sm, nI N, nI K, ce, de, ke, se) i0 i1 kp dd tr m)
    exact zq_iret (by decide +kernel) rfl rfl rfl
set_option maxHeartbeats 4000000 in
set_option maxRecDepth 100000 in
theorem x_keep_0   : zq_P l mX11_keep 2 [.ref 0, .int 0] (XH tx (nI Z) (nI P, nI C, nI R, nI L, hs, ss, cs, gs, vs) dr rd (nI D, sm, nI N, nI K, ce, de, ke, se) i0 i1 kp dd tr m) (some (.int (nI D))) (XH tx (nI Z) (nI P, nI C, nI R, nI L, hs, ss, cs, gs, vs) dr rd (nI D, sm, nI N, nI K, ce, de, ke, se) (nI D, sm, nI N, nI K, va_cpy ce i0.2.2.2.2.1 0 0 6, va_cpy de i0.2.2.2.2.2.1 0 0 60, va_cpy ke i0.2.2.2.2.2.2.1 0 0 99, va_cpy se i0.2.2.2.2.2.2.2 0 0 30) i1 (upd kp 0 1) dd tr m) := by
  refine zq_start (by decide +kernel) rfl (Nat.le_of_ble_eq_true rfl) ?_
  show zq_G _ _ _ _ _ 0 ([(0, .ref 0), (1, .int 0)], [], XH tx (nI Z) (nI P, nI C, nI R, nI L, hs, ss, cs, gs, vs) dr rd (nI D, sm, nI N, nI K, ce, de, ke, se) i0 i1 kp dd tr m)
  refine zq_b [zq_il 1, zq_k 1] [zq_ilchk 1, zq_kchk 1] 2 rfl (by decide +kernel) ?_
  show zq_G _ _ _ _ _ 2 ([(0, .ref 0), (1, .int 0)], [.int 1, .int 0], XH tx (nI Z) (nI P, nI C, nI R, nI L, hs, ss, cs, gs, vs) dr rd (nI D, sm, nI N, nI K, ce, de, ke, se) i0 i1 kp dd tr m)
  refine zq_callS (av := [.int 0, .int 1]) (rest := []) (by decide +kernel) k11_87 (x_isBeyondN (p := 0) (q := 1) (by omega) (by omega)) rfl rfl ?_
  show zq_G _ _ _ _ _ 5 ([(0, .ref 0), (1, .int 0)], [.int (zb (1 < 0))], XH tx (nI Z) (nI P, nI C, nI R, nI L, hs, ss, cs, gs, vs) dr rd (nI D, sm, nI N, nI K, ce, de, ke, se) i0 i1 kp dd tr m)
  refine zq_ifz .eq 10 (¬ (1 < 0)) (by decide +kernel) (zb_eq _) (fun c5 => ?_) (fun c5 => absurd (by omega) c5)
  show zq_G _ _ _ _ _ 10 ([(0, .ref 0), (1, .int 0)], [], XH tx (nI Z) (nI P, nI C, nI R, nI L, hs, ss, cs, gs, vs) dr rd (nI D, sm, nI N, nI K, ce, de, ke, se) i0 i1 kp dd tr m)
  refine zq_b [zq_al 0, zq_get 11 6, zq_il 1, zq_aald 0, zq_al 0, zq_get 11 5] [zq_alchk 0, zq_getchk 11 6, zq_ilchk 1, zq_is .aaload 1, zq_alchk 0, zq_getchk 11 5] 20 rfl (by decide +kernel) ?_
  refine ⟨rfl, (by decide), (by decide), ?_⟩
  show zq_G _ _ _ _ _ 20 ([(0, .ref 0), (1, .int 0)], [.ref 15, .ref 21], XH tx (nI Z) (nI P, nI C, nI R, nI L, hs, ss, cs, gs, vs) dr rd (nI D, sm, nI N, nI K, ce, de, ke, se) i0 i1 kp dd tr m)
  refine zq_callV (av := [.ref 15]) (rest := []) (by decide +kernel) k11_237 (c_nbecome_21_15) rfl rfl rfl rfl ?_
  show zq_G _ _ _ _ _ 23 ([(0, .ref 0), (1, .int 0)], [], XH tx (nI Z) (nI P, nI C, nI R, nI L, hs, ss, cs, gs, vs) dr rd (nI D, sm, nI N, nI K, ce, de, ke, se) (nI D, sm, nI N, nI K, va_cpy ce i0.2.2.2.2.1 0 0 6, va_cpy de i0.2.2.2.2.2.1 0 0 60, va_cpy ke i0.2.2.2.2.2.2.1 0 0 99, va_cpy se i0.2.2.2.2.2.2.2 0 0 30) i1 kp dd tr m)
  refine zq_b [zq_al 0, zq_get 11 7, zq_il 1, zq_k 1, zq_zast 0, zq_al 0, zq_get 11 5, zq_get 5 1] [zq_alchk 0, zq_getchk 11 7, zq_ilchk 1, zq_kchk 1, zq_is .bastore 1, zq_alchk 0, zq_getchk 11 5, zq_getchk 5 1] 37 rfl (by decide +kernel) ?_
  refine ⟨rfl, (by omega), (by omega), (Or.inr rfl), ?_⟩
  show zq_G _ _ _ _ _ 37 ([(0, .ref 0), (1, .int 0)], [.int (nI D)], XH tx (nI Z) (nI P, nI C, nI R, nI L, hs, ss, cs, gs, vs) dr rd (nI D, sm, nI N, nI K, ce, de, ke, se) (nI D, sm, nI N, nI K, va_cpy ce i0.2.2.2.2.1 0 0 6, va_cpy de i0.2.2.2.2.2.1 0 0 60, va_cpy ke i0.2.2.2.2.2.2.1 0 0 99, va_cpy se i0.2.2.2.2.2.2.2 0 0 30) i1 (upd kp 0 1) dd tr m)
  exact zq_iret (by decide +kernel) rfl rfl rfl
set_option maxHeartbeats 4000000 in
set_option maxRecDepth 100000 in
theorem x_back_0_st  (hb : kp 0 = 0) : zq_P l mX11_back 1 [.ref 0, .int 0] (XH tx (nI Z) (nI P, nI C, nI R, nI L, hs, ss, cs, gs, vs) dr rd (nI D, sm, nI N, nI K, ce, de, ke, se) i0 i1 kp dd tr m) (some (.int (-2))) (XH tx (nI Z) (nI P, nI C, nI R, nI L, hs, ss, cs, gs, vs) dr rd (nI D, sm, nI N, nI K, ce, de, ke, se) i0 i1 kp dd tr m) := by
  refine zq_start (by decide +kernel) rfl (Nat.le_of_ble_eq_true rfl) ?_
  show zq_G _ _ _ _ _ 0 ([(0, .ref 0), (1, .int 0)], [], XH tx (nI Z) (nI P, nI C, nI R, nI L, hs, ss, cs, gs, vs) dr rd (nI D, sm, nI N, nI K, ce, de, ke, se) i0 i1 kp dd tr m)
  refine zq_b [zq_il 1, zq_k 1] [zq_ilchk 1, zq_kchk 1] 2 rfl (by decide +kernel) ?_
  show zq_G _ _ _ _ _ 2 ([(0, .ref 0), (1, .int 0)], [.int 1, .int 0], XH tx (nI Z) (nI P, nI C, nI R, nI L, hs, ss, cs, gs, vs) dr rd (nI D, sm, nI N, nI K, ce, de, ke, se) i0 i1 kp dd tr m)
  refine zq_callS (av := [.int 0, .int 1]) (rest := []) (by decide +kernel) k11_87 (x_isBeyondN (p := 0) (q := 1) (by omega) (by omega)) rfl rfl ?_
  show zq_G _ _ _ _ _ 5 ([(0, .ref 0), (1, .int 0)], [.int (zb (1 < 0))], XH tx (nI Z) (nI P, nI C, nI R, nI L, hs, ss, cs, gs, vs) dr rd (nI D, sm, nI N, nI K, ce, de, ke, se) i0 i1 kp dd tr m)
  refine zq_ifz .eq 10 (¬ (1 < 0)) (by decide +kernel) (zb_eq _) (fun c5 => ?_) (fun c5 => absurd (by omega) c5)
  show zq_G _ _ _ _ _ 10 ([(0, .ref 0), (1, .int 0)], [], XH tx (nI Z) (nI P, nI C, nI R, nI L, hs, ss, cs, gs, vs) dr rd (nI D, sm, nI N, nI K, ce, de, ke, se) i0 i1 kp dd tr m)
  refine zq_b [zq_al 0, zq_get 11 7, zq_il 1, zq_zald 0 (kp 0)] [zq_alchk 0, zq_getchk 11 7, zq_ilchk 1, zq_is .baload 1] 16 rfl (by decide +kernel) ?_
  refine ⟨rfl, (by omega), (by omega), rfl, ?_⟩
  show zq_G _ _ _ _ _ 16 ([(0, .ref 0), (1, .int 0)], [.int (kp 0)], XH tx (nI Z) (nI P, nI C, nI R, nI L, hs, ss, cs, gs, vs) dr rd (nI D, sm, nI N, nI K, ce, de, ke, se) i0 i1 kp dd tr m)
  refine zq_ifz .ne 22 (¬ (kp 0) = 0) (by decide +kernel) (Iff.rfl) (fun c16 => absurd c16 (fun q => q hb)) (fun c16 => ?_)
  show zq_G _ _ _ _ _ 19 ([(0, .ref 0), (1, .int 0)], [], XH tx (nI Z) (nI P, nI C, nI R, nI L, hs, ss, cs, gs, vs) dr rd (nI D, sm, nI N, nI K, ce, de, ke, se) i0 i1 kp dd tr m)
  refine zq_b [zq_k (-2)] [zq_kchk (-2)] 21 rfl (by decide +kernel) ?_
  show zq_G _ _ _ _ _ 21 ([(0, .ref 0), (1, .int 0)], [.int (-2)], XH tx (nI Z) (nI P, nI C, nI R, nI L, hs, ss, cs, gs, vs) dr rd (nI D, sm, nI N, nI K, ce, de, ke, se) i0 i1 kp dd tr m)
  exact zq_iret (by decide +kernel) rfl rfl rfl
set_option maxHeartbeats 4000000 in
set_option maxRecDepth 100000 in
theorem x_back_0  (hb : ¬ kp 0 = 0) : zq_P l mX11_back 2 [.ref 0, .int 0] (XH tx (nI Z) (nI P, nI C, nI R, nI L, hs, ss, cs, gs, vs) dr rd (nI D, sm, nI N, nI K, ce, de, ke, se) i0 i1 kp dd tr m) (some (.int i0.1)) (XH tx (nI Z) (nI P, nI C, nI R, nI L, hs, ss, cs, gs, vs) dr rd (i0.1, i0.2.1, i0.2.2.1, i0.2.2.2.1, va_cpy i0.2.2.2.2.1 ce 0 0 6, va_cpy i0.2.2.2.2.2.1 de 0 0 60, va_cpy i0.2.2.2.2.2.2.1 ke 0 0 99, va_cpy i0.2.2.2.2.2.2.2 se 0 0 30) i0 i1 kp dd tr m) := by
  refine zq_start (by decide +kernel) rfl (Nat.le_of_ble_eq_true rfl) ?_
  show zq_G _ _ _ _ _ 0 ([(0, .ref 0), (1, .int 0)], [], XH tx (nI Z) (nI P, nI C, nI R, nI L, hs, ss, cs, gs, vs) dr rd (nI D, sm, nI N, nI K, ce, de, ke, se) i0 i1 kp dd tr m)
  refine zq_b [zq_il 1, zq_k 1] [zq_ilchk 1, zq_kchk 1] 2 rfl (by decide +kernel) ?_
  show zq_G _ _ _ _ _ 2 ([(0, .ref 0), (1, .int 0)], [.int 1, .int 0], XH tx (nI Z) (nI P, nI C, nI R, nI L, hs, ss, cs, gs, vs) dr rd (nI D, sm, nI N, nI K, ce, de, ke, se) i0 i1 kp dd tr m)
  refine zq_callS (av := [.int 0, .int 1]) (rest := []) (by decide +kernel) k11_87 (x_isBeyondN (p := 0) (q := 1) (by omega) (by omega)) rfl rfl ?_
  show zq_G _ _ _ _ _ 5 ([(0, .ref 0), (1, .int 0)], [.int (zb (1 < 0))], XH tx (nI Z) (nI P, nI C, nI R, nI L, hs, ss, cs, gs, vs) dr rd (nI D, sm, nI N, nI K, ce, de, ke, se) i0 i1 kp dd tr m)
  refine zq_ifz .eq 10 (¬ (1 < 0)) (by decide +kernel) (zb_eq _) (fun c5 => ?_) (fun c5 => absurd (by omega) c5)
  show zq_G _ _ _ _ _ 10 ([(0, .ref 0), (1, .int 0)], [], XH tx (nI Z) (nI P, nI C, nI R, nI L, hs, ss, cs, gs, vs) dr rd (nI D, sm, nI N, nI K, ce, de, ke, se) i0 i1 kp dd tr m)
  refine zq_b [zq_al 0, zq_get 11 7, zq_il 1, zq_zald 0 (kp 0)] [zq_alchk 0, zq_getchk 11 7, zq_ilchk 1, zq_is .baload 1] 16 rfl (by decide +kernel) ?_
  refine ⟨rfl, (by omega), (by omega), rfl, ?_⟩
  show zq_G _ _ _ _ _ 16 ([(0, .ref 0), (1, .int 0)], [.int (kp 0)], XH tx (nI Z) (nI P, nI C, nI R, nI L, hs, ss, cs, gs, vs) dr rd (nI D, sm, nI N, nI K, ce, de, ke, se) i0 i1 kp dd tr m)
  refine zq_ifz .ne 22 (¬ (kp 0) = 0) (by decide +kernel) (Iff.rfl) (fun c16 => ?_) (fun c16 => absurd hb c16)
  show zq_G _ _ _ _ _ 22 ([(0, .ref 0), (1, .int 0)], [], XH tx (nI Z) (nI P, nI C, nI R, nI L, hs, ss, cs, gs, vs) dr rd (nI D, sm, nI N, nI K, ce, de, ke, se) i0 i1 kp dd tr m)
  refine zq_b [zq_al 0, zq_get 11 5, zq_al 0, zq_get 11 6, zq_il 1, zq_aald 0] [zq_alchk 0, zq_getchk 11 5, zq_alchk 0, zq_getchk 11 6, zq_ilchk 1, zq_is .aaload 1] 32 rfl (by decide +kernel) ?_
  refine ⟨rfl, (by decide), (by decide), ?_⟩
  show zq_G _ _ _ _ _ 32 ([(0, .ref 0), (1, .int 0)], [.ref 21, .ref 15], XH tx (nI Z) (nI P, nI C, nI R, nI L, hs, ss, cs, gs, vs) dr rd (nI D, sm, nI N, nI K, ce, de, ke, se) i0 i1 kp dd tr m)
  refine zq_callV (av := [.ref 21]) (rest := []) (by decide +kernel) k11_237 (c_nbecome_15_21) rfl rfl rfl rfl ?_
  show zq_G _ _ _ _ _ 35 ([(0, .ref 0), (1, .int 0)], [], XH tx (nI Z) (nI P, nI C, nI R, nI L, hs, ss, cs, gs, vs) dr rd (i0.1, i0.2.1, i0.2.2.1, i0.2.2.2.1, va_cpy i0.2.2.2.2.1 ce 0 0 6, va_cpy i0.2.2.2.2.2.1 de 0 0 60, va_cpy i0.2.2.2.2.2.2.1 ke 0 0 99, va_cpy i0.2.2.2.2.2.2.2 se 0 0 30) i0 i1 kp dd tr m)
  refine zq_b [zq_al 0, zq_get 11 5, zq_get 5 1] [zq_alchk 0, zq_getchk 11 5, zq_getchk 5 1] 42 rfl (by decide +kernel) ?_
  show zq_G _ _ _ _ _ 42 ([(0, .ref 0), (1, .int 0)], [.int i0.1], XH tx (nI Z) (nI P, nI C, nI R, nI L, hs, ss, cs, gs, vs) dr rd (i0.1, i0.2.1, i0.2.2.1, i0.2.2.2.1, va_cpy i0.2.2.2.2.1 ce 0 0 6, va_cpy i0.2.2.2.2.2.1 de 0 0 60, va_cpy i0.2.2.2.2.2.2.1 ke 0 0 99, va_cpy i0.2.2.2.2.2.2.2 se 0 0 30) i0 i1 kp dd tr m)
  exact zq_iret (by decide +kernel) rfl rfl rfl
set_option maxHeartbeats 4000000 in
set_option maxRecDepth 100000 in
theorem x_keep_1   : zq_P l mX11_keep 2 [.ref 0, .int 1] (XH tx (nI Z) (nI P, nI C, nI R, nI L, hs, ss, cs, gs, vs) dr rd (nI D, sm, nI N, nI K, ce, de, ke, se) i0 i1 kp dd tr m) (some (.int (nI D))) (XH tx (nI Z) (nI P, nI C, nI R, nI L, hs, ss, cs, gs, vs) dr rd (nI D, sm, nI N, nI K, ce, de, ke, se) i0 (nI D, sm, nI N, nI K, va_cpy ce i1.2.2.2.2.1 0 0 6, va_cpy de i1.2.2.2.2.2.1 0 0 60, va_cpy ke i1.2.2.2.2.2.2.1 0 0 99, va_cpy se i1.2.2.2.2.2.2.2 0 0 30) (upd kp 1 1) dd tr m) := by
  refine zq_start (by decide +kernel) rfl (Nat.le_of_ble_eq_true rfl) ?_
  show zq_G _ _ _ _ _ 0 ([(0, .ref 0), (1, .int 1)], [], XH tx (nI Z) (nI P, nI C, nI R, nI L, hs, ss, cs, gs, vs) dr rd (nI D, sm, nI N, nI K, ce, de, ke, se) i0 i1 kp dd tr m)
  refine zq_b [zq_il 1, zq_k 1] [zq_ilchk 1, zq_kchk 1] 2 rfl (by decide +kernel) ?_
  show zq_G _ _ _ _ _ 2 ([(0, .ref 0), (1, .int 1)], [.int 1, .int 1], XH tx (nI Z) (nI P, nI C, nI R, nI L, hs, ss, cs, gs, vs) dr rd (nI D, sm, nI N, nI K, ce, de, ke, se) i0 i1 kp dd tr m)
  refine zq_callS (av := [.int 1, .int 1]) (rest := []) (by decide +kernel) k11_87 (x_isBeyondN (p := 1) (q := 1) (by omega) (by omega)) rfl rfl ?_
  show zq_G _ _ _ _ _ 5 ([(0, .ref 0), (1, .int 1)], [.int (zb (1 < 1))], XH tx (nI Z) (nI P, nI C, nI R, nI L, hs, ss, cs, gs, vs) dr rd (nI D, sm, nI N, nI K, ce, de, ke, se) i0 i1 kp dd tr m)
  refine zq_ifz .eq 10 (¬ (1 < 1)) (by decide +kernel) (zb_eq _) (fun c5 => ?_) (fun c5 => absurd (by omega) c5)
  show zq_G _ _ _ _ _ 10 ([(0, .ref 0), (1, .int 1)], [], XH tx (nI Z) (nI P, nI C, nI R, nI L, hs, ss, cs, gs, vs) dr rd (nI D, sm, nI N, nI K, ce, de, ke, se) i0 i1 kp dd tr m)
  refine zq_b [zq_al 0, zq_get 11 6, zq_il 1, zq_aald 1, zq_al 0, zq_get 11 5] [zq_alchk 0, zq_getchk 11 6, zq_ilchk 1, zq_is .aaload 1, zq_alchk 0, zq_getchk 11 5] 20 rfl (by decide +kernel) ?_
  refine ⟨rfl, (by decide), (by decide), ?_⟩
  show zq_G _ _ _ _ _ 20 ([(0, .ref 0), (1, .int 1)], [.ref 15, .ref 26], XH tx (nI Z) (nI P, nI C, nI R, nI L, hs, ss, cs, gs, vs) dr rd (nI D, sm, nI N, nI K, ce, de, ke, se) i0 i1 kp dd tr m)
  refine zq_callV (av := [.ref 15]) (rest := []) (by decide +kernel) k11_237 (c_nbecome_26_15) rfl rfl rfl rfl ?_
  show zq_G _ _ _ _ _ 23 ([(0, .ref 0), (1, .int 1)], [], XH tx (nI Z) (nI P, nI C, nI R, nI L, hs, ss, cs, gs, vs) dr rd (nI D, sm, nI N, nI K, ce, de, ke, se) i0 (nI D, sm, nI N, nI K, va_cpy ce i1.2.2.2.2.1 0 0 6, va_cpy de i1.2.2.2.2.2.1 0 0 60, va_cpy ke i1.2.2.2.2.2.2.1 0 0 99, va_cpy se i1.2.2.2.2.2.2.2 0 0 30) kp dd tr m)
  refine zq_b [zq_al 0, zq_get 11 7, zq_il 1, zq_k 1, zq_zast 1, zq_al 0, zq_get 11 5, zq_get 5 1] [zq_alchk 0, zq_getchk 11 7, zq_ilchk 1, zq_kchk 1, zq_is .bastore 1, zq_alchk 0, zq_getchk 11 5, zq_getchk 5 1] 37 rfl (by decide +kernel) ?_
  refine ⟨rfl, (by omega), (by omega), (Or.inr rfl), ?_⟩
  show zq_G _ _ _ _ _ 37 ([(0, .ref 0), (1, .int 1)], [.int (nI D)], XH tx (nI Z) (nI P, nI C, nI R, nI L, hs, ss, cs, gs, vs) dr rd (nI D, sm, nI N, nI K, ce, de, ke, se) i0 (nI D, sm, nI N, nI K, va_cpy ce i1.2.2.2.2.1 0 0 6, va_cpy de i1.2.2.2.2.2.1 0 0 60, va_cpy ke i1.2.2.2.2.2.2.1 0 0 99, va_cpy se i1.2.2.2.2.2.2.2 0 0 30) (upd kp 1 1) dd tr m)
  exact zq_iret (by decide +kernel) rfl rfl rfl
set_option maxHeartbeats 4000000 in
set_option maxRecDepth 100000 in
theorem x_back_1_st  (hb : kp 1 = 0) : zq_P l mX11_back 1 [.ref 0, .int 1] (XH tx (nI Z) (nI P, nI C, nI R, nI L, hs, ss, cs, gs, vs) dr rd (nI D, sm, nI N, nI K, ce, de, ke, se) i0 i1 kp dd tr m) (some (.int (-2))) (XH tx (nI Z) (nI P, nI C, nI R, nI L, hs, ss, cs, gs, vs) dr rd (nI D, sm, nI N, nI K, ce, de, ke, se) i0 i1 kp dd tr m) := by
  refine zq_start (by decide +kernel) rfl (Nat.le_of_ble_eq_true rfl) ?_
  show zq_G _ _ _ _ _ 0 ([(0, .ref 0), (1, .int 1)], [], XH tx (nI Z) (nI P, nI C, nI R, nI L, hs, ss, cs, gs, vs) dr rd (nI D, sm, nI N, nI K, ce, de, ke, se) i0 i1 kp dd tr m)
  refine zq_b [zq_il 1, zq_k 1] [zq_ilchk 1, zq_kchk 1] 2 rfl (by decide +kernel) ?_
  show zq_G _ _ _ _ _ 2 ([(0, .ref 0), (1, .int 1)], [.int 1, .int 1], XH tx (nI Z) (nI P, nI C, nI R, nI L, hs, ss, cs, gs, vs) dr rd (nI D, sm, nI N, nI K, ce, de, ke, se) i0 i1 kp dd tr m)
  refine zq_callS (av := [.int 1, .int 1]) (rest := []) (by decide +kernel) k11_87 (x_isBeyondN (p := 1) (q := 1) (by omega) (by omega)) rfl rfl ?_
  show zq_G _ _ _ _ _ 5 ([(0, .ref 0), (1, .int 1)], [.int (zb (1 < 1))], XH tx (nI Z) (nI P, nI C, nI R, nI L, hs, ss, cs, gs, vs) dr rd (nI D, sm, nI N, nI K, ce, de, ke, se) i0 i1 kp dd tr m)
  refine zq_ifz .eq 10 (¬ (1 < 1)) (by decide +kernel) (zb_eq _) (fun c5 => ?_) (fun c5 => absurd (by omega) c5)
  show zq_G _ _ _ _ _ 10 ([(0, .ref 0), (1, .int 1)], [], XH tx (nI Z) (nI P, nI C, nI R, nI L, hs, ss, cs, gs, vs) dr rd (nI D, sm, nI N, nI K, ce, de, ke, se) i0 i1 kp dd tr m)
  refine zq_b [zq_al 0, zq_get 11 7, zq_il 1, zq_zald 1 (kp 1)] [zq_alchk 0, zq_getchk 11 7, zq_ilchk 1, zq_is .baload 1] 16 rfl (by decide +kernel) ?_
  refine ⟨rfl, (by omega), (by omega), rfl, ?_⟩
  show zq_G _ _ _ _ _ 16 ([(0, .ref 0), (1, .int 1)], [.int (kp 1)], XH tx (nI Z) (nI P, nI C, nI R, nI L, hs, ss, cs, gs, vs) dr rd (nI D, sm, nI N, nI K, ce, de, ke, se) i0 i1 kp dd tr m)
  refine zq_ifz .ne 22 (¬ (kp 1) = 0) (by decide +kernel) (Iff.rfl) (fun c16 => absurd c16 (fun q => q hb)) (fun c16 => ?_)
  show zq_G _ _ _ _ _ 19 ([(0, .ref 0), (1, .int 1)], [], XH tx (nI Z) (nI P, nI C, nI R, nI L, hs, ss, cs, gs, vs) dr rd (nI D, sm, nI N, nI K, ce, de, ke, se) i0 i1 kp dd tr m)
  refine zq_b [zq_k (-2)] [zq_kchk (-2)] 21 rfl (by decide +kernel) ?_
  show zq_G _ _ _ _ _ 21 ([(0, .ref 0), (1, .int 1)], [.int (-2)], XH tx (nI Z) (nI P, nI C, nI R, nI L, hs, ss, cs, gs, vs) dr rd (nI D, sm, nI N, nI K, ce, de, ke, se) i0 i1 kp dd tr m)
  exact zq_iret (by decide +kernel) rfl rfl rfl
set_option maxHeartbeats 4000000 in
set_option maxRecDepth 100000 in
theorem x_back_1  (hb : ¬ kp 1 = 0) : zq_P l mX11_back 2 [.ref 0, .int 1] (XH tx (nI Z) (nI P, nI C, nI R, nI L, hs, ss, cs, gs, vs) dr rd (nI D, sm, nI N, nI K, ce, de, ke, se) i0 i1 kp dd tr m) (some (.int i1.1)) (XH tx (nI Z) (nI P, nI C, nI R, nI L, hs, ss, cs, gs, vs) dr rd (i1.1, i1.2.1, i1.2.2.1, i1.2.2.2.1, va_cpy i1.2.2.2.2.1 ce 0 0 6, va_cpy i1.2.2.2.2.2.1 de 0 0 60, va_cpy i1.2.2.2.2.2.2.1 ke 0 0 99, va_cpy i1.2.2.2.2.2.2.2 se 0 0 30) i0 i1 kp dd tr m) := by
  refine zq_start (by decide +kernel) rfl (Nat.le_of_ble_eq_true rfl) ?_
  show zq_G _ _ _ _ _ 0 ([(0, .ref 0), (1, .int 1)], [], XH tx (nI Z) (nI P, nI C, nI R, nI L, hs, ss, cs, gs, vs) dr rd (nI D, sm, nI N, nI K, ce, de, ke, se) i0 i1 kp dd tr m)
  refine zq_b [zq_il 1, zq_k 1] [zq_ilchk 1, zq_kchk 1] 2 rfl (by decide +kernel) ?_
  show zq_G _ _ _ _ _ 2 ([(0, .ref 0), (1, .int 1)], [.int 1, .int 1], XH tx (nI Z) (nI P, nI C, nI R, nI L, hs, ss, cs, gs, vs) dr rd (nI D, sm, nI N, nI K, ce, de, ke, se) i0 i1 kp dd tr m)
  refine zq_callS (av := [.int 1, .int 1]) (rest := []) (by decide +kernel) k11_87 (x_isBeyondN (p := 1) (q := 1) (by omega) (by omega)) rfl rfl ?_
  show zq_G _ _ _ _ _ 5 ([(0, .ref 0), (1, .int 1)], [.int (zb (1 < 1))], XH tx (nI Z) (nI P, nI C, nI R, nI L, hs, ss, cs, gs, vs) dr rd (nI D, sm, nI N, nI K, ce, de, ke, se) i0 i1 kp dd tr m)
  refine zq_ifz .eq 10 (¬ (1 < 1)) (by decide +kernel) (zb_eq _) (fun c5 => ?_) (fun c5 => absurd (by omega) c5)
  show zq_G _ _ _ _ _ 10 ([(0, .ref 0), (1, .int 1)], [], XH tx (nI Z) (nI P, nI C, nI R, nI L, hs, ss, cs, gs, vs) dr rd (nI D, sm, nI N, nI K, ce, de, ke, se) i0 i1 kp dd tr m)
  refine zq_b [zq_al 0, zq_get 11 7, zq_il 1, zq_zald 1 (kp 1)] [zq_alchk 0, zq_getchk 11 7, zq_ilchk 1, zq_is .baload 1] 16 rfl (by decide +kernel) ?_
  refine ⟨rfl, (by omega), (by omega), rfl, ?_⟩
  show zq_G _ _ _ _ _ 16 ([(0, .ref 0), (1, .int 1)], [.int (kp 1)], XH tx (nI Z) (nI P, nI C, nI R, nI L, hs, ss, cs, gs, vs) dr rd (nI D, sm, nI N, nI K, ce, de, ke, se) i0 i1 kp dd tr m)
  refine zq_ifz .ne 22 (¬ (kp 1) = 0) (by decide +kernel) (Iff.rfl) (fun c16 => ?_) (fun c16 => absurd hb c16)
  show zq_G _ _ _ _ _ 22 ([(0, .ref 0), (1, .int 1)], [], XH tx (nI Z) (nI P, nI C, nI R, nI L, hs, ss, cs, gs, vs) dr rd (nI D, sm, nI N, nI K, ce, de, ke, se) i0 i1 kp dd tr m)
  refine zq_b [zq_al 0, zq_get 11 5, zq_al 0, zq_get 11 6, zq_il 1, zq_aald 1] [zq_alchk 0, zq_getchk 11 5, zq_alchk 0, zq_getchk 11 6, zq_ilchk 1, zq_is .aaload 1] 32 rfl (by decide +kernel) ?_
  refine ⟨rfl, (by decide), (by decide), ?_⟩
  show zq_G _ _ _ _ _ 32 ([(0, .ref 0), (1, .int 1)], [.ref 26, .ref 15], XH tx (nI Z) (nI P, nI C, nI R, nI L, hs, ss, cs, gs, vs) dr rd (nI D, sm, nI N, nI K, ce, de, ke, se) i0 i1 kp dd tr m)
  refine zq_callV (av := [.ref 26]) (rest := []) (by decide +kernel) k11_237 (c_nbecome_15_26) rfl rfl rfl rfl ?_
  show zq_G _ _ _ _ _ 35 ([(0, .ref 0), (1, .int 1)], [], XH tx (nI Z) (nI P, nI C, nI R, nI L, hs, ss, cs, gs, vs) dr rd (i1.1, i1.2.1, i1.2.2.1, i1.2.2.2.1, va_cpy i1.2.2.2.2.1 ce 0 0 6, va_cpy i1.2.2.2.2.2.1 de 0 0 60, va_cpy i1.2.2.2.2.2.2.1 ke 0 0 99, va_cpy i1.2.2.2.2.2.2.2 se 0 0 30) i0 i1 kp dd tr m)
  refine zq_b [zq_al 0, zq_get 11 5, zq_get 5 1] [zq_alchk 0, zq_getchk 11 5, zq_getchk 5 1] 42 rfl (by decide +kernel) ?_
  show zq_G _ _ _ _ _ 42 ([(0, .ref 0), (1, .int 1)], [.int i1.1], XH tx (nI Z) (nI P, nI C, nI R, nI L, hs, ss, cs, gs, vs) dr rd (i1.1, i1.2.1, i1.2.2.1, i1.2.2.2.1, va_cpy i1.2.2.2.2.1 ce 0 0 6, va_cpy i1.2.2.2.2.2.1 de 0 0 60, va_cpy i1.2.2.2.2.2.2.1 ke 0 0 99, va_cpy i1.2.2.2.2.2.2.2 se 0 0 30) i0 i1 kp dd tr m)
  exact zq_iret (by decide +kernel) rfl rfl rfl
set_option maxHeartbeats 4000000 in
set_option maxRecDepth 100000 in
theorem x_count_bad {x : Int32} (hb : x.toInt < 0 ∨ 5 < x.toInt) : zq_P l mX11_count 0 [.ref 0, .int x] (XH tx (nI Z) (nI P, nI C, nI R, nI L, hs, ss, cs, gs, vs) dr rd (nI D, sm, nI N, nI K, ce, de, ke, se) i0 i1 kp dd tr m) (some (.int (-1))) (XH tx (nI Z) (nI P, nI C, nI R, nI L, hs, ss, cs, gs, vs) dr rd (nI D, sm, nI N, nI K, ce, de, ke, se) i0 i1 kp dd tr m) := by
  refine zq_start (by decide +kernel) rfl (Nat.le_of_ble_eq_true rfl) ?_
  show zq_G _ _ _ _ _ 0 ([(0, .ref 0), (1, .int x)], [], XH tx (nI Z) (nI P, nI C, nI R, nI L, hs, ss, cs, gs, vs) dr rd (nI D, sm, nI N, nI K, ce, de, ke, se) i0 i1 kp dd tr m)
  refine zq_b [zq_il 1] [zq_ilchk 1] 1 rfl (by decide +kernel) ?_
  show zq_G _ _ _ _ _ 1 ([(0, .ref 0), (1, .int x)], [.int x], XH tx (nI Z) (nI P, nI C, nI R, nI L, hs, ss, cs, gs, vs) dr rd (nI D, sm, nI N, nI K, ce, de, ke, se) i0 i1 kp dd tr m)
  refine zq_swc [(0, 40), (1, 48), (2, 56), (3, 64), (4, 72), (5, 80)] 85 (by decide +kernel) ⟨fun c => absurd c (by omega), fun c => absurd c (by omega), fun c => absurd c (by omega), fun c => absurd c (by omega), fun c => absurd c (by omega), fun c => absurd c (by omega), trivial⟩ (fun _ => ?_)
  show zq_G _ _ _ _ _ 85 ([(0, .ref 0), (1, .int x)], [], XH tx (nI Z) (nI P, nI C, nI R, nI L, hs, ss, cs, gs, vs) dr rd (nI D, sm, nI N, nI K, ce, de, ke, se) i0 i1 kp dd tr m)
  refine zq_b [zq_k (-1)] [zq_kchk (-1)] 86 rfl (by decide +kernel) ?_
  show zq_G _ _ _ _ _ 86 ([(0, .ref 0), (1, .int x)], [.int (-1)], XH tx (nI Z) (nI P, nI C, nI R, nI L, hs, ss, cs, gs, vs) dr rd (nI D, sm, nI N, nI K, ce, de, ke, se) i0 i1 kp dd tr m)
  exact zq_iret (by decide +kernel) rfl rfl rfl
set_option maxHeartbeats 4000000 in
set_option maxRecDepth 100000 in
theorem x_count_0   : zq_P l mX11_count 0 [.ref 0, .int 0] (XH tx (nI Z) (nI P, nI C, nI R, nI L, hs, ss, cs, gs, vs) dr rd (nI D, sm, nI N, nI K, ce, de, ke, se) i0 i1 kp dd tr m) (some (.int (nI P))) (XH tx (nI Z) (nI P, nI C, nI R, nI L, hs, ss, cs, gs, vs) dr rd (nI D, sm, nI N, nI K, ce, de, ke, se) i0 i1 kp dd tr m) := by
  refine zq_start (by decide +kernel) rfl (Nat.le_of_ble_eq_true rfl) ?_
  show zq_G _ _ _ _ _ 0 ([(0, .ref 0), (1, .int 0)], [], XH tx (nI Z) (nI P, nI C, nI R, nI L, hs, ss, cs, gs, vs) dr rd (nI D, sm, nI N, nI K, ce, de, ke, se) i0 i1 kp dd tr m)
  refine zq_b [zq_il 1] [zq_ilchk 1] 1 rfl (by decide +kernel) ?_
  show zq_G _ _ _ _ _ 1 ([(0, .ref 0), (1, .int 0)], [.int 0], XH tx (nI Z) (nI P, nI C, nI R, nI L, hs, ss, cs, gs, vs) dr rd (nI D, sm, nI N, nI K, ce, de, ke, se) i0 i1 kp dd tr m)
  refine zq_swc [(0, 40), (1, 48), (2, 56), (3, 64), (4, 72), (5, 80)] 85 (by decide +kernel) ⟨fun _ => ?_, fun c => absurd c (by decide), fun c => absurd c (by decide), fun c => absurd c (by decide), fun c => absurd c (by decide), fun c => absurd c (by decide), trivial⟩ (fun c => absurd (by decide) c.1)
  show zq_G _ _ _ _ _ 40 ([(0, .ref 0), (1, .int 0)], [], XH tx (nI Z) (nI P, nI C, nI R, nI L, hs, ss, cs, gs, vs) dr rd (nI D, sm, nI N, nI K, ce, de, ke, se) i0 i1 kp dd tr m)
  refine zq_b [zq_al 0, zq_get 11 2, zq_get 9 0] [zq_alchk 0, zq_getchk 11 2, zq_getchk 9 0] 47 rfl (by decide +kernel) ?_
  show zq_G _ _ _ _ _ 47 ([(0, .ref 0), (1, .int 0)], [.int (nI P)], XH tx (nI Z) (nI P, nI C, nI R, nI L, hs, ss, cs, gs, vs) dr rd (nI D, sm, nI N, nI K, ce, de, ke, se) i0 i1 kp dd tr m)
  exact zq_iret (by decide +kernel) rfl rfl rfl
set_option maxHeartbeats 4000000 in
set_option maxRecDepth 100000 in
theorem x_count_1   : zq_P l mX11_count 0 [.ref 0, .int 1] (XH tx (nI Z) (nI P, nI C, nI R, nI L, hs, ss, cs, gs, vs) dr rd (nI D, sm, nI N, nI K, ce, de, ke, se) i0 i1 kp dd tr m) (some (.int (nI C))) (XH tx (nI Z) (nI P, nI C, nI R, nI L, hs, ss, cs, gs, vs) dr rd (nI D, sm, nI N, nI K, ce, de, ke, se) i0 i1 kp dd tr m) := by
  refine zq_start (by decide +kernel) rfl (Nat.le_of_ble_eq_true rfl) ?_
  show zq_G _ _ _ _ _ 0 ([(0, .ref 0), (1, .int 1)], [], XH tx (nI Z) (nI P, nI C, nI R, nI L, hs, ss, cs, gs, vs) dr rd (nI D, sm, nI N, nI K, ce, de, ke, se) i0 i1 kp dd tr m)
  refine zq_b [zq_il 1] [zq_ilchk 1] 1 rfl (by decide +kernel) ?_
  show zq_G _ _ _ _ _ 1 ([(0, .ref 0), (1, .int 1)], [.int 1], XH tx (nI Z) (nI P, nI C, nI R, nI L, hs, ss, cs, gs, vs) dr rd (nI D, sm, nI N, nI K, ce, de, ke, se) i0 i1 kp dd tr m)
  refine zq_swc [(0, 40), (1, 48), (2, 56), (3, 64), (4, 72), (5, 80)] 85 (by decide +kernel) ⟨fun c => absurd c (by decide), fun _ => ?_, fun c => absurd c (by decide), fun c => absurd c (by decide), fun c => absurd c (by decide), fun c => absurd c (by decide), trivial⟩ (fun c => absurd (by decide) c.2.1)
  show zq_G _ _ _ _ _ 48 ([(0, .ref 0), (1, .int 1)], [], XH tx (nI Z) (nI P, nI C, nI R, nI L, hs, ss, cs, gs, vs) dr rd (nI D, sm, nI N, nI K, ce, de, ke, se) i0 i1 kp dd tr m)
  refine zq_b [zq_al 0, zq_get 11 2, zq_get 9 1] [zq_alchk 0, zq_getchk 11 2, zq_getchk 9 1] 55 rfl (by decide +kernel) ?_
  show zq_G _ _ _ _ _ 55 ([(0, .ref 0), (1, .int 1)], [.int (nI C)], XH tx (nI Z) (nI P, nI C, nI R, nI L, hs, ss, cs, gs, vs) dr rd (nI D, sm, nI N, nI K, ce, de, ke, se) i0 i1 kp dd tr m)
  exact zq_iret (by decide +kernel) rfl rfl rfl
set_option maxHeartbeats 4000000 in
set_option maxRecDepth 100000 in
theorem x_count_2   : zq_P l mX11_count 0 [.ref 0, .int 2] (XH tx (nI Z) (nI P, nI C, nI R, nI L, hs, ss, cs, gs, vs) dr rd (nI D, sm, nI N, nI K, ce, de, ke, se) i0 i1 kp dd tr m) (some (.int (nI R))) (XH tx (nI Z) (nI P, nI C, nI R, nI L, hs, ss, cs, gs, vs) dr rd (nI D, sm, nI N, nI K, ce, de, ke, se) i0 i1 kp dd tr m) := by
  refine zq_start (by decide +kernel) rfl (Nat.le_of_ble_eq_true rfl) ?_
  show zq_G _ _ _ _ _ 0 ([(0, .ref 0), (1, .int 2)], [], XH tx (nI Z) (nI P, nI C, nI R, nI L, hs, ss, cs, gs, vs) dr rd (nI D, sm, nI N, nI K, ce, de, ke, se) i0 i1 kp dd tr m)
  refine zq_b [zq_il 1] [zq_ilchk 1] 1 rfl (by decide +kernel) ?_
  show zq_G _ _ _ _ _ 1 ([(0, .ref 0), (1, .int 2)], [.int 2], XH tx (nI Z) (nI P, nI C, nI R, nI L, hs, ss, cs, gs, vs) dr rd (nI D, sm, nI N, nI K, ce, de, ke, se) i0 i1 kp dd tr m)
  refine zq_swc [(0, 40), (1, 48), (2, 56), (3, 64), (4, 72), (5, 80)] 85 (by decide +kernel) ⟨fun c => absurd c (by decide), fun c => absurd c (by decide), fun _ => ?_, fun c => absurd c (by decide), fun c => absurd c (by decide), fun c => absurd c (by decide), trivial⟩ (fun c => absurd (by decide) c.2.2.1)
  show zq_G _ _ _ _ _ 56 ([(0, .ref 0), (1, .int 2)], [], XH tx (nI Z) (nI P, nI C, nI R, nI L, hs, ss, cs, gs, vs) dr rd (nI D, sm, nI N, nI K, ce, de, ke, se) i0 i1 kp dd tr m)
  refine zq_b [zq_al 0, zq_get 11 2, zq_get 9 2] [zq_alchk 0, zq_getchk 11 2, zq_getchk 9 2] 63 rfl (by decide +kernel) ?_
  show zq_G _ _ _ _ _ 63 ([(0, .ref 0), (1, .int 2)], [.int (nI R)], XH tx (nI Z) (nI P, nI C, nI R, nI L, hs, ss, cs, gs, vs) dr rd (nI D, sm, nI N, nI K, ce, de, ke, se) i0 i1 kp dd tr m)
  exact zq_iret (by decide +kernel) rfl rfl rfl
set_option maxHeartbeats 4000000 in
set_option maxRecDepth 100000 in
theorem x_count_3   : zq_P l mX11_count 0 [.ref 0, .int 3] (XH tx (nI Z) (nI P, nI C, nI R, nI L, hs, ss, cs, gs, vs) dr rd (nI D, sm, nI N, nI K, ce, de, ke, se) i0 i1 kp dd tr m) (some (.int (nI N))) (XH tx (nI Z) (nI P, nI C, nI R, nI L, hs, ss, cs, gs, vs) dr rd (nI D, sm, nI N, nI K, ce, de, ke, se) i0 i1 kp dd tr m) := by
  refine zq_start (by decide +kernel) rfl (Nat.le_of_ble_eq_true rfl) ?_
  show zq_G _ _ _ _ _ 0 ([(0, .ref 0), (1, .int 3)], [], XH tx (nI Z) (nI P, nI C, nI R, nI L, hs, ss, cs, gs, vs) dr rd (nI D, sm, nI N, nI K, ce, de, ke, se) i0 i1 kp dd tr m)
  refine zq_b [zq_il 1] [zq_ilchk 1] 1 rfl (by decide +kernel) ?_
  show zq_G _ _ _ _ _ 1 ([(0, .ref 0), (1, .int 3)], [.int 3], XH tx (nI Z) (nI P, nI C, nI R, nI L, hs, ss, cs, gs, vs) dr rd (nI D, sm, nI N, nI K, ce, de, ke, se) i0 i1 kp dd tr m)
  refine zq_swc [(0, 40), (1, 48), (2, 56), (3, 64), (4, 72), (5, 80)] 85 (by decide +kernel) ⟨fun c => absurd c (by decide), fun c => absurd c (by decide), fun c => absurd c (by decide), fun _ => ?_, fun c => absurd c (by decide), fun c => absurd c (by decide), trivial⟩ (fun c => absurd (by decide) c.2.2.2.1)
  show zq_G _ _ _ _ _ 64 ([(0, .ref 0), (1, .int 3)], [], XH tx (nI Z) (nI P, nI C, nI R, nI L, hs, ss, cs, gs, vs) dr rd (nI D, sm, nI N, nI K, ce, de, ke, se) i0 i1 kp dd tr m)
  refine zq_b [zq_al 0, zq_get 11 5, zq_get 5 3] [zq_alchk 0, zq_getchk 11 5, zq_getchk 5 3] 71 rfl (by decide +kernel) ?_
  show zq_G _ _ _ _ _ 71 ([(0, .ref 0), (1, .int 3)], [.int (nI N)], XH tx (nI Z) (nI P, nI C, nI R, nI L, hs, ss, cs, gs, vs) dr rd (nI D, sm, nI N, nI K, ce, de, ke, se) i0 i1 kp dd tr m)
  exact zq_iret (by decide +kernel) rfl rfl rfl
set_option maxHeartbeats 4000000 in
set_option maxRecDepth 100000 in
theorem x_count_4   : zq_P l mX11_count 0 [.ref 0, .int 4] (XH tx (nI Z) (nI P, nI C, nI R, nI L, hs, ss, cs, gs, vs) dr rd (nI D, sm, nI N, nI K, ce, de, ke, se) i0 i1 kp dd tr m) (some (.int (nI K))) (XH tx (nI Z) (nI P, nI C, nI R, nI L, hs, ss, cs, gs, vs) dr rd (nI D, sm, nI N, nI K, ce, de, ke, se) i0 i1 kp dd tr m) := by
  refine zq_start (by decide +kernel) rfl (Nat.le_of_ble_eq_true rfl) ?_
  show zq_G _ _ _ _ _ 0 ([(0, .ref 0), (1, .int 4)], [], XH tx (nI Z) (nI P, nI C, nI R, nI L, hs, ss, cs, gs, vs) dr rd (nI D, sm, nI N, nI K, ce, de, ke, se) i0 i1 kp dd tr m)
  refine zq_b [zq_il 1] [zq_ilchk 1] 1 rfl (by decide +kernel) ?_
  show zq_G _ _ _ _ _ 1 ([(0, .ref 0), (1, .int 4)], [.int 4], XH tx (nI Z) (nI P, nI C, nI R, nI L, hs, ss, cs, gs, vs) dr rd (nI D, sm, nI N, nI K, ce, de, ke, se) i0 i1 kp dd tr m)
  refine zq_swc [(0, 40), (1, 48), (2, 56), (3, 64), (4, 72), (5, 80)] 85 (by decide +kernel) ⟨fun c => absurd c (by decide), fun c => absurd c (by decide), fun c => absurd c (by decide), fun c => absurd c (by decide), fun _ => ?_, fun c => absurd c (by decide), trivial⟩ (fun c => absurd (by decide) c.2.2.2.2.1)
  show zq_G _ _ _ _ _ 72 ([(0, .ref 0), (1, .int 4)], [], XH tx (nI Z) (nI P, nI C, nI R, nI L, hs, ss, cs, gs, vs) dr rd (nI D, sm, nI N, nI K, ce, de, ke, se) i0 i1 kp dd tr m)
  refine zq_b [zq_al 0, zq_get 11 5, zq_get 5 4] [zq_alchk 0, zq_getchk 11 5, zq_getchk 5 4] 79 rfl (by decide +kernel) ?_
  show zq_G _ _ _ _ _ 79 ([(0, .ref 0), (1, .int 4)], [.int (nI K)], XH tx (nI Z) (nI P, nI C, nI R, nI L, hs, ss, cs, gs, vs) dr rd (nI D, sm, nI N, nI K, ce, de, ke, se) i0 i1 kp dd tr m)
  exact zq_iret (by decide +kernel) rfl rfl rfl
set_option maxHeartbeats 4000000 in
set_option maxRecDepth 100000 in
theorem x_count_5   : zq_P l mX11_count 0 [.ref 0, .int 5] (XH tx (nI Z) (nI P, nI C, nI R, nI L, hs, ss, cs, gs, vs) dr rd (nI D, sm, nI N, nI K, ce, de, ke, se) i0 i1 kp dd tr m) (some (.int (nI Z))) (XH tx (nI Z) (nI P, nI C, nI R, nI L, hs, ss, cs, gs, vs) dr rd (nI D, sm, nI N, nI K, ce, de, ke, se) i0 i1 kp dd tr m) := by
  refine zq_start (by decide +kernel) rfl (Nat.le_of_ble_eq_true rfl) ?_
  show zq_G _ _ _ _ _ 0 ([(0, .ref 0), (1, .int 5)], [], XH tx (nI Z) (nI P, nI C, nI R, nI L, hs, ss, cs, gs, vs) dr rd (nI D, sm, nI N, nI K, ce, de, ke, se) i0 i1 kp dd tr m)
  refine zq_b [zq_il 1] [zq_ilchk 1] 1 rfl (by decide +kernel) ?_
  show zq_G _ _ _ _ _ 1 ([(0, .ref 0), (1, .int 5)], [.int 5], XH tx (nI Z) (nI P, nI C, nI R, nI L, hs, ss, cs, gs, vs) dr rd (nI D, sm, nI N, nI K, ce, de, ke, se) i0 i1 kp dd tr m)
  refine zq_swc [(0, 40), (1, 48), (2, 56), (3, 64), (4, 72), (5, 80)] 85 (by decide +kernel) ⟨fun c => absurd c (by decide), fun c => absurd c (by decide), fun c => absurd c (by decide), fun c => absurd c (by decide), fun c => absurd c (by decide), fun _ => ?_, trivial⟩ (fun c => absurd (by decide) c.2.2.2.2.2.1)
  show zq_G _ _ _ _ _ 80 ([(0, .ref 0), (1, .int 5)], [], XH tx (nI Z) (nI P, nI C, nI R, nI L, hs, ss, cs, gs, vs) dr rd (nI D, sm, nI N, nI K, ce, de, ke, se) i0 i1 kp dd tr m)
  refine zq_b [zq_al 0, zq_get 11 1] [zq_alchk 0, zq_getchk 11 1] 84 rfl (by decide +kernel) ?_
  show zq_G _ _ _ _ _ 84 ([(0, .ref 0), (1, .int 5)], [.int (nI Z)], XH tx (nI Z) (nI P, nI C, nI R, nI L, hs, ss, cs, gs, vs) dr rd (nI D, sm, nI N, nI K, ce, de, ke, se) i0 i1 kp dd tr m)
  exact zq_iret (by decide +kernel) rfl rfl rfl
set_option maxHeartbeats 4000000 in
set_option maxRecDepth 100000 in
theorem x_trace   : zq_P l mX11_trace 0 [.ref 0] (XH tx (nI Z) (nI P, nI C, nI R, nI L, hs, ss, cs, gs, vs) dr rd (nI D, sm, nI N, nI K, ce, de, ke, se) i0 i1 kp dd tr m) (some (.long tr)) (XH tx (nI Z) (nI P, nI C, nI R, nI L, hs, ss, cs, gs, vs) dr rd (nI D, sm, nI N, nI K, ce, de, ke, se) i0 i1 kp dd tr m) := by
  refine zq_start (by decide +kernel) rfl (Nat.le_of_ble_eq_true rfl) ?_
  show zq_G _ _ _ _ _ 0 ([(0, .ref 0)], [], XH tx (nI Z) (nI P, nI C, nI R, nI L, hs, ss, cs, gs, vs) dr rd (nI D, sm, nI N, nI K, ce, de, ke, se) i0 i1 kp dd tr m)
  refine zq_b [zq_al 0, zq_get 11 9, zq_get 0 3] [zq_alchk 0, zq_getchk 11 9, zq_getchk 0 3] 7 rfl (by decide +kernel) ?_
  show zq_G _ _ _ _ _ 7 ([(0, .ref 0)], [.long tr], XH tx (nI Z) (nI P, nI C, nI R, nI L, hs, ss, cs, gs, vs) dr rd (nI D, sm, nI N, nI K, ce, de, ke, se) i0 i1 kp dd tr m)
  exact zq_jret (by decide +kernel) rfl rfl rfl
end XV5
end
section
theorem zq_dummy : 1 + 1 = 2 := rfl
end
