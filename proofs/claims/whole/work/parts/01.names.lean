/-! names -/
/-- a private method of a class that the tables say can be made, by its rows of tables_1 -/
def lw_okq (q : MethodName × Nat) : Prop := (q.1.cls ≠ "java/lang/invoke/MethodHandle" ∧ q.1.cls ≠ "java/lang/invoke/VarHandle") ∧ Cond.instantiable q.1.cls q.2 ∈ tables_1 ∧ Cond.privateMethod q.1 ∈ tables_1 ∧ Cond.instanceMethod q.1 ∈ tables_1
theorem lw_p0 : lw_okq (⟨"SquareLate$Reader", "nextToken", "()V"⟩, 8) := ⟨⟨by decide +kernel, by decide +kernel⟩, List.mem_of_getElem? (i := 80) (by decide +kernel), List.mem_of_getElem? (i := 298) (by decide +kernel), List.mem_of_getElem? (i := 299) (by decide +kernel)⟩
theorem lw_p1 : lw_okq (⟨"SquareLate$Reader", "takeLetters", "()V"⟩, 8) := ⟨⟨by decide +kernel, by decide +kernel⟩, List.mem_of_getElem? (i := 80) (by decide +kernel), List.mem_of_getElem? (i := 305) (by decide +kernel), List.mem_of_getElem? (i := 306) (by decide +kernel)⟩
theorem lw_p2 : lw_okq (⟨"SquareLate$Reader", "takeDigits", "()V"⟩, 8) := ⟨⟨by decide +kernel, by decide +kernel⟩, List.mem_of_getElem? (i := 80) (by decide +kernel), List.mem_of_getElem? (i := 312) (by decide +kernel), List.mem_of_getElem? (i := 313) (by decide +kernel)⟩
theorem lw_p3 : lw_okq (⟨"SquareLate$Reader", "readItem", "()Z"⟩, 8) := ⟨⟨by decide +kernel, by decide +kernel⟩, List.mem_of_getElem? (i := 80) (by decide +kernel), List.mem_of_getElem? (i := 316) (by decide +kernel), List.mem_of_getElem? (i := 317) (by decide +kernel)⟩
theorem lw_p4 : lw_okq (⟨"SquareLate$Reader", "readPerson", "()Z"⟩, 8) := ⟨⟨by decide +kernel, by decide +kernel⟩, List.mem_of_getElem? (i := 80) (by decide +kernel), List.mem_of_getElem? (i := 320) (by decide +kernel), List.mem_of_getElem? (i := 321) (by decide +kernel)⟩
theorem lw_p5 : lw_okq (⟨"SquareLate$Reader", "readNumber", "(II)Z"⟩, 8) := ⟨⟨by decide +kernel, by decide +kernel⟩, List.mem_of_getElem? (i := 80) (by decide +kernel), List.mem_of_getElem? (i := 324) (by decide +kernel), List.mem_of_getElem? (i := 325) (by decide +kernel)⟩
theorem lw_p6 : lw_okq (⟨"SquareLate$Reader", "readStop", "()Z"⟩, 8) := ⟨⟨by decide +kernel, by decide +kernel⟩, List.mem_of_getElem? (i := 80) (by decide +kernel), List.mem_of_getElem? (i := 328) (by decide +kernel), List.mem_of_getElem? (i := 329) (by decide +kernel)⟩
theorem lw_p7 : lw_okq (⟨"SquareLate$Reader", "readLate", "()Z"⟩, 8) := ⟨⟨by decide +kernel, by decide +kernel⟩, List.mem_of_getElem? (i := 80) (by decide +kernel), List.mem_of_getElem? (i := 332) (by decide +kernel), List.mem_of_getElem? (i := 333) (by decide +kernel)⟩
theorem lw_p8 : lw_okq (⟨"SquareLate$Reader", "readCloud", "()Z"⟩, 8) := ⟨⟨by decide +kernel, by decide +kernel⟩, List.mem_of_getElem? (i := 80) (by decide +kernel), List.mem_of_getElem? (i := 336) (by decide +kernel), List.mem_of_getElem? (i := 337) (by decide +kernel)⟩
theorem lw_p9 : lw_okq (⟨"SquareLate$Reader", "readRule", "()Z"⟩, 8) := ⟨⟨by decide +kernel, by decide +kernel⟩, List.mem_of_getElem? (i := 80) (by decide +kernel), List.mem_of_getElem? (i := 344) (by decide +kernel), List.mem_of_getElem? (i := 345) (by decide +kernel)⟩
theorem lw_p10 : lw_okq (⟨"SquareLate$Now", "isInSmoke", "(I)Z"⟩, 9) := ⟨⟨by decide +kernel, by decide +kernel⟩, List.mem_of_getElem? (i := 111) (by decide +kernel), List.mem_of_getElem? (i := 388) (by decide +kernel), List.mem_of_getElem? (i := 389) (by decide +kernel)⟩
theorem lw_p11 : lw_okq (⟨"SquareLate$Now", "remember", "(III)V"⟩, 9) := ⟨⟨by decide +kernel, by decide +kernel⟩, List.mem_of_getElem? (i := 111) (by decide +kernel), List.mem_of_getElem? (i := 420) (by decide +kernel), List.mem_of_getElem? (i := 421) (by decide +kernel)⟩
theorem lw_p12 : lw_okq (⟨"SquareLate$Claims", "leastActsDoer", "(III)I"⟩, 2) := ⟨⟨by decide +kernel, by decide +kernel⟩, List.mem_of_getElem? (i := 152) (by decide +kernel), List.mem_of_getElem? (i := 492) (by decide +kernel), List.mem_of_getElem? (i := 493) (by decide +kernel)⟩
theorem lw_p13 : lw_okq (⟨"SquareLate$Claims", "lastDoer", "(III)I"⟩, 2) := ⟨⟨by decide +kernel, by decide +kernel⟩, List.mem_of_getElem? (i := 152) (by decide +kernel), List.mem_of_getElem? (i := 497) (by decide +kernel), List.mem_of_getElem? (i := 498) (by decide +kernel)⟩
theorem lw_p14 : lw_okq (⟨"SquareLate$Told", "actsAcross", "(I[I[I)I"⟩, 9) := ⟨⟨by decide +kernel, by decide +kernel⟩, List.mem_of_getElem? (i := 26) (by decide +kernel), List.mem_of_getElem? (i := 506) (by decide +kernel), List.mem_of_getElem? (i := 507) (by decide +kernel)⟩
theorem lw_p15 : lw_okq (⟨"SquareLate$Now", "nearestRow", "(II)I"⟩, 9) := ⟨⟨by decide +kernel, by decide +kernel⟩, List.mem_of_getElem? (i := 111) (by decide +kernel), List.mem_of_getElem? (i := 547) (by decide +kernel), List.mem_of_getElem? (i := 548) (by decide +kernel)⟩
def lw_privs_1 : List (MethodName × Nat) := [(⟨"SquareLate$Reader", "nextToken", "()V"⟩, 8), (⟨"SquareLate$Reader", "takeLetters", "()V"⟩, 8), (⟨"SquareLate$Reader", "takeDigits", "()V"⟩, 8), (⟨"SquareLate$Reader", "readItem", "()Z"⟩, 8), (⟨"SquareLate$Reader", "readPerson", "()Z"⟩, 8), (⟨"SquareLate$Reader", "readNumber", "(II)Z"⟩, 8), (⟨"SquareLate$Reader", "readStop", "()Z"⟩, 8), (⟨"SquareLate$Reader", "readLate", "()Z"⟩, 8), (⟨"SquareLate$Reader", "readCloud", "()Z"⟩, 8), (⟨"SquareLate$Reader", "readRule", "()Z"⟩, 8), (⟨"SquareLate$Now", "isInSmoke", "(I)Z"⟩, 9), (⟨"SquareLate$Now", "remember", "(III)V"⟩, 9), (⟨"SquareLate$Claims", "leastActsDoer", "(III)I"⟩, 2), (⟨"SquareLate$Claims", "lastDoer", "(III)I"⟩, 2), (⟨"SquareLate$Told", "actsAcross", "(I[I[I)I"⟩, 9), (⟨"SquareLate$Now", "nearestRow", "(II)I"⟩, 9)]
theorem lw_r1 : ∀ q ∈ lw_privs_1, lw_okq q := List.forall_mem_cons.mpr ⟨lw_p0, List.forall_mem_cons.mpr ⟨lw_p1, List.forall_mem_cons.mpr ⟨lw_p2, List.forall_mem_cons.mpr ⟨lw_p3, List.forall_mem_cons.mpr ⟨lw_p4, List.forall_mem_cons.mpr ⟨lw_p5, List.forall_mem_cons.mpr ⟨lw_p6, List.forall_mem_cons.mpr ⟨lw_p7, List.forall_mem_cons.mpr ⟨lw_p8, List.forall_mem_cons.mpr ⟨lw_p9, List.forall_mem_cons.mpr ⟨lw_p10, List.forall_mem_cons.mpr ⟨lw_p11, List.forall_mem_cons.mpr ⟨lw_p12, List.forall_mem_cons.mpr ⟨lw_p13, List.forall_mem_cons.mpr ⟨lw_p14, List.forall_mem_cons.mpr ⟨lw_p15, fun _ h => absurd h List.not_mem_nil⟩⟩⟩⟩⟩⟩⟩⟩⟩⟩⟩⟩⟩⟩⟩⟩
theorem lw_p16 : lw_okq (⟨"SquareLate$Now", "farthestRow", "(II)I"⟩, 9) := ⟨⟨by decide +kernel, by decide +kernel⟩, List.mem_of_getElem? (i := 111) (by decide +kernel), List.mem_of_getElem? (i := 552) (by decide +kernel), List.mem_of_getElem? (i := 553) (by decide +kernel)⟩
theorem lw_p17 : lw_okq (⟨"SquareLateModel", "reads", "()Z"⟩, 13) := ⟨⟨by decide +kernel, by decide +kernel⟩, List.mem_of_getElem? (i := 685) (by decide +kernel), List.mem_of_getElem? (i := 691) (by decide +kernel), List.mem_of_getElem? (i := 692) (by decide +kernel)⟩
theorem lw_p18 : lw_okq (⟨"SquareLateModel", "token", "()V"⟩, 13) := ⟨⟨by decide +kernel, by decide +kernel⟩, List.mem_of_getElem? (i := 685) (by decide +kernel), List.mem_of_getElem? (i := 695) (by decide +kernel), List.mem_of_getElem? (i := 696) (by decide +kernel)⟩
theorem lw_p19 : lw_okq (⟨"SquareLateModel", "byteAt", "(I)I"⟩, 13) := ⟨⟨by decide +kernel, by decide +kernel⟩, List.mem_of_getElem? (i := 685) (by decide +kernel), List.mem_of_getElem? (i := 699) (by decide +kernel), List.mem_of_getElem? (i := 700) (by decide +kernel)⟩
theorem lw_p20 : lw_okq (⟨"SquareLateModel", "readsItem", "()Z"⟩, 13) := ⟨⟨by decide +kernel, by decide +kernel⟩, List.mem_of_getElem? (i := 685) (by decide +kernel), List.mem_of_getElem? (i := 712) (by decide +kernel), List.mem_of_getElem? (i := 713) (by decide +kernel)⟩
theorem lw_p21 : lw_okq (⟨"SquareLateModel", "readsPerson", "()Z"⟩, 13) := ⟨⟨by decide +kernel, by decide +kernel⟩, List.mem_of_getElem? (i := 685) (by decide +kernel), List.mem_of_getElem? (i := 716) (by decide +kernel), List.mem_of_getElem? (i := 717) (by decide +kernel)⟩
theorem lw_p22 : lw_okq (⟨"SquareLateModel", "number", "(III)Z"⟩, 13) := ⟨⟨by decide +kernel, by decide +kernel⟩, List.mem_of_getElem? (i := 685) (by decide +kernel), List.mem_of_getElem? (i := 720) (by decide +kernel), List.mem_of_getElem? (i := 721) (by decide +kernel)⟩
theorem lw_p23 : lw_okq (⟨"SquareLateModel", "readsLate", "()Z"⟩, 13) := ⟨⟨by decide +kernel, by decide +kernel⟩, List.mem_of_getElem? (i := 685) (by decide +kernel), List.mem_of_getElem? (i := 724) (by decide +kernel), List.mem_of_getElem? (i := 725) (by decide +kernel)⟩
theorem lw_p24 : lw_okq (⟨"SquareLateModel", "readsCloud", "()Z"⟩, 13) := ⟨⟨by decide +kernel, by decide +kernel⟩, List.mem_of_getElem? (i := 685) (by decide +kernel), List.mem_of_getElem? (i := 728) (by decide +kernel), List.mem_of_getElem? (i := 729) (by decide +kernel)⟩
theorem lw_p25 : lw_okq (⟨"SquareLateModel", "readsRule", "()Z"⟩, 13) := ⟨⟨by decide +kernel, by decide +kernel⟩, List.mem_of_getElem? (i := 685) (by decide +kernel), List.mem_of_getElem? (i := 732) (by decide +kernel), List.mem_of_getElem? (i := 733) (by decide +kernel)⟩
theorem lw_p26 : lw_okq (⟨"SquareLateModel", "tells", "()V"⟩, 13) := ⟨⟨by decide +kernel, by decide +kernel⟩, List.mem_of_getElem? (i := 685) (by decide +kernel), List.mem_of_getElem? (i := 736) (by decide +kernel), List.mem_of_getElem? (i := 737) (by decide +kernel)⟩
theorem lw_p27 : lw_okq (⟨"SquareLateModel", "isPerson", "(I)Z"⟩, 13) := ⟨⟨by decide +kernel, by decide +kernel⟩, List.mem_of_getElem? (i := 685) (by decide +kernel), List.mem_of_getElem? (i := 796) (by decide +kernel), List.mem_of_getElem? (i := 797) (by decide +kernel)⟩
theorem lw_p28 : lw_okq (⟨"SquareLateModel", "isSeen", "(I)Z"⟩, 13) := ⟨⟨by decide +kernel, by decide +kernel⟩, List.mem_of_getElem? (i := 685) (by decide +kernel), List.mem_of_getElem? (i := 800) (by decide +kernel), List.mem_of_getElem? (i := 801) (by decide +kernel)⟩
theorem lw_p29 : lw_okq (⟨"SquareLateModel", "isBare", "(III)Z"⟩, 13) := ⟨⟨by decide +kernel, by decide +kernel⟩, List.mem_of_getElem? (i := 685) (by decide +kernel), List.mem_of_getElem? (i := 804) (by decide +kernel), List.mem_of_getElem? (i := 805) (by decide +kernel)⟩
theorem lw_p30 : lw_okq (⟨"SquareLateModel", "isCloud", "(I)Z"⟩, 13) := ⟨⟨by decide +kernel, by decide +kernel⟩, List.mem_of_getElem? (i := 685) (by decide +kernel), List.mem_of_getElem? (i := 808) (by decide +kernel), List.mem_of_getElem? (i := 809) (by decide +kernel)⟩
theorem lw_p31 : lw_okq (⟨"SquareLateModel", "seenNow", "()I"⟩, 13) := ⟨⟨by decide +kernel, by decide +kernel⟩, List.mem_of_getElem? (i := 685) (by decide +kernel), List.mem_of_getElem? (i := 820) (by decide +kernel), List.mem_of_getElem? (i := 821) (by decide +kernel)⟩
def lw_privs_2 : List (MethodName × Nat) := [(⟨"SquareLate$Now", "farthestRow", "(II)I"⟩, 9), (⟨"SquareLateModel", "reads", "()Z"⟩, 13), (⟨"SquareLateModel", "token", "()V"⟩, 13), (⟨"SquareLateModel", "byteAt", "(I)I"⟩, 13), (⟨"SquareLateModel", "readsItem", "()Z"⟩, 13), (⟨"SquareLateModel", "readsPerson", "()Z"⟩, 13), (⟨"SquareLateModel", "number", "(III)Z"⟩, 13), (⟨"SquareLateModel", "readsLate", "()Z"⟩, 13), (⟨"SquareLateModel", "readsCloud", "()Z"⟩, 13), (⟨"SquareLateModel", "readsRule", "()Z"⟩, 13), (⟨"SquareLateModel", "tells", "()V"⟩, 13), (⟨"SquareLateModel", "isPerson", "(I)Z"⟩, 13), (⟨"SquareLateModel", "isSeen", "(I)Z"⟩, 13), (⟨"SquareLateModel", "isBare", "(III)Z"⟩, 13), (⟨"SquareLateModel", "isCloud", "(I)Z"⟩, 13), (⟨"SquareLateModel", "seenNow", "()I"⟩, 13)]
theorem lw_r2 : ∀ q ∈ lw_privs_2, lw_okq q := List.forall_mem_cons.mpr ⟨lw_p16, List.forall_mem_cons.mpr ⟨lw_p17, List.forall_mem_cons.mpr ⟨lw_p18, List.forall_mem_cons.mpr ⟨lw_p19, List.forall_mem_cons.mpr ⟨lw_p20, List.forall_mem_cons.mpr ⟨lw_p21, List.forall_mem_cons.mpr ⟨lw_p22, List.forall_mem_cons.mpr ⟨lw_p23, List.forall_mem_cons.mpr ⟨lw_p24, List.forall_mem_cons.mpr ⟨lw_p25, List.forall_mem_cons.mpr ⟨lw_p26, List.forall_mem_cons.mpr ⟨lw_p27, List.forall_mem_cons.mpr ⟨lw_p28, List.forall_mem_cons.mpr ⟨lw_p29, List.forall_mem_cons.mpr ⟨lw_p30, List.forall_mem_cons.mpr ⟨lw_p31, fun _ h => absurd h List.not_mem_nil⟩⟩⟩⟩⟩⟩⟩⟩⟩⟩⟩⟩⟩⟩⟩⟩
theorem lw_p32 : lw_okq (⟨"SquareLateModel", "keeps", "()V"⟩, 13) := ⟨⟨by decide +kernel, by decide +kernel⟩, List.mem_of_getElem? (i := 685) (by decide +kernel), List.mem_of_getElem? (i := 828) (by decide +kernel), List.mem_of_getElem? (i := 829) (by decide +kernel)⟩
theorem lw_p33 : lw_okq (⟨"SquareLateModel", "isDeed", "(I)Z"⟩, 13) := ⟨⟨by decide +kernel, by decide +kernel⟩, List.mem_of_getElem? (i := 685) (by decide +kernel), List.mem_of_getElem? (i := 859) (by decide +kernel), List.mem_of_getElem? (i := 860) (by decide +kernel)⟩
theorem lw_p34 : lw_okq (⟨"SquareLateModel", "holderBy", "(III)I"⟩, 13) := ⟨⟨by decide +kernel, by decide +kernel⟩, List.mem_of_getElem? (i := 685) (by decide +kernel), List.mem_of_getElem? (i := 871) (by decide +kernel), List.mem_of_getElem? (i := 872) (by decide +kernel)⟩
theorem lw_p35 : lw_okq (⟨"SquareLateModel", "ownHolder", "(III)I"⟩, 13) := ⟨⟨by decide +kernel, by decide +kernel⟩, List.mem_of_getElem? (i := 685) (by decide +kernel), List.mem_of_getElem? (i := 875) (by decide +kernel), List.mem_of_getElem? (i := 876) (by decide +kernel)⟩
theorem lw_p36 : lw_okq (⟨"SquareLateModel", "laysWays", "(I)V"⟩, 13) := ⟨⟨by decide +kernel, by decide +kernel⟩, List.mem_of_getElem? (i := 685) (by decide +kernel), List.mem_of_getElem? (i := 879) (by decide +kernel), List.mem_of_getElem? (i := 880) (by decide +kernel)⟩
theorem lw_p37 : lw_okq (⟨"SquareLateModel", "isPeople", "(I)Z"⟩, 13) := ⟨⟨by decide +kernel, by decide +kernel⟩, List.mem_of_getElem? (i := 685) (by decide +kernel), List.mem_of_getElem? (i := 899) (by decide +kernel), List.mem_of_getElem? (i := 900) (by decide +kernel)⟩
def lw_privs_3 : List (MethodName × Nat) := [(⟨"SquareLateModel", "keeps", "()V"⟩, 13), (⟨"SquareLateModel", "isDeed", "(I)Z"⟩, 13), (⟨"SquareLateModel", "holderBy", "(III)I"⟩, 13), (⟨"SquareLateModel", "ownHolder", "(III)I"⟩, 13), (⟨"SquareLateModel", "laysWays", "(I)V"⟩, 13), (⟨"SquareLateModel", "isPeople", "(I)Z"⟩, 13)]
theorem lw_r3 : ∀ q ∈ lw_privs_3, lw_okq q := List.forall_mem_cons.mpr ⟨lw_p32, List.forall_mem_cons.mpr ⟨lw_p33, List.forall_mem_cons.mpr ⟨lw_p34, List.forall_mem_cons.mpr ⟨lw_p35, List.forall_mem_cons.mpr ⟨lw_p36, List.forall_mem_cons.mpr ⟨lw_p37, fun _ h => absurd h List.not_mem_nil⟩⟩⟩⟩⟩⟩
def lw_privs : List (MethodName × Nat) := lw_privs_1 ++ (lw_privs_2 ++ (lw_privs_3))
def lw_tbl : List Cond := k2_sels lw_privs ++ tables_1
theorem lw_privs_ok : ∀ q ∈ lw_privs, lw_okq q := by
  show ∀ q ∈ lw_privs_1 ++ (lw_privs_2 ++ (lw_privs_3)), lw_okq q
  exact List.forall_mem_append.mpr ⟨lw_r1, List.forall_mem_append.mpr ⟨lw_r2, lw_r3⟩⟩
def RX0 : String := "SquareLate$Asked"
def TX0 : u_T := fun k => match k with
  | 0 => ("SquareLate$Asked", "told", "LSquareLate$Told;", true)
  | 1 => ("SquareLate$Asked", "now", "LSquareLate$Now;", true)
  | 2 => ("SquareLate$Asked", "deed", "I", false)
  | _ => ("SquareLate$Asked", "trace", "J", false)
def tyX0 : Nat → FieldType := fun k => match k with
  | 0 => .object "SquareLate$Told"
  | 1 => .object "SquareLate$Now"
  | 2 => .int
  | _ => .long
theorem nmX0 : ∀ a, a < 4 → ∀ b, b < 4 → a ≠ b → (TX0 a).2.1 ≠ (TX0 b).2.1 := by decide +kernel
theorem tyX0_ok : ∀ k, k < 4 → parseFieldDescriptor (TX0 k).2.2.1 = some (tyX0 k) := by decide +kernel
abbrev cX0_init : ByteArray := prog_2_method_1_code
def yX0_init : MethodName := ⟨RX0, "<init>", "(LSquareLate$Told;LSquareLate$Now;)V"⟩
abbrev cX0_get : ByteArray := prog_2_method_2_code
def yX0_get : MethodName := ⟨RX0, "get", "(I)I"⟩
def RX1 : String := "SquareLate$Claims"
def TX1 : u_T := fun k => match k with
  | 0 => ("SquareLate$Claims", "told", "LSquareLate$Told;", true)
  | _ => ("SquareLate$Claims", "now", "LSquareLate$Now;", true)
def tyX1 : Nat → FieldType := fun k => match k with
  | 0 => .object "SquareLate$Told"
  | _ => .object "SquareLate$Now"
theorem nmX1 : ∀ a, a < 2 → ∀ b, b < 2 → a ≠ b → (TX1 a).2.1 ≠ (TX1 b).2.1 := by decide +kernel
theorem tyX1_ok : ∀ k, k < 2 → parseFieldDescriptor (TX1 k).2.2.1 = some (tyX1 k) := by decide +kernel
abbrev cX1_init : ByteArray := prog_3_method_1_code
def yX1_init : MethodName := ⟨RX1, "<init>", "(LSquareLate$Told;LSquareLate$Now;)V"⟩
abbrev cX1_whoHolds : ByteArray := prog_3_method_2_code
def yX1_whoHolds : MethodName := ⟨RX1, "whoHolds", "(III)I"⟩
abbrev cX1_leastActsDoer : ByteArray := prog_3_method_3_code
def yX1_leastActsDoer : MethodName := ⟨RX1, "leastActsDoer", "(III)I"⟩
abbrev cX1_lastDoer : ByteArray := prog_3_method_4_code
def yX1_lastDoer : MethodName := ⟨RX1, "lastDoer", "(III)I"⟩
abbrev cX1_comesBack : ByteArray := prog_3_method_5_code
def yX1_comesBack : MethodName := ⟨RX1, "comesBack", "(I)Z"⟩
def RX2 : String := "SquareLate$Clouded"
def TX2 : u_T := fun k => match k with
  | _ => ("", "", "", false)
def tyX2 : Nat → FieldType := fun k => match k with
  | _ => .int
theorem nmX2 : ∀ a, a < 0 → ∀ b, b < 0 → a ≠ b → (TX2 a).2.1 ≠ (TX2 b).2.1 := by decide +kernel
theorem tyX2_ok : ∀ k, k < 0 → parseFieldDescriptor (TX2 k).2.2.1 = some (tyX2 k) := by decide +kernel
abbrev cX2_init : ByteArray := prog_4_method_1_code
def yX2_init : MethodName := ⟨RX2, "<init>", "()V"⟩
abbrev cX2_worth : ByteArray := prog_4_method_2_code
def yX2_worth : MethodName := ⟨RX2, "worth", "(LSquareLate$Asked;)I"⟩
def RX3 : String := "SquareLate$Hidden"
def TX3 : u_T := fun k => match k with
  | _ => ("", "", "", false)
def tyX3 : Nat → FieldType := fun k => match k with
  | _ => .int
theorem nmX3 : ∀ a, a < 0 → ∀ b, b < 0 → a ≠ b → (TX3 a).2.1 ≠ (TX3 b).2.1 := by decide +kernel
theorem tyX3_ok : ∀ k, k < 0 → parseFieldDescriptor (TX3 k).2.2.1 = some (tyX3 k) := by decide +kernel
abbrev cX3_init : ByteArray := prog_5_method_1_code
def yX3_init : MethodName := ⟨RX3, "<init>", "()V"⟩
abbrev cX3_worth : ByteArray := prog_5_method_2_code
def yX3_worth : MethodName := ⟨RX3, "worth", "(LSquareLate$Asked;)I"⟩
def RX4 : String := "SquareLate$Lawful"
def TX4 : u_T := fun k => match k with
  | _ => ("", "", "", false)
def tyX4 : Nat → FieldType := fun k => match k with
  | _ => .int
theorem nmX4 : ∀ a, a < 0 → ∀ b, b < 0 → a ≠ b → (TX4 a).2.1 ≠ (TX4 b).2.1 := by decide +kernel
theorem tyX4_ok : ∀ k, k < 0 → parseFieldDescriptor (TX4 k).2.2.1 = some (tyX4 k) := by decide +kernel
abbrev cX4_init : ByteArray := prog_6_method_1_code
def yX4_init : MethodName := ⟨RX4, "<init>", "()V"⟩
abbrev cX4_worth : ByteArray := prog_6_method_2_code
def yX4_worth : MethodName := ⟨RX4, "worth", "(LSquareLate$Asked;)I"⟩
def RX5 : String := "SquareLate$Now"
def TX5 : u_T := fun k => match k with
  | 0 => ("SquareLate$Now", "told", "LSquareLate$Told;", true)
  | 1 => ("SquareLate$Now", "day", "I", false)
  | 2 => ("SquareLate$Now", "smoke", "I", false)
  | 3 => ("SquareLate$Now", "deeds", "I", false)
  | 4 => ("SquareLate$Now", "steps", "I", false)
  | 5 => ("SquareLate$Now", "cells", "[I", true)
  | 6 => ("SquareLate$Now", "deedRows", "[I", true)
  | 7 => ("SquareLate$Now", "keptRow", "[I", true)
  | _ => ("SquareLate$Now", "stepRows", "[I", true)
def tyX5 : Nat → FieldType := fun k => match k with
  | 0 => .object "SquareLate$Told"
  | 1 => .int
  | 2 => .int
  | 3 => .int
  | 4 => .int
  | 5 => .array .int
  | 6 => .array .int
  | 7 => .array .int
  | _ => .array .int
theorem nmX5 : ∀ a, a < 9 → ∀ b, b < 9 → a ≠ b → (TX5 a).2.1 ≠ (TX5 b).2.1 := by decide +kernel
theorem tyX5_ok : ∀ k, k < 9 → parseFieldDescriptor (TX5 k).2.2.1 = some (tyX5 k) := by decide +kernel
abbrev cX5_init : ByteArray := prog_7_method_1_code
def yX5_init : MethodName := ⟨RX5, "<init>", "(LSquareLate$Told;)V"⟩
abbrev cX5_begin : ByteArray := prog_7_method_2_code
def yX5_begin : MethodName := ⟨RX5, "begin", "()V"⟩
abbrev cX5_become : ByteArray := prog_7_method_3_code
def yX5_become : MethodName := ⟨RX5, "become", "(LSquareLate$Now;)V"⟩
abbrev cX5_move : ByteArray := prog_7_method_4_code
def yX5_move : MethodName := ⟨RX5, "move", "(II)I"⟩
abbrev cX5_turnSmoke : ByteArray := prog_7_method_5_code
def yX5_turnSmoke : MethodName := ⟨RX5, "turnSmoke", "(I)V"⟩
abbrev cX5_act : ByteArray := prog_7_method_6_code
def yX5_act : MethodName := ⟨RX5, "act", "(II)I"⟩
abbrev cX5_passDay : ByteArray := prog_7_method_7_code
def yX5_passDay : MethodName := ⟨RX5, "passDay", "()V"⟩
abbrev cX5_remember : ByteArray := prog_7_method_8_code
def yX5_remember : MethodName := ⟨RX5, "remember", "(III)V"⟩
abbrev cX5_takeBack : ByteArray := prog_7_method_9_code
def yX5_takeBack : MethodName := ⟨RX5, "takeBack", "()V"⟩
abbrev cX5_hasDeed : ByteArray := prog_7_method_10_code
def yX5_hasDeed : MethodName := ⟨RX5, "hasDeed", "(I)Z"⟩
abbrev cX5_ofDeed : ByteArray := prog_7_method_11_code
def yX5_ofDeed : MethodName := ⟨RX5, "ofDeed", "(II)I"⟩
abbrev cX5_deedsOfAct : ByteArray := prog_7_method_12_code
def yX5_deedsOfAct : MethodName := ⟨RX5, "deedsOfAct", "(I)I"⟩
abbrev cX5_keptOn : ByteArray := prog_7_method_13_code
def yX5_keptOn : MethodName := ⟨RX5, "keptOn", "(I)I"⟩
abbrev cX5_daysKept : ByteArray := prog_7_method_14_code
def yX5_daysKept : MethodName := ⟨RX5, "daysKept", "(I)I"⟩
abbrev cX5_firstDayKept : ByteArray := prog_7_method_15_code
def yX5_firstDayKept : MethodName := ⟨RX5, "firstDayKept", "(I)I"⟩
abbrev cX5_lastDayKept : ByteArray := prog_7_method_16_code
def yX5_lastDayKept : MethodName := ⟨RX5, "lastDayKept", "(I)I"⟩
abbrev cX5_peopleIn : ByteArray := prog_7_method_17_code
def yX5_peopleIn : MethodName := ⟨RX5, "peopleIn", "(I)I"⟩
abbrev cX5_seen : ByteArray := prog_7_method_18_code
def yX5_seen : MethodName := ⟨RX5, "seen", "()I"⟩
abbrev cX5_shown : ByteArray := prog_7_method_19_code
def yX5_shown : MethodName := ⟨RX5, "shown", "()I"⟩
abbrev cX5_shownIf : ByteArray := prog_7_method_20_code
def yX5_shownIf : MethodName := ⟨RX5, "shownIf", "(II)I"⟩
abbrev cX5_shows : ByteArray := prog_7_method_21_code
def yX5_shows : MethodName := ⟨RX5, "shows", "(III)Z"⟩
abbrev cX5_isInSmoke : ByteArray := prog_7_method_22_code
def yX5_isInSmoke : MethodName := ⟨RX5, "isInSmoke", "(I)Z"⟩
abbrev cX5_isAhead : ByteArray := prog_7_method_23_code
def yX5_isAhead : MethodName := ⟨RX5, "isAhead", "(II)Z"⟩
abbrev cX5_leastSmoke : ByteArray := prog_7_method_24_code
def yX5_leastSmoke : MethodName := ⟨RX5, "leastSmoke", "(II)I"⟩
abbrev cX5_nearestRow : ByteArray := prog_7_method_25_code
def yX5_nearestRow : MethodName := ⟨RX5, "nearestRow", "(II)I"⟩
abbrev cX5_farthestRow : ByteArray := prog_7_method_26_code
def yX5_farthestRow : MethodName := ⟨RX5, "farthestRow", "(II)I"⟩
def RX6 : String := "SquareLate$Plain"
def TX6 : u_T := fun k => match k with
  | _ => ("", "", "", false)
def tyX6 : Nat → FieldType := fun k => match k with
  | _ => .int
theorem nmX6 : ∀ a, a < 0 → ∀ b, b < 0 → a ≠ b → (TX6 a).2.1 ≠ (TX6 b).2.1 := by decide +kernel
theorem tyX6_ok : ∀ k, k < 0 → parseFieldDescriptor (TX6 k).2.2.1 = some (tyX6 k) := by decide +kernel
abbrev cX6_init : ByteArray := prog_8_method_1_code
def yX6_init : MethodName := ⟨RX6, "<init>", "()V"⟩
abbrev cX6_worth : ByteArray := prog_8_method_2_code
def yX6_worth : MethodName := ⟨RX6, "worth", "(LSquareLate$Asked;)I"⟩
def RX7 : String := "SquareLate$Posed"
def TX7 : u_T := fun k => match k with
  | _ => ("", "", "", false)
def tyX7 : Nat → FieldType := fun k => match k with
  | _ => .int
theorem nmX7 : ∀ a, a < 0 → ∀ b, b < 0 → a ≠ b → (TX7 a).2.1 ≠ (TX7 b).2.1 := by decide +kernel
theorem tyX7_ok : ∀ k, k < 0 → parseFieldDescriptor (TX7 k).2.2.1 = some (tyX7 k) := by decide +kernel
abbrev cX7_init : ByteArray := prog_9_method_1_code
def yX7_init : MethodName := ⟨RX7, "<init>", "()V"⟩
abbrev cX7_worth : ByteArray := prog_9_method_2_code
def yX7_worth : MethodName := ⟨RX7, "worth", "(LSquareLate$Asked;)I"⟩
def RX8 : String := "SquareLate$Reader"
def TX8 : u_T := fun k => match k with
  | 0 => ("SquareLate$Reader", "bytes", "[I", true)
  | 1 => ("SquareLate$Reader", "draft", "LSquareLate$Told;", true)
  | 2 => ("SquareLate$Reader", "length", "I", false)
  | 3 => ("SquareLate$Reader", "at", "I", false)
  | 4 => ("SquareLate$Reader", "lateTold", "Z", false)
  | 5 => ("SquareLate$Reader", "start", "I", false)
  | 6 => ("SquareLate$Reader", "token", "I", false)
  | _ => ("SquareLate$Reader", "value", "I", false)
def tyX8 : Nat → FieldType := fun k => match k with
  | 0 => .array .int
  | 1 => .object "SquareLate$Told"
  | 2 => .int
  | 3 => .int
  | 4 => .boolean
  | 5 => .int
  | 6 => .int
  | _ => .int
theorem nmX8 : ∀ a, a < 8 → ∀ b, b < 8 → a ≠ b → (TX8 a).2.1 ≠ (TX8 b).2.1 := by decide +kernel
theorem tyX8_ok : ∀ k, k < 8 → parseFieldDescriptor (TX8 k).2.2.1 = some (tyX8 k) := by decide +kernel
abbrev cX8_init : ByteArray := prog_10_method_1_code
def yX8_init : MethodName := ⟨RX8, "<init>", "([ILSquareLate$Told;)V"⟩
abbrev cX8_readAll : ByteArray := prog_10_method_2_code
def yX8_readAll : MethodName := ⟨RX8, "readAll", "(I)I"⟩
abbrev cX8_readItem : ByteArray := prog_10_method_3_code
def yX8_readItem : MethodName := ⟨RX8, "readItem", "()Z"⟩
abbrev cX8_readPerson : ByteArray := prog_10_method_4_code
def yX8_readPerson : MethodName := ⟨RX8, "readPerson", "()Z"⟩
abbrev cX8_readLate : ByteArray := prog_10_method_5_code
def yX8_readLate : MethodName := ⟨RX8, "readLate", "()Z"⟩
abbrev cX8_readCloud : ByteArray := prog_10_method_6_code
def yX8_readCloud : MethodName := ⟨RX8, "readCloud", "()Z"⟩
abbrev cX8_readRule : ByteArray := prog_10_method_7_code
def yX8_readRule : MethodName := ⟨RX8, "readRule", "()Z"⟩
abbrev cX8_readNumber : ByteArray := prog_10_method_8_code
def yX8_readNumber : MethodName := ⟨RX8, "readNumber", "(II)Z"⟩
abbrev cX8_readStop : ByteArray := prog_10_method_9_code
def yX8_readStop : MethodName := ⟨RX8, "readStop", "()Z"⟩
abbrev cX8_nextToken : ByteArray := prog_10_method_10_code
def yX8_nextToken : MethodName := ⟨RX8, "nextToken", "()V"⟩
abbrev cX8_takeLetters : ByteArray := prog_10_method_11_code
def yX8_takeLetters : MethodName := ⟨RX8, "takeLetters", "()V"⟩
abbrev cX8_takeDigits : ByteArray := prog_10_method_12_code
def yX8_takeDigits : MethodName := ⟨RX8, "takeDigits", "()V"⟩
abbrev cX8_isLetter : ByteArray := prog_10_method_13_code
def yX8_isLetter : MethodName := ⟨RX8, "isLetter", "(I)Z"⟩
abbrev cX8_isDigit : ByteArray := prog_10_method_14_code
def yX8_isDigit : MethodName := ⟨RX8, "isDigit", "(I)Z"⟩
def RX9 : String := "SquareLate$Told"
def TX9 : u_T := fun k => match k with
  | 0 => ("SquareLate$Told", "people", "I", false)
  | 1 => ("SquareLate$Told", "clouds", "I", false)
  | 2 => ("SquareLate$Told", "rules", "I", false)
  | 3 => ("SquareLate$Told", "late", "I", false)
  | 4 => ("SquareLate$Told", "heights", "[I", true)
  | 5 => ("SquareLate$Told", "starts", "[I", true)
  | 6 => ("SquareLate$Told", "cloudDays", "[I", true)
  | 7 => ("SquareLate$Told", "giving", "[I", true)
  | _ => ("SquareLate$Told", "given", "[I", true)
def tyX9 : Nat → FieldType := fun k => match k with
  | 0 => .int
  | 1 => .int
  | 2 => .int
  | 3 => .int
  | 4 => .array .int
  | 5 => .array .int
  | 6 => .array .int
  | 7 => .array .int
  | _ => .array .int
theorem nmX9 : ∀ a, a < 9 → ∀ b, b < 9 → a ≠ b → (TX9 a).2.1 ≠ (TX9 b).2.1 := by decide +kernel
theorem tyX9_ok : ∀ k, k < 9 → parseFieldDescriptor (TX9 k).2.2.1 = some (tyX9 k) := by decide +kernel
abbrev cX9_init : ByteArray := prog_11_method_1_code
def yX9_init : MethodName := ⟨RX9, "<init>", "()V"⟩
abbrev cX9_forget : ByteArray := prog_11_method_2_code
def yX9_forget : MethodName := ⟨RX9, "forget", "()V"⟩
abbrev cX9_become : ByteArray := prog_11_method_3_code
def yX9_become : MethodName := ⟨RX9, "become", "(LSquareLate$Told;)V"⟩
abbrev cX9_hasPerson : ByteArray := prog_11_method_4_code
def yX9_hasPerson : MethodName := ⟨RX9, "hasPerson", "(I)Z"⟩
abbrev cX9_areBits : ByteArray := prog_11_method_5_code
def yX9_areBits : MethodName := ⟨RX9, "areBits", "(I)Z"⟩
abbrev cX9_hasCloud : ByteArray := prog_11_method_6_code
def yX9_hasCloud : MethodName := ⟨RX9, "hasCloud", "(I)Z"⟩
abbrev cX9_ofHeight : ByteArray := prog_11_method_7_code
def yX9_ofHeight : MethodName := ⟨RX9, "ofHeight", "(I)I"⟩
abbrev cX9_actsGiving : ByteArray := prog_11_method_8_code
def yX9_actsGiving : MethodName := ⟨RX9, "actsGiving", "(I)I"⟩
abbrev cX9_actsGivenBy : ByteArray := prog_11_method_9_code
def yX9_actsGivenBy : MethodName := ⟨RX9, "actsGivenBy", "(I)I"⟩
abbrev cX9_actsAcross : ByteArray := prog_11_method_10_code
def yX9_actsAcross : MethodName := ⟨RX9, "actsAcross", "(I[I[I)I"⟩
def RX10 : String := "SquareLate$Twice"
def TX10 : u_T := fun k => match k with
  | _ => ("", "", "", false)
def tyX10 : Nat → FieldType := fun k => match k with
  | _ => .int
theorem nmX10 : ∀ a, a < 0 → ∀ b, b < 0 → a ≠ b → (TX10 a).2.1 ≠ (TX10 b).2.1 := by decide +kernel
theorem tyX10_ok : ∀ k, k < 0 → parseFieldDescriptor (TX10 k).2.2.1 = some (tyX10 k) := by decide +kernel
abbrev cX10_init : ByteArray := prog_12_method_1_code
def yX10_init : MethodName := ⟨RX10, "<init>", "()V"⟩
abbrev cX10_worth : ByteArray := prog_12_method_2_code
def yX10_worth : MethodName := ⟨RX10, "worth", "(LSquareLate$Asked;)I"⟩
def RX11 : String := "SquareLate"
def TX11 : u_T := fun k => match k with
  | 0 => ("SquareLate", "text", "[I", true)
  | 1 => ("SquareLate", "length", "I", false)
  | 2 => ("SquareLate", "told", "LSquareLate$Told;", true)
  | 3 => ("SquareLate", "draft", "LSquareLate$Told;", true)
  | 4 => ("SquareLate", "reader", "LSquareLate$Reader;", true)
  | 5 => ("SquareLate", "present", "LSquareLate$Now;", true)
  | 6 => ("SquareLate", "images", "[LSquareLate$Now;", true)
  | 7 => ("SquareLate", "kept", "[Z", true)
  | 8 => ("SquareLate", "claims", "LSquareLate$Claims;", true)
  | 9 => ("SquareLate", "asked", "LSquareLate$Asked;", true)
  | _ => ("SquareLate", "kinds", "[LSquareLate$Plain;", true)
def tyX11 : Nat → FieldType := fun k => match k with
  | 0 => .array .int
  | 1 => .int
  | 2 => .object "SquareLate$Told"
  | 3 => .object "SquareLate$Told"
  | 4 => .object "SquareLate$Reader"
  | 5 => .object "SquareLate$Now"
  | 6 => .array (.object "SquareLate$Now")
  | 7 => .array .boolean
  | 8 => .object "SquareLate$Claims"
  | 9 => .object "SquareLate$Asked"
  | _ => .array (.object "SquareLate$Plain")
theorem nmX11 : ∀ a, a < 11 → ∀ b, b < 11 → a ≠ b → (TX11 a).2.1 ≠ (TX11 b).2.1 := by decide +kernel
theorem tyX11_ok : ∀ k, k < 11 → parseFieldDescriptor (TX11 k).2.2.1 = some (tyX11 k) := by decide +kernel
abbrev cX11_init : ByteArray := prog_1_method_1_code
def yX11_init : MethodName := ⟨RX11, "<init>", "()V"⟩
abbrev cX11_type : ByteArray := prog_1_method_2_code
def yX11_type : MethodName := ⟨RX11, "type", "(I)I"⟩
abbrev cX11_clear : ByteArray := prog_1_method_3_code
def yX11_clear : MethodName := ⟨RX11, "clear", "()I"⟩
abbrev cX11_square : ByteArray := prog_1_method_4_code
def yX11_square : MethodName := ⟨RX11, "square", "()I"⟩
abbrev cX11_person : ByteArray := prog_1_method_5_code
def yX11_person : MethodName := ⟨RX11, "person", "(II)I"⟩
abbrev cX11_cell : ByteArray := prog_1_method_6_code
def yX11_cell : MethodName := ⟨RX11, "cell", "(II)I"⟩
abbrev cX11_now : ByteArray := prog_1_method_7_code
def yX11_now : MethodName := ⟨RX11, "now", "(I)I"⟩
abbrev cX11_walk : ByteArray := prog_1_method_8_code
def yX11_walk : MethodName := ⟨RX11, "walk", "(II)I"⟩
abbrev cX11_die : ByteArray := prog_1_method_9_code
def yX11_die : MethodName := ⟨RX11, "die", "(I)I"⟩
abbrev cX11_smoke : ByteArray := prog_1_method_10_code
def yX11_smoke : MethodName := ⟨RX11, "smoke", "(II)I"⟩
abbrev cX11_deed : ByteArray := prog_1_method_11_code
def yX11_deed : MethodName := ⟨RX11, "deed", "(II)I"⟩
abbrev cX11_day : ByteArray := prog_1_method_12_code
def yX11_day : MethodName := ⟨RX11, "day", "()I"⟩
abbrev cX11_undo : ByteArray := prog_1_method_13_code
def yX11_undo : MethodName := ⟨RX11, "undo", "()I"⟩
abbrev cX11_done : ByteArray := prog_1_method_14_code
def yX11_done : MethodName := ⟨RX11, "done", "(II)I"⟩
abbrev cX11_counts : ByteArray := prog_1_method_15_code
def yX11_counts : MethodName := ⟨RX11, "counts", "(I)I"⟩
abbrev cX11_holder : ByteArray := prog_1_method_16_code
def yX11_holder : MethodName := ⟨RX11, "holder", "(II)I"⟩
abbrev cX11_round : ByteArray := prog_1_method_17_code
def yX11_round : MethodName := ⟨RX11, "round", "()I"⟩
abbrev cX11_votes : ByteArray := prog_1_method_18_code
def yX11_votes : MethodName := ⟨RX11, "votes", "(I)I"⟩
abbrev cX11_nearer : ByteArray := prog_1_method_19_code
def yX11_nearer : MethodName := ⟨RX11, "nearer", "(II)I"⟩
abbrev cX11_hide : ByteArray := prog_1_method_20_code
def yX11_hide : MethodName := ⟨RX11, "hide", "(III)I"⟩
abbrev cX11_blocks : ByteArray := prog_1_method_21_code
def yX11_blocks : MethodName := ⟨RX11, "blocks", "(II)I"⟩
abbrev cX11_hides : ByteArray := prog_1_method_22_code
def yX11_hides : MethodName := ⟨RX11, "hides", "(I)I"⟩
abbrev cX11_odds : ByteArray := prog_1_method_23_code
def yX11_odds : MethodName := ⟨RX11, "odds", "(III)J"⟩
abbrev cX11_often : ByteArray := prog_1_method_24_code
def yX11_often : MethodName := ⟨RX11, "often", "(II)I"⟩
abbrev cX11_stood : ByteArray := prog_1_method_25_code
def yX11_stood : MethodName := ⟨RX11, "stood", "(II)I"⟩
abbrev cX11_days : ByteArray := prog_1_method_26_code
def yX11_days : MethodName := ⟨RX11, "days", "(II)I"⟩
abbrev cX11_together : ByteArray := prog_1_method_27_code
def yX11_together : MethodName := ⟨RX11, "together", "(I)I"⟩
abbrev cX11_mark : ByteArray := prog_1_method_28_code
def yX11_mark : MethodName := ⟨RX11, "mark", "(II)I"⟩
abbrev cX11_keep : ByteArray := prog_1_method_29_code
def yX11_keep : MethodName := ⟨RX11, "keep", "(I)I"⟩
abbrev cX11_back : ByteArray := prog_1_method_30_code
def yX11_back : MethodName := ⟨RX11, "back", "(I)I"⟩
abbrev cX11_count : ByteArray := prog_1_method_31_code
def yX11_count : MethodName := ⟨RX11, "count", "(I)I"⟩
abbrev cX11_trace : ByteArray := prog_1_method_32_code
def yX11_trace : MethodName := ⟨RX11, "trace", "()J"⟩
abbrev cX11_isBeyond : ByteArray := prog_1_method_33_code
def yX11_isBeyond : MethodName := ⟨RX11, "isBeyond", "(II)Z"⟩
abbrev cX11_isInSquare : ByteArray := prog_1_method_34_code
def yX11_isInSquare : MethodName := ⟨RX11, "isInSquare", "(I)Z"⟩
abbrev cX11_bit : ByteArray := prog_1_method_35_code
def yX11_bit : MethodName := ⟨RX11, "bit", "(II)I"⟩
abbrev cX11_power : ByteArray := prog_1_method_36_code
def yX11_power : MethodName := ⟨RX11, "power", "(II)J"⟩
abbrev cX11_commonDivisor : ByteArray := prog_1_method_37_code
def yX11_commonDivisor : MethodName := ⟨RX11, "commonDivisor", "(JJ)J"⟩
def RX12 : String := "SquareLateModel"
def TX12 : u_T := fun k => match k with
  | 0 => ("SquareLateModel", "trace", "J", false)
  | 1 => ("SquareLateModel", "text", "[I", true)
  | 2 => ("SquareLateModel", "typed", "I", false)
  | 3 => ("SquareLateModel", "told", "[I", true)
  | 4 => ("SquareLateModel", "draft", "[I", true)
  | 5 => ("SquareLateModel", "s", "[I", true)
  | 6 => ("SquareLateModel", "images", "[I", true)
  | 7 => ("SquareLateModel", "kept", "[Z", true)
  | 8 => ("SquareLateModel", "at", "I", false)
  | 9 => ("SquareLateModel", "sort", "I", false)
  | 10 => ("SquareLateModel", "start", "I", false)
  | 11 => ("SquareLateModel", "value", "I", false)
  | _ => ("SquareLateModel", "ways", "[I", true)
def tyX12 : Nat → FieldType := fun k => match k with
  | 0 => .long
  | 1 => .array .int
  | 2 => .int
  | 3 => .array .int
  | 4 => .array .int
  | 5 => .array .int
  | 6 => .array .int
  | 7 => .array .boolean
  | 8 => .int
  | 9 => .int
  | 10 => .int
  | 11 => .int
  | _ => .array .int
theorem nmX12 : ∀ a, a < 13 → ∀ b, b < 13 → a ≠ b → (TX12 a).2.1 ≠ (TX12 b).2.1 := by decide +kernel
theorem tyX12_ok : ∀ k, k < 13 → parseFieldDescriptor (TX12 k).2.2.1 = some (tyX12 k) := by decide +kernel
abbrev cX12_init : ByteArray := prog_14_method_1_code
def yX12_init : MethodName := ⟨RX12, "<init>", "()V"⟩
abbrev cX12_in : ByteArray := prog_14_method_3_code
def yX12_in : MethodName := ⟨RX12, "in", "(III)Z"⟩
abbrev cX12_isPerson : ByteArray := prog_14_method_4_code
def yX12_isPerson : MethodName := ⟨RX12, "isPerson", "(I)Z"⟩
abbrev cX12_isPeople : ByteArray := prog_14_method_5_code
def yX12_isPeople : MethodName := ⟨RX12, "isPeople", "(I)Z"⟩
abbrev cX12_type : ByteArray := prog_14_method_6_code
def yX12_type : MethodName := ⟨RX12, "type", "(I)I"⟩
abbrev cX12_clear : ByteArray := prog_14_method_7_code
def yX12_clear : MethodName := ⟨RX12, "clear", "()I"⟩
abbrev cX12_byteAt : ByteArray := prog_14_method_8_code
def yX12_byteAt : MethodName := ⟨RX12, "byteAt", "(I)I"⟩
abbrev cX12_isLetter : ByteArray := prog_14_method_9_code
def yX12_isLetter : MethodName := ⟨RX12, "isLetter", "(I)Z"⟩
abbrev cX12_isDigit : ByteArray := prog_14_method_10_code
def yX12_isDigit : MethodName := ⟨RX12, "isDigit", "(I)Z"⟩
abbrev cX12_token : ByteArray := prog_14_method_11_code
def yX12_token : MethodName := ⟨RX12, "token", "()V"⟩
abbrev cX12_number : ByteArray := prog_14_method_12_code
def yX12_number : MethodName := ⟨RX12, "number", "(III)Z"⟩
abbrev cX12_readsPerson : ByteArray := prog_14_method_13_code
def yX12_readsPerson : MethodName := ⟨RX12, "readsPerson", "()Z"⟩
abbrev cX12_readsLate : ByteArray := prog_14_method_14_code
def yX12_readsLate : MethodName := ⟨RX12, "readsLate", "()Z"⟩
abbrev cX12_readsCloud : ByteArray := prog_14_method_15_code
def yX12_readsCloud : MethodName := ⟨RX12, "readsCloud", "()Z"⟩
abbrev cX12_readsRule : ByteArray := prog_14_method_16_code
def yX12_readsRule : MethodName := ⟨RX12, "readsRule", "()Z"⟩
abbrev cX12_readsItem : ByteArray := prog_14_method_17_code
def yX12_readsItem : MethodName := ⟨RX12, "readsItem", "()Z"⟩
abbrev cX12_reads : ByteArray := prog_14_method_18_code
def yX12_reads : MethodName := ⟨RX12, "reads", "()Z"⟩
abbrev cX12_tells : ByteArray := prog_14_method_19_code
def yX12_tells : MethodName := ⟨RX12, "tells", "()V"⟩
abbrev cX12_square : ByteArray := prog_14_method_20_code
def yX12_square : MethodName := ⟨RX12, "square", "()I"⟩
abbrev cX12_isCloud : ByteArray := prog_14_method_21_code
def yX12_isCloud : MethodName := ⟨RX12, "isCloud", "(I)Z"⟩
abbrev cX12_isBare : ByteArray := prog_14_method_22_code
def yX12_isBare : MethodName := ⟨RX12, "isBare", "(III)Z"⟩
abbrev cX12_isSeen : ByteArray := prog_14_method_23_code
def yX12_isSeen : MethodName := ⟨RX12, "isSeen", "(I)Z"⟩
abbrev cX12_seenNow : ByteArray := prog_14_method_24_code
def yX12_seenNow : MethodName := ⟨RX12, "seenNow", "()I"⟩
abbrev cX12_person : ByteArray := prog_14_method_25_code
def yX12_person : MethodName := ⟨RX12, "person", "(II)I"⟩
abbrev cX12_cell : ByteArray := prog_14_method_26_code
def yX12_cell : MethodName := ⟨RX12, "cell", "(II)I"⟩
abbrev cX12_now : ByteArray := prog_14_method_27_code
def yX12_now : MethodName := ⟨RX12, "now", "(I)I"⟩
abbrev cX12_keeps : ByteArray := prog_14_method_28_code
def yX12_keeps : MethodName := ⟨RX12, "keeps", "()V"⟩
abbrev cX12_walk : ByteArray := prog_14_method_29_code
def yX12_walk : MethodName := ⟨RX12, "walk", "(II)I"⟩
abbrev cX12_die : ByteArray := prog_14_method_30_code
def yX12_die : MethodName := ⟨RX12, "die", "(I)I"⟩
abbrev cX12_smoke : ByteArray := prog_14_method_31_code
def yX12_smoke : MethodName := ⟨RX12, "smoke", "(II)I"⟩
abbrev cX12_ones : ByteArray := prog_14_method_32_code
def yX12_ones : MethodName := ⟨RX12, "ones", "(I)I"⟩
abbrev cX12_deed : ByteArray := prog_14_method_33_code
def yX12_deed : MethodName := ⟨RX12, "deed", "(II)I"⟩
abbrev cX12_day : ByteArray := prog_14_method_34_code
def yX12_day : MethodName := ⟨RX12, "day", "()I"⟩
abbrev cX12_undo : ByteArray := prog_14_method_35_code
def yX12_undo : MethodName := ⟨RX12, "undo", "()I"⟩
abbrev cX12_isDeed : ByteArray := prog_14_method_36_code
def yX12_isDeed : MethodName := ⟨RX12, "isDeed", "(I)Z"⟩
abbrev cX12_done : ByteArray := prog_14_method_37_code
def yX12_done : MethodName := ⟨RX12, "done", "(II)I"⟩
abbrev cX12_counts : ByteArray := prog_14_method_38_code
def yX12_counts : MethodName := ⟨RX12, "counts", "(I)I"⟩
abbrev cX12_ownHolder : ByteArray := prog_14_method_39_code
def yX12_ownHolder : MethodName := ⟨RX12, "ownHolder", "(III)I"⟩
abbrev cX12_laysWays : ByteArray := prog_14_method_40_code
def yX12_laysWays : MethodName := ⟨RX12, "laysWays", "(I)V"⟩
abbrev cX12_holderBy : ByteArray := prog_14_method_41_code
def yX12_holderBy : MethodName := ⟨RX12, "holderBy", "(III)I"⟩
abbrev cX12_holder : ByteArray := prog_14_method_42_code
def yX12_holder : MethodName := ⟨RX12, "holder", "(II)I"⟩
abbrev cX12_round : ByteArray := prog_14_method_43_code
def yX12_round : MethodName := ⟨RX12, "round", "()I"⟩
abbrev cX12_votes : ByteArray := prog_14_method_44_code
def yX12_votes : MethodName := ⟨RX12, "votes", "(I)I"⟩
abbrev cX12_nearer : ByteArray := prog_14_method_45_code
def yX12_nearer : MethodName := ⟨RX12, "nearer", "(II)I"⟩
abbrev cX12_hide : ByteArray := prog_14_method_46_code
def yX12_hide : MethodName := ⟨RX12, "hide", "(III)I"⟩
abbrev cX12_blocks : ByteArray := prog_14_method_47_code
def yX12_blocks : MethodName := ⟨RX12, "blocks", "(II)I"⟩
abbrev cX12_hides : ByteArray := prog_14_method_48_code
def yX12_hides : MethodName := ⟨RX12, "hides", "(I)I"⟩
abbrev cX12_power : ByteArray := prog_14_method_49_code
def yX12_power : MethodName := ⟨RX12, "power", "(JI)J"⟩
abbrev cX12_odds : ByteArray := prog_14_method_50_code
def yX12_odds : MethodName := ⟨RX12, "odds", "(III)J"⟩
abbrev cX12_often : ByteArray := prog_14_method_51_code
def yX12_often : MethodName := ⟨RX12, "often", "(II)I"⟩
abbrev cX12_stood : ByteArray := prog_14_method_52_code
def yX12_stood : MethodName := ⟨RX12, "stood", "(II)I"⟩
abbrev cX12_days : ByteArray := prog_14_method_53_code
def yX12_days : MethodName := ⟨RX12, "days", "(II)I"⟩
abbrev cX12_together : ByteArray := prog_14_method_54_code
def yX12_together : MethodName := ⟨RX12, "together", "(I)I"⟩
abbrev cX12_mark : ByteArray := prog_14_method_55_code
def yX12_mark : MethodName := ⟨RX12, "mark", "(II)I"⟩
abbrev cX12_keep : ByteArray := prog_14_method_56_code
def yX12_keep : MethodName := ⟨RX12, "keep", "(I)I"⟩
abbrev cX12_back : ByteArray := prog_14_method_57_code
def yX12_back : MethodName := ⟨RX12, "back", "(I)I"⟩
abbrev cX12_count : ByteArray := prog_14_method_58_code
def yX12_count : MethodName := ⟨RX12, "count", "(I)I"⟩
abbrev cX12_trace : ByteArray := prog_14_method_59_code
def yX12_trace : MethodName := ⟨RX12, "trace", "()J"⟩
def RJ6 : String := "java/lang/Integer"
def TJ6 : u_T := fun k => match k with
  | _ => ("", "", "", false)
def tyJ6 : Nat → FieldType := fun k => match k with
  | _ => .int
abbrev cJ6_bitCount_0f7a4 : ByteArray := prog_15_method_49_code
def yJ6_bitCount_0f7a4 : MethodName := ⟨RJ6, "bitCount", "(I)I"⟩
def RJ9 : String := "java/lang/Math"
def TJ9 : u_T := fun k => match k with
  | _ => ("", "", "", false)
def tyJ9 : Nat → FieldType := fun k => match k with
  | _ => .int
abbrev cJ9_max_7cf53 : ByteArray := prog_16_method_65_code
def yJ9_max_7cf53 : MethodName := ⟨RJ9, "max", "(II)I"⟩
abbrev cJ9_max_f86c9 : ByteArray := prog_16_method_66_code
def yJ9_max_f86c9 : MethodName := ⟨RJ9, "max", "(JJ)J"⟩
abbrev cJ9_min_7cf53 : ByteArray := prog_16_method_69_code
def yJ9_min_7cf53 : MethodName := ⟨RJ9, "min", "(II)I"⟩
def RJ10 : String := "java/lang/System"
def TJ10 : u_T := fun k => match k with
  | _ => ("", "", "", false)
def tyJ10 : Nat → FieldType := fun k => match k with
  | _ => .int
abbrev vwCl : List vw_C := [(RX0, TX0, 4), (RX1, TX1, 2), (RX2, TX2, 0), (RX3, TX3, 0), (RX4, TX4, 0), (RX5, TX5, 9), (RX6, TX6, 0), (RX7, TX7, 0), (RX8, TX8, 8), (RX9, TX9, 9), (RX10, TX10, 0), (RX11, TX11, 11), (RX12, TX12, 13)]
def mX0_init : Nat × MethodName × ByteArray × Nat × Option FieldType := (0, yX0_init, cX0_init, 3, none)
def mX5_ofDeed : Nat × MethodName × ByteArray × Nat × Option FieldType := (5, yX5_ofDeed, cX5_ofDeed, 3, (some .int))
def mX0_get : Nat × MethodName × ByteArray × Nat × Option FieldType := (0, yX0_get, cX0_get, 2, (some .int))
def mX1_init : Nat × MethodName × ByteArray × Nat × Option FieldType := (1, yX1_init, cX1_init, 3, none)
def mX11_bit : Nat × MethodName × ByteArray × Nat × Option FieldType := (11, yX11_bit, cX11_bit, 2, (some .int))
def mX1_lastDoer : Nat × MethodName × ByteArray × Nat × Option FieldType := (1, yX1_lastDoer, cX1_lastDoer, 6, (some .int))
def mX1_leastActsDoer : Nat × MethodName × ByteArray × Nat × Option FieldType := (1, yX1_leastActsDoer, cX1_leastActsDoer, 6, (some .int))
def mX9_actsAcross : Nat × MethodName × ByteArray × Nat × Option FieldType := (9, yX9_actsAcross, cX9_actsAcross, 6, (some .int))
def mX9_actsGiving : Nat × MethodName × ByteArray × Nat × Option FieldType := (9, yX9_actsGiving, cX9_actsGiving, 2, (some .int))
def mX1_whoHolds : Nat × MethodName × ByteArray × Nat × Option FieldType := (1, yX1_whoHolds, cX1_whoHolds, 8, (some .int))
def mX9_actsGivenBy : Nat × MethodName × ByteArray × Nat × Option FieldType := (9, yX9_actsGivenBy, cX9_actsGivenBy, 2, (some .int))
def mX1_comesBack : Nat × MethodName × ByteArray × Nat × Option FieldType := (1, yX1_comesBack, cX1_comesBack, 4, (some .boolean))
def mX6_init : Nat × MethodName × ByteArray × Nat × Option FieldType := (6, yX6_init, cX6_init, 1, none)
def mX3_init : Nat × MethodName × ByteArray × Nat × Option FieldType := (3, yX3_init, cX3_init, 1, none)
def mX2_init : Nat × MethodName × ByteArray × Nat × Option FieldType := (2, yX2_init, cX2_init, 1, none)
def mX6_worth : Nat × MethodName × ByteArray × Nat × Option FieldType := (6, yX6_worth, cX6_worth, 2, (some .int))
def mX3_worth : Nat × MethodName × ByteArray × Nat × Option FieldType := (3, yX3_worth, cX3_worth, 2, (some .int))
def mX2_worth : Nat × MethodName × ByteArray × Nat × Option FieldType := (2, yX2_worth, cX2_worth, 2, (some .int))
def mX7_init : Nat × MethodName × ByteArray × Nat × Option FieldType := (7, yX7_init, cX7_init, 1, none)
def mX4_init : Nat × MethodName × ByteArray × Nat × Option FieldType := (4, yX4_init, cX4_init, 1, none)
def mX7_worth : Nat × MethodName × ByteArray × Nat × Option FieldType := (7, yX7_worth, cX7_worth, 2, (some .int))
def mX4_worth : Nat × MethodName × ByteArray × Nat × Option FieldType := (4, yX4_worth, cX4_worth, 2, (some .int))
def mX5_init : Nat × MethodName × ByteArray × Nat × Option FieldType := (5, yX5_init, cX5_init, 2, none)
def mX5_begin : Nat × MethodName × ByteArray × Nat × Option FieldType := (5, yX5_begin, cX5_begin, 1, none)
def mX5_become : Nat × MethodName × ByteArray × Nat × Option FieldType := (5, yX5_become, cX5_become, 2, none)
def mX5_remember : Nat × MethodName × ByteArray × Nat × Option FieldType := (5, yX5_remember, cX5_remember, 5, none)
def mX5_move : Nat × MethodName × ByteArray × Nat × Option FieldType := (5, yX5_move, cX5_move, 4, (some .int))
def mX5_turnSmoke : Nat × MethodName × ByteArray × Nat × Option FieldType := (5, yX5_turnSmoke, cX5_turnSmoke, 2, none)
def mX9_hasCloud : Nat × MethodName × ByteArray × Nat × Option FieldType := (9, yX9_hasCloud, cX9_hasCloud, 3, (some .boolean))
def mX11_isInSquare : Nat × MethodName × ByteArray × Nat × Option FieldType := (11, yX11_isInSquare, cX11_isInSquare, 1, (some .boolean))
def mX5_isInSmoke : Nat × MethodName × ByteArray × Nat × Option FieldType := (5, yX5_isInSmoke, cX5_isInSmoke, 3, (some .boolean))
def mX5_isAhead : Nat × MethodName × ByteArray × Nat × Option FieldType := (5, yX5_isAhead, cX5_isAhead, 2, (some .boolean))
def mX5_shows : Nat × MethodName × ByteArray × Nat × Option FieldType := (5, yX5_shows, cX5_shows, 7, (some .boolean))
def mX5_shownIf : Nat × MethodName × ByteArray × Nat × Option FieldType := (5, yX5_shownIf, cX5_shownIf, 5, (some .int))
def mX5_shown : Nat × MethodName × ByteArray × Nat × Option FieldType := (5, yX5_shown, cX5_shown, 1, (some .int))
def mX5_seen : Nat × MethodName × ByteArray × Nat × Option FieldType := (5, yX5_seen, cX5_seen, 1, (some .int))
def mX5_act : Nat × MethodName × ByteArray × Nat × Option FieldType := (5, yX5_act, cX5_act, 5, (some .int))
def mX5_passDay : Nat × MethodName × ByteArray × Nat × Option FieldType := (5, yX5_passDay, cX5_passDay, 1, none)
def mX5_takeBack : Nat × MethodName × ByteArray × Nat × Option FieldType := (5, yX5_takeBack, cX5_takeBack, 3, none)
def mX5_hasDeed : Nat × MethodName × ByteArray × Nat × Option FieldType := (5, yX5_hasDeed, cX5_hasDeed, 2, (some .boolean))
def mX5_deedsOfAct : Nat × MethodName × ByteArray × Nat × Option FieldType := (5, yX5_deedsOfAct, cX5_deedsOfAct, 4, (some .int))
def mX5_keptOn : Nat × MethodName × ByteArray × Nat × Option FieldType := (5, yX5_keptOn, cX5_keptOn, 2, (some .int))
def mX5_daysKept : Nat × MethodName × ByteArray × Nat × Option FieldType := (5, yX5_daysKept, cX5_daysKept, 4, (some .int))
def mX5_firstDayKept : Nat × MethodName × ByteArray × Nat × Option FieldType := (5, yX5_firstDayKept, cX5_firstDayKept, 3, (some .int))
def mX5_lastDayKept : Nat × MethodName × ByteArray × Nat × Option FieldType := (5, yX5_lastDayKept, cX5_lastDayKept, 3, (some .int))
def mX5_peopleIn : Nat × MethodName × ByteArray × Nat × Option FieldType := (5, yX5_peopleIn, cX5_peopleIn, 4, (some .int))
def mX5_nearestRow : Nat × MethodName × ByteArray × Nat × Option FieldType := (5, yX5_nearestRow, cX5_nearestRow, 5, (some .int))
def mX5_farthestRow : Nat × MethodName × ByteArray × Nat × Option FieldType := (5, yX5_farthestRow, cX5_farthestRow, 5, (some .int))
def mX5_leastSmoke : Nat × MethodName × ByteArray × Nat × Option FieldType := (5, yX5_leastSmoke, cX5_leastSmoke, 8, (some .int))
def mX8_init : Nat × MethodName × ByteArray × Nat × Option FieldType := (8, yX8_init, cX8_init, 3, none)
def mX9_forget : Nat × MethodName × ByteArray × Nat × Option FieldType := (9, yX9_forget, cX9_forget, 1, none)
def mX8_isLetter : Nat × MethodName × ByteArray × Nat × Option FieldType := (8, yX8_isLetter, cX8_isLetter, 1, (some .boolean))
def mX8_takeLetters : Nat × MethodName × ByteArray × Nat × Option FieldType := (8, yX8_takeLetters, cX8_takeLetters, 1, none)
def mX8_isDigit : Nat × MethodName × ByteArray × Nat × Option FieldType := (8, yX8_isDigit, cX8_isDigit, 1, (some .boolean))
def mX8_takeDigits : Nat × MethodName × ByteArray × Nat × Option FieldType := (8, yX8_takeDigits, cX8_takeDigits, 3, none)
def mX8_nextToken : Nat × MethodName × ByteArray × Nat × Option FieldType := (8, yX8_nextToken, cX8_nextToken, 1, none)
def mX8_readNumber : Nat × MethodName × ByteArray × Nat × Option FieldType := (8, yX8_readNumber, cX8_readNumber, 3, (some .boolean))
def mX8_readStop : Nat × MethodName × ByteArray × Nat × Option FieldType := (8, yX8_readStop, cX8_readStop, 1, (some .boolean))
def mX8_readPerson : Nat × MethodName × ByteArray × Nat × Option FieldType := (8, yX8_readPerson, cX8_readPerson, 2, (some .boolean))
def mX8_readLate : Nat × MethodName × ByteArray × Nat × Option FieldType := (8, yX8_readLate, cX8_readLate, 1, (some .boolean))
def mX8_readCloud : Nat × MethodName × ByteArray × Nat × Option FieldType := (8, yX8_readCloud, cX8_readCloud, 2, (some .boolean))
def mX8_readRule : Nat × MethodName × ByteArray × Nat × Option FieldType := (8, yX8_readRule, cX8_readRule, 2, (some .boolean))
def mX8_readItem : Nat × MethodName × ByteArray × Nat × Option FieldType := (8, yX8_readItem, cX8_readItem, 1, (some .boolean))
def mX8_readAll : Nat × MethodName × ByteArray × Nat × Option FieldType := (8, yX8_readAll, cX8_readAll, 4, (some .int))
def mX9_init : Nat × MethodName × ByteArray × Nat × Option FieldType := (9, yX9_init, cX9_init, 1, none)
def mX9_become : Nat × MethodName × ByteArray × Nat × Option FieldType := (9, yX9_become, cX9_become, 2, none)
def mX9_hasPerson : Nat × MethodName × ByteArray × Nat × Option FieldType := (9, yX9_hasPerson, cX9_hasPerson, 2, (some .boolean))
def mX9_areBits : Nat × MethodName × ByteArray × Nat × Option FieldType := (9, yX9_areBits, cX9_areBits, 2, (some .boolean))
def mX9_ofHeight : Nat × MethodName × ByteArray × Nat × Option FieldType := (9, yX9_ofHeight, cX9_ofHeight, 4, (some .int))
def mX10_init : Nat × MethodName × ByteArray × Nat × Option FieldType := (10, yX10_init, cX10_init, 1, none)
def mX10_worth : Nat × MethodName × ByteArray × Nat × Option FieldType := (10, yX10_worth, cX10_worth, 2, (some .int))
def mX11_init : Nat × MethodName × ByteArray × Nat × Option FieldType := (11, yX11_init, cX11_init, 1, none)
def mX11_isBeyond : Nat × MethodName × ByteArray × Nat × Option FieldType := (11, yX11_isBeyond, cX11_isBeyond, 2, (some .boolean))
def mX11_type : Nat × MethodName × ByteArray × Nat × Option FieldType := (11, yX11_type, cX11_type, 2, (some .int))
def mX11_clear : Nat × MethodName × ByteArray × Nat × Option FieldType := (11, yX11_clear, cX11_clear, 2, (some .int))
def mX11_square : Nat × MethodName × ByteArray × Nat × Option FieldType := (11, yX11_square, cX11_square, 3, (some .int))
def mX11_person : Nat × MethodName × ByteArray × Nat × Option FieldType := (11, yX11_person, cX11_person, 3, (some .int))
def mX11_cell : Nat × MethodName × ByteArray × Nat × Option FieldType := (11, yX11_cell, cX11_cell, 3, (some .int))
def mX11_now : Nat × MethodName × ByteArray × Nat × Option FieldType := (11, yX11_now, cX11_now, 2, (some .int))
def mX11_walk : Nat × MethodName × ByteArray × Nat × Option FieldType := (11, yX11_walk, cX11_walk, 3, (some .int))
def mX11_die : Nat × MethodName × ByteArray × Nat × Option FieldType := (11, yX11_die, cX11_die, 2, (some .int))
def mJ6_bitCount_0f7a4 : Nat × MethodName × ByteArray × Nat × Option FieldType := (13, yJ6_bitCount_0f7a4, cJ6_bitCount_0f7a4, 1, (some .int))
def mX11_smoke : Nat × MethodName × ByteArray × Nat × Option FieldType := (11, yX11_smoke, cX11_smoke, 3, (some .int))
def mX11_deed : Nat × MethodName × ByteArray × Nat × Option FieldType := (11, yX11_deed, cX11_deed, 3, (some .int))
def mX11_day : Nat × MethodName × ByteArray × Nat × Option FieldType := (11, yX11_day, cX11_day, 1, (some .int))
def mX11_undo : Nat × MethodName × ByteArray × Nat × Option FieldType := (11, yX11_undo, cX11_undo, 1, (some .int))
def mX11_done : Nat × MethodName × ByteArray × Nat × Option FieldType := (11, yX11_done, cX11_done, 3, (some .int))
def mX11_counts : Nat × MethodName × ByteArray × Nat × Option FieldType := (11, yX11_counts, cX11_counts, 2, (some .int))
def mX11_holder : Nat × MethodName × ByteArray × Nat × Option FieldType := (11, yX11_holder, cX11_holder, 3, (some .int))
def mX11_round : Nat × MethodName × ByteArray × Nat × Option FieldType := (11, yX11_round, cX11_round, 2, (some .int))
def mX11_votes : Nat × MethodName × ByteArray × Nat × Option FieldType := (11, yX11_votes, cX11_votes, 2, (some .int))
def mX11_nearer : Nat × MethodName × ByteArray × Nat × Option FieldType := (11, yX11_nearer, cX11_nearer, 5, (some .int))
def mX11_hide : Nat × MethodName × ByteArray × Nat × Option FieldType := (11, yX11_hide, cX11_hide, 5, (some .int))
def mX11_blocks : Nat × MethodName × ByteArray × Nat × Option FieldType := (11, yX11_blocks, cX11_blocks, 5, (some .int))
def mX11_hides : Nat × MethodName × ByteArray × Nat × Option FieldType := (11, yX11_hides, cX11_hides, 2, (some .int))
def mX11_power : Nat × MethodName × ByteArray × Nat × Option FieldType := (11, yX11_power, cX11_power, 5, (some .long))
def mX11_commonDivisor : Nat × MethodName × ByteArray × Nat × Option FieldType := (11, yX11_commonDivisor, cX11_commonDivisor, 11, (some .long))
def mX11_odds : Nat × MethodName × ByteArray × Nat × Option FieldType := (11, yX11_odds, cX11_odds, 10, (some .long))
def mX11_often : Nat × MethodName × ByteArray × Nat × Option FieldType := (11, yX11_often, cX11_often, 6, (some .int))
def mX11_stood : Nat × MethodName × ByteArray × Nat × Option FieldType := (11, yX11_stood, cX11_stood, 3, (some .int))
def mX11_days : Nat × MethodName × ByteArray × Nat × Option FieldType := (11, yX11_days, cX11_days, 3, (some .int))
def mX11_together : Nat × MethodName × ByteArray × Nat × Option FieldType := (11, yX11_together, cX11_together, 2, (some .int))
def mX11_mark : Nat × MethodName × ByteArray × Nat × Option FieldType := (11, yX11_mark, cX11_mark, 3, (some .int))
def mX11_keep : Nat × MethodName × ByteArray × Nat × Option FieldType := (11, yX11_keep, cX11_keep, 2, (some .int))
def mX11_back : Nat × MethodName × ByteArray × Nat × Option FieldType := (11, yX11_back, cX11_back, 2, (some .int))
def mX11_count : Nat × MethodName × ByteArray × Nat × Option FieldType := (11, yX11_count, cX11_count, 2, (some .int))
def mX11_trace : Nat × MethodName × ByteArray × Nat × Option FieldType := (11, yX11_trace, cX11_trace, 1, (some .long))
def mX12_byteAt : Nat × MethodName × ByteArray × Nat × Option FieldType := (12, yX12_byteAt, cX12_byteAt, 2, (some .int))
def mX12_in : Nat × MethodName × ByteArray × Nat × Option FieldType := (12, yX12_in, cX12_in, 3, (some .boolean))
def mX12_isLetter : Nat × MethodName × ByteArray × Nat × Option FieldType := (12, yX12_isLetter, cX12_isLetter, 1, (some .boolean))
def mX12_isDigit : Nat × MethodName × ByteArray × Nat × Option FieldType := (12, yX12_isDigit, cX12_isDigit, 1, (some .boolean))
def mX12_token : Nat × MethodName × ByteArray × Nat × Option FieldType := (12, yX12_token, cX12_token, 2, none)
def mX12_number : Nat × MethodName × ByteArray × Nat × Option FieldType := (12, yX12_number, cX12_number, 4, (some .boolean))
def mX12_readsPerson : Nat × MethodName × ByteArray × Nat × Option FieldType := (12, yX12_readsPerson, cX12_readsPerson, 2, (some .boolean))
def mX12_readsLate : Nat × MethodName × ByteArray × Nat × Option FieldType := (12, yX12_readsLate, cX12_readsLate, 1, (some .boolean))
def mX12_readsCloud : Nat × MethodName × ByteArray × Nat × Option FieldType := (12, yX12_readsCloud, cX12_readsCloud, 4, (some .boolean))
def mX12_readsRule : Nat × MethodName × ByteArray × Nat × Option FieldType := (12, yX12_readsRule, cX12_readsRule, 3, (some .boolean))
def mX12_readsItem : Nat × MethodName × ByteArray × Nat × Option FieldType := (12, yX12_readsItem, cX12_readsItem, 2, (some .boolean))
def mX12_reads : Nat × MethodName × ByteArray × Nat × Option FieldType := (12, yX12_reads, cX12_reads, 2, (some .boolean))
def mX12_tells : Nat × MethodName × ByteArray × Nat × Option FieldType := (12, yX12_tells, cX12_tells, 2, none)
def mX12_init : Nat × MethodName × ByteArray × Nat × Option FieldType := (12, yX12_init, cX12_init, 1, none)
def mX12_isPerson : Nat × MethodName × ByteArray × Nat × Option FieldType := (12, yX12_isPerson, cX12_isPerson, 2, (some .boolean))
def mX12_isPeople : Nat × MethodName × ByteArray × Nat × Option FieldType := (12, yX12_isPeople, cX12_isPeople, 2, (some .boolean))
def mX12_type : Nat × MethodName × ByteArray × Nat × Option FieldType := (12, yX12_type, cX12_type, 2, (some .int))
def mX12_clear : Nat × MethodName × ByteArray × Nat × Option FieldType := (12, yX12_clear, cX12_clear, 2, (some .int))
def mX12_square : Nat × MethodName × ByteArray × Nat × Option FieldType := (12, yX12_square, cX12_square, 1, (some .int))
def mX12_isCloud : Nat × MethodName × ByteArray × Nat × Option FieldType := (12, yX12_isCloud, cX12_isCloud, 4, (some .boolean))
def mX12_isBare : Nat × MethodName × ByteArray × Nat × Option FieldType := (12, yX12_isBare, cX12_isBare, 8, (some .boolean))
def mX12_isSeen : Nat × MethodName × ByteArray × Nat × Option FieldType := (12, yX12_isSeen, cX12_isSeen, 2, (some .boolean))
def mX12_seenNow : Nat × MethodName × ByteArray × Nat × Option FieldType := (12, yX12_seenNow, cX12_seenNow, 3, (some .int))
def mX12_person : Nat × MethodName × ByteArray × Nat × Option FieldType := (12, yX12_person, cX12_person, 3, (some .int))
def mX12_cell : Nat × MethodName × ByteArray × Nat × Option FieldType := (12, yX12_cell, cX12_cell, 5, (some .int))
def mX12_now : Nat × MethodName × ByteArray × Nat × Option FieldType := (12, yX12_now, cX12_now, 2, (some .int))
def mX12_keeps : Nat × MethodName × ByteArray × Nat × Option FieldType := (12, yX12_keeps, cX12_keeps, 3, none)
def mX12_walk : Nat × MethodName × ByteArray × Nat × Option FieldType := (12, yX12_walk, cX12_walk, 4, (some .int))
def mX12_die : Nat × MethodName × ByteArray × Nat × Option FieldType := (12, yX12_die, cX12_die, 3, (some .int))
def mX12_ones : Nat × MethodName × ByteArray × Nat × Option FieldType := (12, yX12_ones, cX12_ones, 3, (some .int))
def mX12_smoke : Nat × MethodName × ByteArray × Nat × Option FieldType := (12, yX12_smoke, cX12_smoke, 3, (some .int))
def mX12_deed : Nat × MethodName × ByteArray × Nat × Option FieldType := (12, yX12_deed, cX12_deed, 5, (some .int))
def mX12_day : Nat × MethodName × ByteArray × Nat × Option FieldType := (12, yX12_day, cX12_day, 1, (some .int))
def mX12_undo : Nat × MethodName × ByteArray × Nat × Option FieldType := (12, yX12_undo, cX12_undo, 3, (some .int))
def mX12_isDeed : Nat × MethodName × ByteArray × Nat × Option FieldType := (12, yX12_isDeed, cX12_isDeed, 2, (some .boolean))
def mX12_done : Nat × MethodName × ByteArray × Nat × Option FieldType := (12, yX12_done, cX12_done, 3, (some .int))
def mX12_counts : Nat × MethodName × ByteArray × Nat × Option FieldType := (12, yX12_counts, cX12_counts, 2, (some .int))
def mX12_ownHolder : Nat × MethodName × ByteArray × Nat × Option FieldType := (12, yX12_ownHolder, cX12_ownHolder, 8, (some .int))
def mX12_laysWays : Nat × MethodName × ByteArray × Nat × Option FieldType := (12, yX12_laysWays, cX12_laysWays, 7, none)
def mX12_holderBy : Nat × MethodName × ByteArray × Nat × Option FieldType := (12, yX12_holderBy, cX12_holderBy, 8, (some .int))
def mX12_holder : Nat × MethodName × ByteArray × Nat × Option FieldType := (12, yX12_holder, cX12_holder, 3, (some .int))
def mX12_round : Nat × MethodName × ByteArray × Nat × Option FieldType := (12, yX12_round, cX12_round, 3, (some .int))
def mX12_votes : Nat × MethodName × ByteArray × Nat × Option FieldType := (12, yX12_votes, cX12_votes, 3, (some .int))
def mX12_nearer : Nat × MethodName × ByteArray × Nat × Option FieldType := (12, yX12_nearer, cX12_nearer, 5, (some .int))
def mX12_hide : Nat × MethodName × ByteArray × Nat × Option FieldType := (12, yX12_hide, cX12_hide, 10, (some .int))
def mX12_blocks : Nat × MethodName × ByteArray × Nat × Option FieldType := (12, yX12_blocks, cX12_blocks, 5, (some .int))
def mX12_hides : Nat × MethodName × ByteArray × Nat × Option FieldType := (12, yX12_hides, cX12_hides, 4, (some .int))
def mX12_power : Nat × MethodName × ByteArray × Nat × Option FieldType := (12, yX12_power, cX12_power, 6, (some .long))
def mX12_odds : Nat × MethodName × ByteArray × Nat × Option FieldType := (12, yX12_odds, cX12_odds, 14, (some .long))
def mX12_often : Nat × MethodName × ByteArray × Nat × Option FieldType := (12, yX12_often, cX12_often, 7, (some .int))
def mX12_stood : Nat × MethodName × ByteArray × Nat × Option FieldType := (12, yX12_stood, cX12_stood, 5, (some .int))
def mX12_days : Nat × MethodName × ByteArray × Nat × Option FieldType := (12, yX12_days, cX12_days, 8, (some .int))
def mX12_together : Nat × MethodName × ByteArray × Nat × Option FieldType := (12, yX12_together, cX12_together, 4, (some .int))
def mX12_mark : Nat × MethodName × ByteArray × Nat × Option FieldType := (12, yX12_mark, cX12_mark, 9, (some .int))
def mX12_keep : Nat × MethodName × ByteArray × Nat × Option FieldType := (12, yX12_keep, cX12_keep, 3, (some .int))
def mX12_back : Nat × MethodName × ByteArray × Nat × Option FieldType := (12, yX12_back, cX12_back, 3, (some .int))
def mX12_count : Nat × MethodName × ByteArray × Nat × Option FieldType := (12, yX12_count, cX12_count, 2, (some .int))
def mX12_trace : Nat × MethodName × ByteArray × Nat × Option FieldType := (12, yX12_trace, cX12_trace, 1, (some .long))
def mJ9_max_7cf53 : Nat × MethodName × ByteArray × Nat × Option FieldType := (14, yJ9_max_7cf53, cJ9_max_7cf53, 2, (some .int))
def mJ9_max_f86c9 : Nat × MethodName × ByteArray × Nat × Option FieldType := (14, yJ9_max_f86c9, cJ9_max_f86c9, 4, (some .long))
def mJ9_min_7cf53 : Nat × MethodName × ByteArray × Nat × Option FieldType := (14, yJ9_min_7cf53, cJ9_min_7cf53, 2, (some .int))
