section
-- ===== PART A: goes FIRST, ahead of the names: the tables' words, and 'selects' of the private methods out of them =====
/-- a private method of a class that the tables say can be made, by its rows of tables_1 -/
def lw_okq (q : MethodName × Nat) : Prop := (q.1.cls ≠ "java/lang/invoke/MethodHandle" ∧ q.1.cls ≠ "java/lang/invoke/VarHandle") ∧ Cond.instantiable q.1.cls q.2 ∈ tables_1 ∧ Cond.privateMethod q.1 ∈ tables_1 ∧ Cond.instanceMethod q.1 ∈ tables_1
theorem lw_p0 : lw_okq (⟨"RootedWords", "refuseWhenDown", "()V"⟩, 4) := ⟨⟨by decide +kernel, by decide +kernel⟩, List.mem_of_getElem? (i := 14) (by decide +kernel), List.mem_of_getElem? (i := 99) (by decide +kernel), List.mem_of_getElem? (i := 100) (by decide +kernel)⟩
theorem lw_p1 : lw_okq (⟨"java/lang/Throwable", "fillInStackTrace", "(I)Ljava/lang/Throwable;"⟩, 6) := ⟨⟨by decide +kernel, by decide +kernel⟩, List.mem_of_getElem? (i := 143) (by decide +kernel), List.mem_of_getElem? (i := 141) (by decide +kernel), List.mem_of_getElem? (i := 142) (by decide +kernel)⟩
theorem lw_p2 : lw_okq (⟨"RootedWords", "lowestFree", "(I)I"⟩, 4) := ⟨⟨by decide +kernel, by decide +kernel⟩, List.mem_of_getElem? (i := 14) (by decide +kernel), List.mem_of_getElem? (i := 190) (by decide +kernel), List.mem_of_getElem? (i := 191) (by decide +kernel)⟩
theorem lw_p3 : lw_okq (⟨"RootedWords", "listExtents", "()I"⟩, 4) := ⟨⟨by decide +kernel, by decide +kernel⟩, List.mem_of_getElem? (i := 14) (by decide +kernel), List.mem_of_getElem? (i := 194) (by decide +kernel), List.mem_of_getElem? (i := 195) (by decide +kernel)⟩
theorem lw_p4 : lw_okq (⟨"RootedWords", "lengthAt", "(I)I"⟩, 4) := ⟨⟨by decide +kernel, by decide +kernel⟩, List.mem_of_getElem? (i := 14) (by decide +kernel), List.mem_of_getElem? (i := 198) (by decide +kernel), List.mem_of_getElem? (i := 199) (by decide +kernel)⟩
theorem lw_p5 : lw_okq (⟨"RootedWords", "isFreeAt", "(I)Z"⟩, 4) := ⟨⟨by decide +kernel, by decide +kernel⟩, List.mem_of_getElem? (i := 14) (by decide +kernel), List.mem_of_getElem? (i := 209) (by decide +kernel), List.mem_of_getElem? (i := 210) (by decide +kernel)⟩
theorem lw_p6 : lw_okq (⟨"RootedWords", "kindAt", "(I)I"⟩, 4) := ⟨⟨by decide +kernel, by decide +kernel⟩, List.mem_of_getElem? (i := 14) (by decide +kernel), List.mem_of_getElem? (i := 213) (by decide +kernel), List.mem_of_getElem? (i := 214) (by decide +kernel)⟩
theorem lw_p7 : lw_okq (⟨"RootedWords", "contentAt", "(I)I"⟩, 4) := ⟨⟨by decide +kernel, by decide +kernel⟩, List.mem_of_getElem? (i := 14) (by decide +kernel), List.mem_of_getElem? (i := 217) (by decide +kernel), List.mem_of_getElem? (i := 218) (by decide +kernel)⟩
theorem lw_p8 : lw_okq (⟨"RootedWords", "clearContent", "(II)V"⟩, 4) := ⟨⟨by decide +kernel, by decide +kernel⟩, List.mem_of_getElem? (i := 14) (by decide +kernel), List.mem_of_getElem? (i := 237) (by decide +kernel), List.mem_of_getElem? (i := 238) (by decide +kernel)⟩
theorem lw_p9 : lw_okq (⟨"RootedWords", "planExtent", "(IIII)V"⟩, 4) := ⟨⟨by decide +kernel, by decide +kernel⟩, List.mem_of_getElem? (i := 14) (by decide +kernel), List.mem_of_getElem? (i := 248) (by decide +kernel), List.mem_of_getElem? (i := 249) (by decide +kernel)⟩
theorem lw_p10 : lw_okq (⟨"RootedWords", "refuseUnlessUsed", "(I)V"⟩, 4) := ⟨⟨by decide +kernel, by decide +kernel⟩, List.mem_of_getElem? (i := 14) (by decide +kernel), List.mem_of_getElem? (i := 273) (by decide +kernel), List.mem_of_getElem? (i := 274) (by decide +kernel)⟩
theorem lw_p11 : lw_okq (⟨"RootedWords", "isUsedAddress", "(I)Z"⟩, 4) := ⟨⟨by decide +kernel, by decide +kernel⟩, List.mem_of_getElem? (i := 14) (by decide +kernel), List.mem_of_getElem? (i := 277) (by decide +kernel), List.mem_of_getElem? (i := 278) (by decide +kernel)⟩
theorem lw_p12 : lw_okq (⟨"RootedWords", "makeFree", "(II)V"⟩, 4) := ⟨⟨by decide +kernel, by decide +kernel⟩, List.mem_of_getElem? (i := 14) (by decide +kernel), List.mem_of_getElem? (i := 297) (by decide +kernel), List.mem_of_getElem? (i := 298) (by decide +kernel)⟩
theorem lw_p13 : lw_okq (⟨"RootedWords", "refuseUnlessWord", "(II)V"⟩, 4) := ⟨⟨by decide +kernel, by decide +kernel⟩, List.mem_of_getElem? (i := 14) (by decide +kernel), List.mem_of_getElem? (i := 309) (by decide +kernel), List.mem_of_getElem? (i := 310) (by decide +kernel)⟩
theorem lw_p14 : lw_okq (⟨"RootedWords", "pointersAt", "(I)I"⟩, 4) := ⟨⟨by decide +kernel, by decide +kernel⟩, List.mem_of_getElem? (i := 14) (by decide +kernel), List.mem_of_getElem? (i := 329) (by decide +kernel), List.mem_of_getElem? (i := 330) (by decide +kernel)⟩
theorem lw_p15 : lw_okq (⟨"RootedWords", "changeWord", "(II)V"⟩, 4) := ⟨⟨by decide +kernel, by decide +kernel⟩, List.mem_of_getElem? (i := 14) (by decide +kernel), List.mem_of_getElem? (i := 334) (by decide +kernel), List.mem_of_getElem? (i := 335) (by decide +kernel)⟩
def lw_privs_1 : List (MethodName × Nat) := [(⟨"RootedWords", "refuseWhenDown", "()V"⟩, 4), (⟨"java/lang/Throwable", "fillInStackTrace", "(I)Ljava/lang/Throwable;"⟩, 6), (⟨"RootedWords", "lowestFree", "(I)I"⟩, 4), (⟨"RootedWords", "listExtents", "()I"⟩, 4), (⟨"RootedWords", "lengthAt", "(I)I"⟩, 4), (⟨"RootedWords", "isFreeAt", "(I)Z"⟩, 4), (⟨"RootedWords", "kindAt", "(I)I"⟩, 4), (⟨"RootedWords", "contentAt", "(I)I"⟩, 4), (⟨"RootedWords", "clearContent", "(II)V"⟩, 4), (⟨"RootedWords", "planExtent", "(IIII)V"⟩, 4), (⟨"RootedWords", "refuseUnlessUsed", "(I)V"⟩, 4), (⟨"RootedWords", "isUsedAddress", "(I)Z"⟩, 4), (⟨"RootedWords", "makeFree", "(II)V"⟩, 4), (⟨"RootedWords", "refuseUnlessWord", "(II)V"⟩, 4), (⟨"RootedWords", "pointersAt", "(I)I"⟩, 4), (⟨"RootedWords", "changeWord", "(II)V"⟩, 4)]
theorem lw_r1 : ∀ q ∈ lw_privs_1, lw_okq q := List.forall_mem_cons.mpr ⟨lw_p0, List.forall_mem_cons.mpr ⟨lw_p1, List.forall_mem_cons.mpr ⟨lw_p2, List.forall_mem_cons.mpr ⟨lw_p3, List.forall_mem_cons.mpr ⟨lw_p4, List.forall_mem_cons.mpr ⟨lw_p5, List.forall_mem_cons.mpr ⟨lw_p6, List.forall_mem_cons.mpr ⟨lw_p7, List.forall_mem_cons.mpr ⟨lw_p8, List.forall_mem_cons.mpr ⟨lw_p9, List.forall_mem_cons.mpr ⟨lw_p10, List.forall_mem_cons.mpr ⟨lw_p11, List.forall_mem_cons.mpr ⟨lw_p12, List.forall_mem_cons.mpr ⟨lw_p13, List.forall_mem_cons.mpr ⟨lw_p14, List.forall_mem_cons.mpr ⟨lw_p15, fun _ h => absurd h List.not_mem_nil⟩⟩⟩⟩⟩⟩⟩⟩⟩⟩⟩⟩⟩⟩⟩⟩
theorem lw_p16 : lw_okq (⟨"RootedWords", "refuseUnlessRoot", "(I)V"⟩, 4) := ⟨⟨by decide +kernel, by decide +kernel⟩, List.mem_of_getElem? (i := 14) (by decide +kernel), List.mem_of_getElem? (i := 359) (by decide +kernel), List.mem_of_getElem? (i := 360) (by decide +kernel)⟩
theorem lw_p17 : lw_okq (⟨"RootedWords", "usedRoot", "(I)I"⟩, 4) := ⟨⟨by decide +kernel, by decide +kernel⟩, List.mem_of_getElem? (i := 14) (by decide +kernel), List.mem_of_getElem? (i := 364) (by decide +kernel), List.mem_of_getElem? (i := 365) (by decide +kernel)⟩
theorem lw_p18 : lw_okq (⟨"RootedWords", "searchFromRoots", "()I"⟩, 4) := ⟨⟨by decide +kernel, by decide +kernel⟩, List.mem_of_getElem? (i := 14) (by decide +kernel), List.mem_of_getElem? (i := 404) (by decide +kernel), List.mem_of_getElem? (i := 405) (by decide +kernel)⟩
theorem lw_p19 : lw_okq (⟨"RootedWords", "markUsed", "()V"⟩, 4) := ⟨⟨by decide +kernel, by decide +kernel⟩, List.mem_of_getElem? (i := 14) (by decide +kernel), List.mem_of_getElem? (i := 408) (by decide +kernel), List.mem_of_getElem? (i := 409) (by decide +kernel)⟩
theorem lw_p20 : lw_okq (⟨"RootedWords", "reach", "(II)I"⟩, 4) := ⟨⟨by decide +kernel, by decide +kernel⟩, List.mem_of_getElem? (i := 14) (by decide +kernel), List.mem_of_getElem? (i := 412) (by decide +kernel), List.mem_of_getElem? (i := 413) (by decide +kernel)⟩
theorem lw_p21 : lw_okq (⟨"RootedWords", "freeUnreached", "()V"⟩, 4) := ⟨⟨by decide +kernel, by decide +kernel⟩, List.mem_of_getElem? (i := 14) (by decide +kernel), List.mem_of_getElem? (i := 428) (by decide +kernel), List.mem_of_getElem? (i := 429) (by decide +kernel)⟩
theorem lw_p22 : lw_okq (⟨"RootedWords", "isReachedAt", "(I)Z"⟩, 4) := ⟨⟨by decide +kernel, by decide +kernel⟩, List.mem_of_getElem? (i := 14) (by decide +kernel), List.mem_of_getElem? (i := 432) (by decide +kernel), List.mem_of_getElem? (i := 433) (by decide +kernel)⟩
theorem lw_p23 : lw_okq (⟨"RootedWordsModel", "spend", "(I)I"⟩, 13) := ⟨⟨by decide +kernel, by decide +kernel⟩, List.mem_of_getElem? (i := 440) (by decide +kernel), List.mem_of_getElem? (i := 495) (by decide +kernel), List.mem_of_getElem? (i := 496) (by decide +kernel)⟩
theorem lw_p24 : lw_okq (⟨"RootedWordsModel", "does", "(I)Z"⟩, 13) := ⟨⟨by decide +kernel, by decide +kernel⟩, List.mem_of_getElem? (i := 440) (by decide +kernel), List.mem_of_getElem? (i := 499) (by decide +kernel), List.mem_of_getElem? (i := 500) (by decide +kernel)⟩
theorem lw_p25 : lw_okq (⟨"RootedWordsModel", "change", "(I)I"⟩, 13) := ⟨⟨by decide +kernel, by decide +kernel⟩, List.mem_of_getElem? (i := 440) (by decide +kernel), List.mem_of_getElem? (i := 503) (by decide +kernel), List.mem_of_getElem? (i := 504) (by decide +kernel)⟩
theorem lw_p26 : lw_okq (⟨"RootedWordsModel", "cut", "(II)V"⟩, 13) := ⟨⟨by decide +kernel, by decide +kernel⟩, List.mem_of_getElem? (i := 440) (by decide +kernel), List.mem_of_getElem? (i := 507) (by decide +kernel), List.mem_of_getElem? (i := 508) (by decide +kernel)⟩
theorem lw_p27 : lw_okq (⟨"RootedWordsModel", "at", "(I)I"⟩, 13) := ⟨⟨by decide +kernel, by decide +kernel⟩, List.mem_of_getElem? (i := 440) (by decide +kernel), List.mem_of_getElem? (i := 515) (by decide +kernel), List.mem_of_getElem? (i := 516) (by decide +kernel)⟩
theorem lw_p28 : lw_okq (⟨"RootedWordsModel", "join", "(II)V"⟩, 13) := ⟨⟨by decide +kernel, by decide +kernel⟩, List.mem_of_getElem? (i := 440) (by decide +kernel), List.mem_of_getElem? (i := 519) (by decide +kernel), List.mem_of_getElem? (i := 520) (by decide +kernel)⟩
theorem lw_p29 : lw_okq (⟨"RootedWordsModel", "isWord", "(II)Z"⟩, 13) := ⟨⟨by decide +kernel, by decide +kernel⟩, List.mem_of_getElem? (i := 440) (by decide +kernel), List.mem_of_getElem? (i := 527) (by decide +kernel), List.mem_of_getElem? (i := 528) (by decide +kernel)⟩
theorem lw_p30 : lw_okq (⟨"RootedWordsModel", "rootNow", "(I)I"⟩, 13) := ⟨⟨by decide +kernel, by decide +kernel⟩, List.mem_of_getElem? (i := 440) (by decide +kernel), List.mem_of_getElem? (i := 546) (by decide +kernel), List.mem_of_getElem? (i := 547) (by decide +kernel)⟩
theorem lw_p31 : lw_okq (⟨"RootedWordsModel", "markAll", "()I"⟩, 13) := ⟨⟨by decide +kernel, by decide +kernel⟩, List.mem_of_getElem? (i := 440) (by decide +kernel), List.mem_of_getElem? (i := 570) (by decide +kernel), List.mem_of_getElem? (i := 571) (by decide +kernel)⟩
def lw_privs_2 : List (MethodName × Nat) := [(⟨"RootedWords", "refuseUnlessRoot", "(I)V"⟩, 4), (⟨"RootedWords", "usedRoot", "(I)I"⟩, 4), (⟨"RootedWords", "searchFromRoots", "()I"⟩, 4), (⟨"RootedWords", "markUsed", "()V"⟩, 4), (⟨"RootedWords", "reach", "(II)I"⟩, 4), (⟨"RootedWords", "freeUnreached", "()V"⟩, 4), (⟨"RootedWords", "isReachedAt", "(I)Z"⟩, 4), (⟨"RootedWordsModel", "spend", "(I)I"⟩, 13), (⟨"RootedWordsModel", "does", "(I)Z"⟩, 13), (⟨"RootedWordsModel", "change", "(I)I"⟩, 13), (⟨"RootedWordsModel", "cut", "(II)V"⟩, 13), (⟨"RootedWordsModel", "at", "(I)I"⟩, 13), (⟨"RootedWordsModel", "join", "(II)V"⟩, 13), (⟨"RootedWordsModel", "isWord", "(II)Z"⟩, 13), (⟨"RootedWordsModel", "rootNow", "(I)I"⟩, 13), (⟨"RootedWordsModel", "markAll", "()I"⟩, 13)]
theorem lw_r2 : ∀ q ∈ lw_privs_2, lw_okq q := List.forall_mem_cons.mpr ⟨lw_p16, List.forall_mem_cons.mpr ⟨lw_p17, List.forall_mem_cons.mpr ⟨lw_p18, List.forall_mem_cons.mpr ⟨lw_p19, List.forall_mem_cons.mpr ⟨lw_p20, List.forall_mem_cons.mpr ⟨lw_p21, List.forall_mem_cons.mpr ⟨lw_p22, List.forall_mem_cons.mpr ⟨lw_p23, List.forall_mem_cons.mpr ⟨lw_p24, List.forall_mem_cons.mpr ⟨lw_p25, List.forall_mem_cons.mpr ⟨lw_p26, List.forall_mem_cons.mpr ⟨lw_p27, List.forall_mem_cons.mpr ⟨lw_p28, List.forall_mem_cons.mpr ⟨lw_p29, List.forall_mem_cons.mpr ⟨lw_p30, List.forall_mem_cons.mpr ⟨lw_p31, fun _ h => absurd h List.not_mem_nil⟩⟩⟩⟩⟩⟩⟩⟩⟩⟩⟩⟩⟩⟩⟩⟩
theorem lw_p32 : lw_okq (⟨"RootedWordsModel", "mark", "(I)V"⟩, 13) := ⟨⟨by decide +kernel, by decide +kernel⟩, List.mem_of_getElem? (i := 440) (by decide +kernel), List.mem_of_getElem? (i := 574) (by decide +kernel), List.mem_of_getElem? (i := 575) (by decide +kernel)⟩
theorem lw_p33 : lw_okq (⟨"RootedWordsModel", "countMarked", "()I"⟩, 13) := ⟨⟨by decide +kernel, by decide +kernel⟩, List.mem_of_getElem? (i := 440) (by decide +kernel), List.mem_of_getElem? (i := 578) (by decide +kernel), List.mem_of_getElem? (i := 579) (by decide +kernel)⟩
theorem lw_p34 : lw_okq (⟨"RootedWordsModel", "clean", "()Z"⟩, 13) := ⟨⟨by decide +kernel, by decide +kernel⟩, List.mem_of_getElem? (i := 440) (by decide +kernel), List.mem_of_getElem? (i := 590) (by decide +kernel), List.mem_of_getElem? (i := 591) (by decide +kernel)⟩
def lw_privs_3 : List (MethodName × Nat) := [(⟨"RootedWordsModel", "mark", "(I)V"⟩, 13), (⟨"RootedWordsModel", "countMarked", "()I"⟩, 13), (⟨"RootedWordsModel", "clean", "()Z"⟩, 13)]
theorem lw_r3 : ∀ q ∈ lw_privs_3, lw_okq q := List.forall_mem_cons.mpr ⟨lw_p32, List.forall_mem_cons.mpr ⟨lw_p33, List.forall_mem_cons.mpr ⟨lw_p34, fun _ h => absurd h List.not_mem_nil⟩⟩⟩
def lw_privs : List (MethodName × Nat) := lw_privs_1 ++ (lw_privs_2 ++ (lw_privs_3))
def lw_tbl : List Cond := k2_sels lw_privs ++ tables_1
theorem lw_privs_ok : ∀ q ∈ lw_privs, lw_okq q := by
  show ∀ q ∈ lw_privs_1 ++ (lw_privs_2 ++ (lw_privs_3)), lw_okq q
  exact List.forall_mem_append.mpr ⟨lw_r1, List.forall_mem_append.mpr ⟨lw_r2, lw_r3⟩⟩
-- end of the pasted part
def R_X : String := "RootedWords"
def F_X : u_T := fun k => match k with
  | 0 => ("RootedWords", "disk", "LRootedWords$Disk;", true)
  | 1 => ("RootedWords", "firsts", "[I", true)
  | 2 => ("RootedWords", "marks", "[I", true)
  | _ => ("RootedWords", "found", "[I", true)
def t_X : Nat → FieldType := fun k => match k with
  | 0 => .object "RootedWords$Disk"
  | 1 => .array .int
  | 2 => .array .int
  | _ => .array .int
theorem n_X : ∀ a, a < 4 → ∀ b, b < 4 → a ≠ b → (F_X a).2.1 ≠ (F_X b).2.1 := by decide +kernel
theorem t_X_ok : ∀ k, k < 4 → parseFieldDescriptor (F_X k).2.2.1 = some (t_X k) := by decide +kernel
theorem i_X : ∀ w ∈ u_ws R_X F_X 4, w ∈ lw_tbl := by decide +kernel
def R_D : String := "RootedWords$Disk"
def F_D : u_T := fun k => match k with
  | 0 => ("RootedWords$Disk", "words", "[I", true)
  | 1 => ("RootedWords$Disk", "planned", "[I", true)
  | 2 => ("RootedWords$Disk", "count", "I", false)
  | 3 => ("RootedWords$Disk", "writesUntilFailure", "I", false)
  | _ => ("RootedWords$Disk", "failed", "Z", false)
def t_D : Nat → FieldType := fun k => match k with
  | 0 => .array .int
  | 1 => .array .int
  | 2 => .int
  | 3 => .int
  | _ => .boolean
theorem n_D : ∀ a, a < 5 → ∀ b, b < 5 → a ≠ b → (F_D a).2.1 ≠ (F_D b).2.1 := by decide +kernel
theorem t_D_ok : ∀ k, k < 5 → parseFieldDescriptor (F_D k).2.2.1 = some (t_D k) := by decide +kernel
theorem i_D : ∀ w ∈ u_ws R_D F_D 5, w ∈ lw_tbl := by decide +kernel
def R_M : String := "RootedWordsModel"
def F_M : u_T := fun k => match k with
  | 0 => ("RootedWordsModel", "code", "I", false)
  | 1 => ("RootedWordsModel", "extents", "I", false)
  | 2 => ("RootedWordsModel", "starts", "[I", true)
  | 3 => ("RootedWordsModel", "lengths", "[I", true)
  | 4 => ("RootedWordsModel", "used", "[Z", true)
  | 5 => ("RootedWordsModel", "pointers", "[I", true)
  | 6 => ("RootedWordsModel", "marked", "[Z", true)
  | 7 => ("RootedWordsModel", "words", "[I", true)
  | 8 => ("RootedWordsModel", "roots", "[I", true)
  | 9 => ("RootedWordsModel", "writes", "I", false)
  | 10 => ("RootedWordsModel", "left", "I", false)
  | 11 => ("RootedWordsModel", "down", "Z", false)
  | _ => ("RootedWordsModel", "pending", "I", false)
def t_M : Nat → FieldType := fun k => match k with
  | 0 => .int
  | 1 => .int
  | 2 => .array .int
  | 3 => .array .int
  | 4 => .array .boolean
  | 5 => .array .int
  | 6 => .array .boolean
  | 7 => .array .int
  | 8 => .array .int
  | 9 => .int
  | 10 => .int
  | 11 => .boolean
  | _ => .int
theorem n_M : ∀ a, a < 13 → ∀ b, b < 13 → a ≠ b → (F_M a).2.1 ≠ (F_M b).2.1 := by decide +kernel
theorem t_M_ok : ∀ k, k < 13 → parseFieldDescriptor (F_M k).2.2.1 = some (t_M k) := by decide +kernel
theorem i_M : ∀ w ∈ u_ws R_M F_M 13, w ∈ lw_tbl := by decide +kernel
abbrev classes : List vw_C := [(R_X, F_X, 4), (R_D, F_D, 5), (R_M, F_M, 13)]
/-- the words that hold for good: what every method asks -/
def gtbl : List Cond := lw_tbl.filter goodWord
end
section
/-! ===== BEGIN words of one list among another's, by their places ===== -/
theorem goodIn_r {big : List Cond} (ws : List Cond) (ps : List Nat) (hp : ws = ps.filterMap (fun i => big[i]?)) (h : ws.all goodWord = true) : GoodIn big ws := by
  intro w hw
  have h1 := List.all_eq_true.mp h w hw
  rw [hp] at hw
  obtain ⟨i, -, hi⟩ := List.mem_filterMap.mp hw
  have hm : w ∈ big := by first | exact List.mem_of_getElem? hi | exact List.getElem?_mem hi
  exact ⟨hm, good_of_word h1⟩
theorem goodIn_app {big a b : List Cond} (ha : GoodIn big a) (hb : GoodIn big b) : GoodIn big (a ++ b) := fun w h => (List.mem_append.mp h).elim (ha w) (hb w)
theorem goodIn_ca {big a b : List Cond} {c : Cond} (ha : GoodIn big (c :: a)) (hb : GoodIn big b) : GoodIn big (c :: (a ++ b)) := fun w h => (List.mem_cons.mp h).elim (fun e => ha w (List.mem_cons.mpr (Or.inl e))) (fun h => (List.mem_append.mp h).elim (fun h => ha w (List.mem_cons.mpr (Or.inr h))) (hb w))
theorem goodIn_sub {big ws : List Cond} (hm : ∀ w ∈ ws, w ∈ big) (h : ws.all goodWord = true) : GoodIn big ws := fun w hw => ⟨hm w hw, good_of_word (List.all_eq_true.mp h w hw)⟩
/-! ===== END ===== -/
/-! ===== BEGIN exceptions that leave a method, and their catching by the caller (launches without stack traces) ===== -/
section VXA
/-! The laws vx_back, vx_callV, vx_callS, vx_callSW, vx_throw0, vx_throwS follow proofs of the library, with one case more: JvmDerived/Free/Laws.lean (Back.of_free), Shelf42/LK1.lean (callV, callS), Shelf/KitTraced.lean (throwNew0V, throwNewS). -/
/-- where a method has thrown q: the class by its name, the cell, what was written, the world -/
def vx_T (XC : String → State → State → Prop) (st : State) (q : Addr) (t : State) (mc ms : Nat) (free : Addr → Prop) : Prop :=
  ∃ (E : String) (ce : Cell) (L : List Loc), XC E st t ∧ t.heap[q]? = some ce ∧ ce.vm = .none ∧ st.vm.findClass E = some ce.cls ∧ st.WarmedH t.vm ∧ st.sameButNew ({ t with vm := st.vm } : State) L mc ms ∧ ∀ z ∈ L, free z.base
def vx_Q (Qc : Array Value → State → Outcome → State → Prop) (XC : String → State → State → Prop) (mc ms : Nat) (free : Addr → Prop) : Array Value → State → Outcome → State → Prop := fun a st o t =>
  (Qc a st o t ∧ ∃ L, FrameEnd st o t L mc ms ∧ ∀ q ∈ L, free q.base) ∨ ∃ q, o = .threw q ∧ vx_T XC st q t mc ms free
/-- a callee that returns or throws -/
def vx_Met (l : Launch) (y : MethodName) (ws : List Cond) (rm : Room) (Pc : Array Value → State → Prop) (Qc : Array Value → State → Outcome → State → Prop) (XC : String → State → State → Prop) (mc ms : Nat) (free : Addr → Prop) : Prop :=
  MetFree l y (headSpec ws rm) Pc (fun _ _ _ _ _ => True) (vx_Q Qc XC mc ms free)
def vx_Post (XC : String → State → State → Prop) (mc ms : Nat) (free : Addr → Prop) : Pt → Array Value → Addr → Pt → Prop := fun A a q B =>
  ∃ (g : JFrame) (mk : MethodId) (t : State) (L : List Loc) (E : String) (ce : Cell), B.U.heap = t.heap ∧ B.U.vm = t.vm ∧ XC E (A.U.calling g mk a) t ∧ t.heap[q]? = some ce ∧ ce.vm = .none ∧ A.U.vm.findClass E = some ce.cls ∧ B.locs = A.locs ++ L ∧ (∀ z ∈ L, free z.base) ∧ B.cells = A.cells + mc ∧ B.slots = A.slots + ms
def vx_Back (l : Launch) (R : Room) (p : Program) (e : Env) (below : List Frame) (s : State) (sargs : Array Value) (y : MethodName) (len W9 : Nat)
    (Pre : Pt → Array Value → Prop) (Post : Pt → Array Value → Option Value → Pt → Prop) (PostX : Pt → Array Value → Addr → Pt → Prop) : Prop :=
  ∀ (m : MethodId) (meth : Method) (c : Code) (A : Pt) (g : JFrame) (ig : Instr) (mk : MethodId) (a : Array Value),
    Stand p l e R s m sargs below meth c A.U A.locs A.cells A.slots → g.method = m → g.locals.size = c.maxLocals → decode c.code g.pc = .ok (ig, len) →
    2 * g.monitorRoom + (g.stack.map fun v => v.category).sum ≤ W9 → A.U.methodNamed? y = some mk → Pre A a →
    (∃ (v : Option Value) (B : Pt), Stand p l e R s m sargs below meth c B.U B.locs B.cells B.slots ∧ Post A a v B ∧
      Steps p.tables e below (doInvoke e (A.U.setTop g) [] mk a).1 (B.U.setTop { g with pc := g.pc + len, stack := v.toList ++ g.stack })) ∨
    (∃ (q : Addr) (B : Pt), Stand p l e R s m sargs below meth c B.U B.locs B.cells B.slots ∧ PostX A a q B ∧
      Steps p.tables e below (doInvoke e (A.U.setTop g) [] mk a).1 ((B.U.setTop g).pushFrame (.throwing q)))
section Payer
variable {l : Launch} {R : Room} {p : Program} {e : Env} {below : List Frame} {s : State} {sargs : Array Value} {y : MethodName} {len W9 : Nat}
theorem vx_back {ws : List Cond} {rm : Room} {Pc : Array Value → State → Prop} {Qc : Array Value → State → Outcome → State → Prop} {XC : String → State → State → Prop} {mc ms : Nat} {free : Addr → Prop} {bytes : ByteArray} {maxL : Nat} {ret : Option FieldType}
    (hM : vx_Met l y ws rm Pc Qc XC mc ms free) (hblind : FrameBlind Pc) (hrc : rm.cells = mc) (hrs : rm.slots = ms)
    (hframes : rm.frames + 1 ≤ R.frames) (hlocals : W9 + (maxL + 11) + rm.locals ≤ R.locals)
    (hws : ∀ w ∈ ws, ∀ a' U, s.WarmedH U.vm → w.before a' U = true) (hcode : Cond.code y bytes maxL ret ∈ ws) (hinit : ∀ a' U, s.WarmedH U.vm → (Cond.initialized y.cls).before a' U = true) :
    vx_Back l R p e below s sargs y len W9 (PreOf R mc ms Pc) (PostOf Qc mc ms free) (vx_Post XC mc ms free) := by
  intro m meth c A g ig mk a X hg hsize hdg hW hn hp
  have h1 : (headSpec ws rm).pre.before a A.U = true := atoms_intro fun w hw => hws w hw _ _ X.warmed
  have h2 : (Cond.code y bytes maxL ret).before a A.U = true := hws _ hcode _ _ X.warmed
  have h3 : (Cond.initialized y.cls).before a A.U = true := hinit _ _ X.warmed
  have h4 : A.cells + (headSpec ws rm).room.cells ≤ R.cells := by rw [show (headSpec ws rm).room.cells = mc from hrc]; exact hp.1
  have h5 : A.slots + (headSpec ws rm).room.slots ≤ R.slots := by rw [show (headSpec ws rm).room.slots = ms from hrs]; exact hp.2.1
  have hPc : Pc a (A.U.calling g mk a) := hblind _ _ _ _ hp.2.2
  obtain ⟨U, Ls, c0, s0⟩ := A
  dsimp only [Pt.U, Pt.locs, Pt.cells, Pt.slots] at h1 h2 h3 h4 h5 X hn hPc ⊢
  obtain ⟨methY, cY, hmY, hcY, -, hlY, -, -, -, -⟩ := Cond.code_spec hn h2
  obtain ⟨kY, hkY, -⟩ := className_of_methodNamed hn
  have hinitY : kY.init = .initialized := Cond.initialized_spec (findClass_of_methodNamed hn) hkY h3
  have h : At U g.method c below := by rw [hg]; exact X.here
  have hlocals9 : W9 + (maxL + 11) + (headSpec ws rm).room.locals ≤ R.locals := hlocals
  have happ : (headSpec ws rm).appliesLoose y e.platform (U.calling g mk a) = true :=
    Spec.appliesLoose_calling (g := g) h hdg hn hkY hinitY
      (X.room_calling (g := g) (R' := (headSpec ws rm).room) hsize hmY hcY hframes (by rw [hlY]; omega) h4 h5) h1
  obtain ⟨mid, hmid⟩ := h.above
  have hfr : (U.setTop g).frames = (.java g :: mid) ++ below := by rw [State.frames_setTop' g h.top, hmid]; rfl
  obtain ⟨o, s₂, hsteps, -, hend, hq⟩ := Steps.callFree hM p X.admits X.cas X.clock (acts := []) hfr happ hPc trivial
  have hq' : vx_Q Qc XC mc ms free a (U.calling g mk a) o s₂ := hq
  rw [State.frames_setTop' g h.top] at hend
  obtain ⟨g₀, hg0⟩ := Option.isSome_iff_exists.mp h.top
  obtain ⟨r, hr⟩ := State.topJava?_eq_some.mp hg0
  have hr' : (({ U with heap := s₂.heap, slotsUsed := s₂.slotsUsed } : State).setVm s₂.vm).frames = .java g₀ :: r := hr
  rcases hq' with ⟨hqc, L, hfe, hL⟩ | ⟨q, rfl, E, ce, L, hx, hce, hcv, hcl, hW₂, hsm, hL⟩
  · obtain ⟨⟨v, rfl⟩, hW₂, e2, q2, q3, q4, q5, q6⟩ := id hfe
    have e3 : s₂ = ({ (U.calling g mk a).setFrames s₂.frames with heap := s₂.heap, slotsUsed := s₂.slotsUsed } : State).setVm s₂.vm := by
      have : s₂ = ({ s₂ with vm := (U.calling g mk a).vm } : State).setVm s₂.vm := rfl
      rw [e2] at this
      exact this
    obtain ⟨c₂, i₂, len₂, hc₂, hd₂, hf₂⟩ := hend
    have hW' : U.WarmedH s₂.vm := hW₂
    have hcc : c₂ = c := by
      have h1 : s₂.code? g.method = U.code? g.method := by
        rw [State.code?_eq, State.code?_eq, hW'.alike.method?]
      exact Option.some.inj (hc₂.symm.trans (h1.trans h.code))
    subst hcc
    have hlen : len₂ = len := by rw [hdg] at hd₂; cases hd₂; rfl
    subst hlen
    have hs₂ : s₂ = (({ U with heap := s₂.heap, slotsUsed := s₂.slotsUsed } : State).setVm s₂.vm).setTop { g with pc := g.pc + len₂, stack := v.toList ++ g.stack } := by
      refine e3.trans ?_
      rw [hf₂, State.calling_eq h.top, State.setFrames_setFrames, State.setTop_of_frames _ hr', hr]
      rfl
    have hsame : U.sameButNew ({ U with heap := s₂.heap, slotsUsed := s₂.slotsUsed } : State) L mc ms := by
      refine ⟨?_, q2, q3, q4, q5, q6⟩
      obtain ⟨t, ht, -⟩ := State.frames_cons hr
      show ({ U with heap := s₂.heap, slotsUsed := s₂.slotsUsed } : State) = { U.setFrames U.frames with heap := s₂.heap, slotsUsed := s₂.slotsUsed }
      rw [State.setFrames_self ht]
    subst hg
    refine Or.inl ⟨v, ⟨(({ U with heap := s₂.heap, slotsUsed := s₂.slotsUsed } : State).setVm s₂.vm), Ls ++ L, c0 + mc, s0 + ms⟩,
      ⟨X.admits, X.cas, X.clock, X.frames, X.room, X.hears, X.method, X.code, (X.here.setHeapUsed s₂.heap s₂.slotsUsed).setVm hW'.alike, X.tail, State.WarmedH.trans X.warmed hW', X.limits, X.bytes, X.same.trans (hsame.setVm s.vm)⟩,
      ⟨g, mk, s₂, L, rfl, rfl, hqc, rfl, hL, rfl, rfl⟩, ?_⟩
    show Steps p.tables e below _ ((({ U with heap := s₂.heap, slotsUsed := s₂.slotsUsed } : State).setVm s₂.vm).setTop { g with pc := g.pc + len₂, stack := v.toList ++ g.stack })
    rw [← hs₂]
    exact hsteps
  · obtain ⟨e2, q2, q3, q4, q5, q6⟩ := id hsm
    have e3 : s₂ = ({ (U.calling g mk a).setFrames s₂.frames with heap := s₂.heap, slotsUsed := s₂.slotsUsed } : State).setVm s₂.vm := by
      have : s₂ = ({ s₂ with vm := (U.calling g mk a).vm } : State).setVm s₂.vm := rfl
      rw [e2] at this
      exact this
    have hf₂ : s₂.frames = .throwing q :: .java g :: U.frames.tail := hend
    have hW' : U.WarmedH s₂.vm := hW₂
    have hs₂ : s₂ = ((({ U with heap := s₂.heap, slotsUsed := s₂.slotsUsed } : State).setVm s₂.vm).setTop g).pushFrame (.throwing q) := by
      refine e3.trans ?_
      rw [hf₂, State.calling_eq h.top, State.setFrames_setFrames, State.pushFrame, State.frames_setTop _ hr', State.setTop_of_frames _ hr', State.setFrames_setFrames, hr]
      rfl
    have hsame : U.sameButNew ({ U with heap := s₂.heap, slotsUsed := s₂.slotsUsed } : State) L mc ms := by
      refine ⟨?_, q2, q3, q4, q5, q6⟩
      obtain ⟨t, ht, -⟩ := State.frames_cons hr
      show ({ U with heap := s₂.heap, slotsUsed := s₂.slotsUsed } : State) = { U.setFrames U.frames with heap := s₂.heap, slotsUsed := s₂.slotsUsed }
      rw [State.setFrames_self ht]
    subst hg
    refine Or.inr ⟨q, ⟨(({ U with heap := s₂.heap, slotsUsed := s₂.slotsUsed } : State).setVm s₂.vm), Ls ++ L, c0 + mc, s0 + ms⟩,
      ⟨X.admits, X.cas, X.clock, X.frames, X.room, X.hears, X.method, X.code, (X.here.setHeapUsed s₂.heap s₂.slotsUsed).setVm hW'.alike, X.tail, State.WarmedH.trans X.warmed hW', X.limits, X.bytes, X.same.trans (hsame.setVm s.vm)⟩,
      ⟨g, mk, s₂, L, E, ce, rfl, rfl, hx, hce, hcv, hcl, rfl, hL, rfl, rfl⟩, ?_⟩
    show Steps p.tables e below _ (((({ U with heap := s₂.heap, slotsUsed := s₂.slotsUsed } : State).setVm s₂.vm).setTop g).pushFrame (.throwing q))
    rw [← hs₂]
    exact hsteps
end Payer
section Calls
variable {p : Program} {l : Launch} {e : Env} {R : Room} {s : State} {m : MethodId} {args : Array Value} {below : List Frame} {meth : Method} {c : Code} {T : State} {locs : List Loc} {cells slots : Nat}
theorem vx_callV (X : Stand p l e R s m args below meth c T locs cells slots) (hexec : p.tables.exec = Jvm.exec) {own C : String} {index : Nat} {y : MethodName} {bytes : ByteArray} {maxL : Nat} {ret : Option FieldType}
    (hown : s.vm.findClass own = some m.cls) (hlink : (Cond.methodLink own index y).before args s = true) (hinst : (Cond.instanceMethod y).before args s = true) (hsel : (Cond.selects C y y).before args s = true)
    (hcode : (Cond.code y bytes maxL ret).before args s = true) (hy : y.cls ≠ "java/lang/invoke/MethodHandle" ∧ y.cls ≠ "java/lang/invoke/VarHandle")
    {W9 : Nat} {Pre : Pt → Array Value → Prop} {Post : Pt → Array Value → Option Value → Pt → Prop} {PostX : Pt → Array Value → Addr → Pt → Prop} (hK : vx_Back l R p e below s args y 3 W9 Pre Post PostX)
    {b : Addr} {cellB : Cell} (hcell : T.heap[b]? = some cellB) (hobj : cellB.vm.isStatics = false) (hcls : s.vm.findClass C = some cellB.cls)
    {g : JFrame} (hg : g.method = m) (hsize : g.locals.size = c.maxLocals) {argsL rest : List Value} (hlen : ∀ sig, parseMethodDescriptor y.desc = some sig → argsL.length = sig.parameters.length)
    (hstack : g.stack = argsL.reverse ++ .ref b :: rest) (hW : 2 * g.monitorRoom + (rest.map fun v => v.category).sum ≤ W9) (hdg : decode c.code g.pc = .ok (.invokevirtual index, 3))
    (hpre : ∀ vm₁, s.WarmedH vm₁ → Pre ⟨T.setVm vm₁, locs, cells, slots⟩ (Value.ref b :: argsL).toArray) :
    (∃ (v : Option Value) (vm₁ : Vm) (B : Pt), s.WarmedH vm₁ ∧ Stand p l e R s m args below meth c B.U B.locs B.cells B.slots ∧ Post ⟨T.setVm vm₁, locs, cells, slots⟩ (Value.ref b :: argsL).toArray v B ∧
      ∀ target, Steps p.tables e below (B.U.setTop { g with pc := g.pc + 3, stack := v.toList ++ rest }) target → Steps p.tables e below (T.setTop g) target) ∨
    (∃ (q : Addr) (vm₁ : Vm) (B : Pt), s.WarmedH vm₁ ∧ Stand p l e R s m args below meth c B.U B.locs B.cells B.slots ∧ PostX ⟨T.setVm vm₁, locs, cells, slots⟩ (Value.ref b :: argsL).toArray q B ∧
      Steps p.tables e below (T.setTop g) ((B.U.setTop { g with stack := rest }).pushFrame (.throwing q))) := by
  obtain ⟨mk, methM, hnamed, hmethM, hstM, habM⟩ := Cond.instanceMethod_spec hinst
  obtain ⟨methM', cM, hmethM', -, -, -, -, -, -, hsigM⟩ := Cond.code_spec hnamed hcode
  cases hmethM.symm.trans hmethM'
  obtain ⟨c2, r2, m2, q1, q2, q3, q4, kP, hkP, hkPi⟩ := Cond.selects_spec hsel
  cases hcls.symm.trans q1
  cases (State.methodFound?_of_named hnamed hy).symm.trans q2
  cases hnamed.symm.trans q3
  have hselP : selectMethod e.platform s.vm cellB.cls mk = .method mk := by rw [Launch.admits_selectMethod X.admits]; exact q4
  obtain ⟨vm₁, X₁, hstep₁⟩ := X.invokevirtual hexec hown hlink hnamed hmethM hstM hkP hkPi hy (a := b) (cell := cellB) hcell
    (fun z h => by rw [h] at hobj; cases hobj) hselP hmethM habM hkP hkPi (g := g) hg (argsL := argsL) (rest := rest) (hlen _ hsigM) hstack hdg
  rcases hK m meth c ⟨T.setVm vm₁, locs, cells, slots⟩ { g with stack := rest } (.invokevirtual index) mk (Value.ref b :: argsL).toArray X₁ hg hsize hdg hW (X₁.named hnamed) (hpre vm₁ X₁.warmed) with ⟨v, B, X', hpost, hsteps⟩ | ⟨q, B, X', hpost, hsteps⟩
  · exact Or.inl ⟨v, vm₁, B, X₁.warmed, X', hpost, fun target h => hstep₁ _ fun acts => by rw [doInvoke_state]; exact hsteps.trans h⟩
  · exact Or.inr ⟨q, vm₁, B, X₁.warmed, X', hpost, hstep₁ _ fun acts => by rw [doInvoke_state]; exact hsteps⟩
theorem vx_callS (X : Stand p l e R s m args below meth c T locs cells slots) (hexec : p.tables.exec = Jvm.exec) {own : String} {index : Nat} {y : MethodName} {bytes : ByteArray} {maxL : Nat} {ret : Option FieldType}
    (hown : s.vm.findClass own = some m.cls) (hlink : (Cond.methodLink own index y).before args s = true) (hstat : (Cond.static y).before args s = true) (hinit : (Cond.initialized y.cls).before args s = true)
    (hcode : (Cond.code y bytes maxL ret).before args s = true) (hy : y.cls ≠ "java/lang/invoke/MethodHandle" ∧ y.cls ≠ "java/lang/invoke/VarHandle")
    {W9 : Nat} {Pre : Pt → Array Value → Prop} {Post : Pt → Array Value → Option Value → Pt → Prop} {PostX : Pt → Array Value → Addr → Pt → Prop} (hK : vx_Back l R p e below s args y 3 W9 Pre Post PostX)
    {g : JFrame} (hg : g.method = m) (hsize : g.locals.size = c.maxLocals) {argsL rest : List Value} (hlen : ∀ sig, parseMethodDescriptor y.desc = some sig → argsL.length = sig.parameters.length)
    (hstack : g.stack = argsL.reverse ++ rest) (hW : 2 * g.monitorRoom + (rest.map fun v => v.category).sum ≤ W9) (hdg : decode c.code g.pc = .ok (.invokestatic index, 3))
    (hpre : ∀ vm₁, s.WarmedH vm₁ → Pre ⟨T.setVm vm₁, locs, cells, slots⟩ argsL.toArray) :
    (∃ (v : Option Value) (vm₁ : Vm) (B : Pt), s.WarmedH vm₁ ∧ Stand p l e R s m args below meth c B.U B.locs B.cells B.slots ∧ Post ⟨T.setVm vm₁, locs, cells, slots⟩ argsL.toArray v B ∧
      ∀ target, Steps p.tables e below (B.U.setTop { g with pc := g.pc + 3, stack := v.toList ++ rest }) target → Steps p.tables e below (T.setTop g) target) ∨
    (∃ (q : Addr) (vm₁ : Vm) (B : Pt), s.WarmedH vm₁ ∧ Stand p l e R s m args below meth c B.U B.locs B.cells B.slots ∧ PostX ⟨T.setVm vm₁, locs, cells, slots⟩ argsL.toArray q B ∧
      Steps p.tables e below (T.setTop g) ((B.U.setTop { g with stack := rest }).pushFrame (.throwing q))) := by
  obtain ⟨mk, hnamed⟩ := Cond.code_named hcode
  obtain ⟨methM, cM, hmethM, -, -, -, -, -, -, hsigM⟩ := Cond.code_spec hnamed hcode
  have hstatic : methM.isStatic = true := Cond.static_spec hnamed hmethM hstat
  obtain ⟨kP, hkP, -⟩ := className_of_methodNamed hnamed
  have hinitP : kP.init = .initialized := Cond.initialized_spec (findClass_of_methodNamed hnamed) hkP hinit
  obtain ⟨vm₁, X₁, hstep₁⟩ := X.invokestatic hexec hown hlink hnamed hmethM hstatic hkP hinitP hy (g := g) hg (argsL := argsL) (rest := rest) (hlen _ hsigM) hstack hdg
  rcases hK m meth c ⟨T.setVm vm₁, locs, cells, slots⟩ { g with stack := rest } (.invokestatic index) mk argsL.toArray X₁ hg hsize hdg hW (X₁.named hnamed) (hpre vm₁ X₁.warmed) with ⟨v, B, X', hpost, hsteps⟩ | ⟨q, B, X', hpost, hsteps⟩
  · exact Or.inl ⟨v, vm₁, B, X₁.warmed, X', hpost, fun target h => hstep₁ _ fun acts => by rw [doInvoke_state]; exact hsteps.trans h⟩
  · exact Or.inr ⟨q, vm₁, B, X₁.warmed, X', hpost, hstep₁ _ fun acts => by rw [doInvoke_state]; exact hsteps⟩
end Calls
theorem vx_cls {s : State} {T : State} {vm₁ : Vm} {E : String} {k : ClassId} (hW : s.WarmedH vm₁) (h : (T.setVm vm₁).vm.findClass E = some k) : s.vm.findClass E = some k := by
  have h1 : vm₁.findClass E = some k := h
  rw [hW.alike.findClass] at h1
  exact h1
/-- the method's frame g, with q thrown over it -/
def vx_W (p : Program) (l : Launch) (e : Env) (R : Room) (s : State) (m : MethodId) (args : Array Value) (below : List Frame) (meth : Method) (c : Code) (H : Heap) (locs : List Loc) (cells slots : Nat) (Q : State → Prop) (g : JFrame) (q : Addr) : Prop :=
  ∀ T : State, T.heap = H → Stand p l e R s m args below meth c T locs cells slots → ∃ t, Steps p.tables e below ((T.setTop g).pushFrame (.throwing q)) t ∧ Q t
def vx_Run (p : Program) (l : Launch) (e : Env) (R : Room) (s : State) (m : MethodId) (args : Array Value) (below : List Frame) (meth : Method) (c : Code) (H : Heap) (locs : List Loc) (cells slots mc ms : Nat) (g : JFrame) (rest : List Value) (Qa : State → Outcome → State → Prop) (XC : String → State → State → Prop) (free : Addr → Prop) : Prop :=
  ∀ T : State, T.heap = H → Stand p l e R s m args below meth c T locs cells slots →
    (∃ (v : Option Value) (st₀ t T' : State) (L : List Loc), st₀.heap = H ∧ Stand p l e R s m args below meth c T' (locs ++ L) (cells + mc) (slots + ms) ∧ (∀ q ∈ L, free q.base) ∧ T'.heap = t.heap ∧ T'.vm = t.vm ∧ Qa st₀ (.returned v) t ∧
      Goes p e below T g T' { g with pc := g.pc + 3, stack := v.toList ++ rest }) ∨
    (∃ (q : Addr) (st₀ t T' : State) (L : List Loc) (E : String) (ce : Cell), st₀.heap = H ∧ Stand p l e R s m args below meth c T' (locs ++ L) (cells + mc) (slots + ms) ∧ (∀ z ∈ L, free z.base) ∧ T'.heap = t.heap ∧ T'.vm = t.vm ∧ XC E st₀ t ∧ t.heap[q]? = some ce ∧ ce.vm = .none ∧ s.vm.findClass E = some ce.cls ∧
      Steps p.tables e below (T.setTop g) ((T'.setTop { g with stack := rest }).pushFrame (.throwing q)))
def vx_X {S : Type} (px : S → Prop) (B : String → S → State → Prop) (A : Nat → Prop) : String → State → State → Prop := fun E st t => ∃ u : S, px u ∧ B E u t ∧ va_F A st t
section Runs
variable {p : Program} {l : Launch} {e : Env} {R : Room} {s : State} {m : MethodId} {args : Array Value} {below : List Frame} {meth : Method} {c : Code} {H : Heap} {locs : List Loc} {cells slots : Nat}
variable {y : MethodName} {bytes cc : ByteArray} {maxL nL mc ms n index : Nat} {ret : Option FieldType} {ws : List Cond} {rm : Room} {Pc : Array Value → State → Prop} {Qc : Array Value → State → Outcome → State → Prop} {XC : String → State → State → Prop} {free : Addr → Prop} {Ts : List Cond} {own C : String} {b : Addr} {As rest : List Value} {g : JFrame}
theorem vx_callBack (cb : CallB R s args own index y bytes maxL ret ws rm mc ms n) (hM : vx_Met l y ws rm Pc Qc XC mc ms free) (hbl : FrameBlind Pc) : vx_Back l R p e below s args y 3 8 (PreOf R mc ms Pc) (PostOf Qc mc ms free) (vx_Post XC mc ms free) := by
  obtain ⟨hrc, hrs, hfr, hlo, hws, hcw, -, hini, -⟩ := cb
  exact vx_back (bytes := bytes) (maxL := maxL) (ret := ret) hM hbl hrc hrs hfr hlo hws hcw (fun a' U hW => word_at hW (Or.inl (by first | rfl | simp [Cond.onTables, Cond.keeps, Cond.steady])) hini)
theorem vx_runV (S : CallFix p m c cc nL s args Ts own) (hM : vx_Met l y ws rm Pc Qc XC mc ms free) (cw : CallW R s args own C index y bytes maxL ret ws rm mc ms n) (hp : PreV s H C b Pc As)
    (hg : g.method = m) (hn : As.length = n) (hsize : g.locals.size = nL) (hstack : g.stack = As.reverse ++ .ref b :: rest) (hW : 2 * g.monitorRoom + (rest.map fun v => v.category).sum ≤ 8) (hdg : decode cc g.pc = .ok (.invokevirtual index, 3)) (hf : cells + mc ≤ R.cells ∧ slots + ms ≤ R.slots) :
    vx_Run p l e R s m args below meth c H locs cells slots mc ms g rest (Qc (Value.ref b :: As).toArray) XC free := by
  have hK : vx_Back l R p e below s args y 3 8 (PreOf R mc ms Pc) (PostOf Qc mc ms free) (vx_Post XC mc ms free) := vx_callBack cw.1 hM hp.1
  obtain ⟨⟨-, -, -, -, -, -, hcode, -, hy, hlen, hl⟩, hin, hse⟩ := cw
  obtain ⟨hx, hb, hml, ho, -⟩ := S
  obtain ⟨-, ⟨cellB, hcB, hoB, hclB⟩, hPc⟩ := hp
  intro T hT X
  rcases vx_callV X hx (C := C) (bytes := bytes) (maxL := maxL) (ret := ret) ho hl hin hse hcode hy hK (by rw [hT]; exact hcB) hoB hclB hg (hsize.trans hml.symm) (argsL := As) (rest := rest) (fun sig h => hn.trans (hlen sig h)) hstack hW (by rw [hb]; exact hdg)
    (fun vm₁ hW₁ => ⟨hf.1, hf.2, hPc (T.setVm vm₁) hT hW₁⟩) with ⟨v, vm₁, ⟨U', l2, c2, s2⟩, hW₁, X', ⟨g', mk, t, L, e1, e2, hq, h1, hL, h2, h3⟩, st⟩ | ⟨q, vm₁, ⟨U', l2, c2, s2⟩, hW₁, X', ⟨g', mk, t, L, E, ce, e1, e2, hq, hce, hcv, hcl, h1, hL, h2, h3⟩, st⟩
  · dsimp only [Pt.U, Pt.locs, Pt.cells, Pt.slots] at X' e1 e2 h1 h2 h3 st
    subst h1; subst h2; subst h3
    exact Or.inl ⟨v, (T.setVm vm₁).calling g' mk (Value.ref b :: As).toArray, t, U', L, hT, X', hL, e1, e2, hq, st⟩
  · dsimp only [Pt.U, Pt.locs, Pt.cells, Pt.slots] at X' e1 e2 h1 h2 h3 st hcl
    subst h1; subst h2; subst h3
    exact Or.inr ⟨q, (T.setVm vm₁).calling g' mk (Value.ref b :: As).toArray, t, U', L, E, ce, hT, X', hL, e1, e2, hq, hce, hcv, vx_cls hW₁ hcl, st⟩
theorem vx_runS (S : CallFix p m c cc nL s args Ts own) (hM : vx_Met l y ws rm Pc Qc XC mc ms free) (cw : CallB R s args own index y bytes maxL ret ws rm mc ms n ∧ (Cond.static y).before args s = true) (hp : PreS s H Pc As)
    (hg : g.method = m) (hn : As.length = n) (hsize : g.locals.size = nL) (hstack : g.stack = As.reverse ++ rest) (hW : 2 * g.monitorRoom + (rest.map fun v => v.category).sum ≤ 8) (hdg : decode cc g.pc = .ok (.invokestatic index, 3)) (hf : cells + mc ≤ R.cells ∧ slots + ms ≤ R.slots) :
    vx_Run p l e R s m args below meth c H locs cells slots mc ms g rest (Qc As.toArray) XC free := by
  have hK : vx_Back l R p e below s args y 3 8 (PreOf R mc ms Pc) (PostOf Qc mc ms free) (vx_Post XC mc ms free) := vx_callBack cw.1 hM hp.1
  obtain ⟨⟨-, -, -, -, -, -, hcode, hini, hy, hlen, hl⟩, hstt⟩ := cw
  obtain ⟨hx, hb, hml, ho, -⟩ := S
  intro T hT X
  rcases vx_callS X hx (bytes := bytes) (maxL := maxL) (ret := ret) ho hl hstt hini hcode hy hK hg (hsize.trans hml.symm) (argsL := As) (rest := rest) (fun sig h => hn.trans (hlen sig h)) hstack hW (by rw [hb]; exact hdg)
    (fun vm₁ hW₁ => ⟨hf.1, hf.2, hp.2 (T.setVm vm₁) hT hW₁⟩) with ⟨v, vm₁, ⟨U', l2, c2, s2⟩, hW₁, X', ⟨g', mk, t, L, e1, e2, hq, h1, hL, h2, h3⟩, st⟩ | ⟨q, vm₁, ⟨U', l2, c2, s2⟩, hW₁, X', ⟨g', mk, t, L, E, ce, e1, e2, hq, hce, hcv, hcl, h1, hL, h2, h3⟩, st⟩
  · dsimp only [Pt.U, Pt.locs, Pt.cells, Pt.slots] at X' e1 e2 h1 h2 h3 st
    subst h1; subst h2; subst h3
    exact Or.inl ⟨v, (T.setVm vm₁).calling g' mk As.toArray, t, U', L, hT, X', hL, e1, e2, hq, st⟩
  · dsimp only [Pt.U, Pt.locs, Pt.cells, Pt.slots] at X' e1 e2 h1 h2 h3 st hcl
    subst h1; subst h2; subst h3
    exact Or.inr ⟨q, (T.setVm vm₁).calling g' mk As.toArray, t, U', L, E, ce, hT, X', hL, e1, e2, hq, hce, hcv, vx_cls hW₁ hcl, st⟩
end Runs
section Rows
variable {p : Program} {l : Launch} {e : Env} {R : Room} {s : State} {m : MethodId} {args : Array Value} {below : List Frame} {meth : Method} {c : Code} {H : Heap} {locs : List Loc} {cells slots : Nat} {Q : State → Prop}
variable {mc ms : Nat} {free : Addr → Prop} {A0 A1 : Nat → Prop} {H0 : Heap} {a : Array Value} {pc : Nat} {ls : Array Slot} {st0 rest : List Value}
theorem vx_keep {st₀ t T' : State} {L : List Loc} (h0 : st₀.heap = H) (e1 : T'.heap = t.heap) (hS : va_S A0 H0 H locs) (hA : ∀ q, q < H.size → A1 q → A0 q) (hf : ∀ q, free q → A0 q) (hL : ∀ q ∈ L, free q.base) (hF : va_F A1 st₀ t) :
    H.size ≤ T'.heap.size ∧ (∀ q : Nat, q < H.size → ¬ A1 q → T'.heap[q]? = H[q]?) ∧ va_S A0 H0 T'.heap (locs ++ L) := by
  obtain ⟨hz, hk⟩ := hF
  rw [h0] at hz hk
  exact ⟨by rw [e1]; exact hz, fun q h1 h2 => by rw [e1]; exact hk q h1 h2,
    ⟨Nat.le_trans hS.1 (by rw [e1]; exact hz), fun q h1 h2 => by rw [e1, hk q (Nat.lt_of_lt_of_le h1 hS.1) (fun z => h2 (hA q (Nat.lt_of_lt_of_le h1 hS.1) z))]; exact hS.2.1 q h1 h2, fun q hq => by
      rcases List.mem_append.mp hq with h | h
      · exact hS.2.2 q h
      · exact hf _ (hL q h)⟩⟩
theorem vx_calli {S SX : Type} {post : Int32 → S → Prop} {px : SX → Prop} {B : S → State → Prop} {BX : String → SX → State → Prop} {AX : Nat → Prop} (hr : vx_Run p l e R s m args below meth c H locs cells slots mc ms (F0 m pc ls st0) rest (va_Qi post B A1 a) (vx_X px BX AX) free) (hS : va_S A0 H0 H locs) (hA : ∀ q, q < H.size → A1 q → A0 q) (hf : ∀ q, free q → A0 q) (hAX : ∀ q, q < H.size → AX q → A0 q)
    (kx : ∀ (E : String) (ce : Cell) (q9 : Addr) (u : SX) (t : State) (H1 : Heap) (locs1 : List Loc), t.heap = H1 → s.vm.Alike t.vm → px u → BX E u t → H.size ≤ H1.size → (∀ q : Nat, q < H.size → ¬ AX q → H1[q]? = H[q]?) → va_S A0 H0 H1 locs1 → H1[q9]? = some ce → ce.vm = .none → s.vm.findClass E = some ce.cls → vx_W p l e R s m args below meth c H1 locs1 (cells + mc) (slots + ms) Q (F0 m pc ls rest) q9)
    (kk : ∀ (r : Int32) (u : S) (t : State) (H1 : Heap) (locs1 : List Loc), t.heap = H1 → s.vm.Alike t.vm → post r u → B u t → H.size ≤ H1.size → (∀ q : Nat, q < H.size → ¬ A1 q → H1[q]? = H[q]?) → va_S A0 H0 H1 locs1 → W p l e R s m args below meth c H1 locs1 (cells + mc) (slots + ms) Q (F0 m (pc + 3) ls (.int r :: rest))) : W p l e R s m args below meth c H locs cells slots Q (F0 m pc ls st0) := by
  intro T hT X
  rcases hr T hT X with ⟨v, st₀, t, T', L, h0, X', hL, e1, e2, ⟨⟨r, u, hv, hp, hb⟩, hF⟩, st⟩ | ⟨q, st₀, t, T', L, E, ce, h0, X', hL, e1, e2, ⟨u, hp, hb, hF⟩, hce, hcv, hcl, st⟩
  · cases hv
    obtain ⟨k1, k2, k3⟩ := vx_keep h0 e1 hS hA hf hL hF
    obtain ⟨t2, a1, b1⟩ := kk r u t T'.heap (locs ++ L) e1.symm (by rw [← e2]; exact X'.warmed.alike) hp hb k1 k2 k3 T' rfl X'
    exact ⟨t2, st t2 a1, b1⟩
  · obtain ⟨k1, k2, k3⟩ := vx_keep h0 e1 hS hAX hf hL hF
    obtain ⟨t2, a1, b1⟩ := kx E ce q u t T'.heap (locs ++ L) e1.symm (by rw [← e2]; exact X'.warmed.alike) hp hb k1 k2 k3 (by rw [e1]; exact hce) hcv hcl T' rfl X'
    exact ⟨t2, st.trans a1, b1⟩
theorem vx_calll {S SX : Type} {post : Int64 → S → Prop} {px : SX → Prop} {B : S → State → Prop} {BX : String → SX → State → Prop} {AX : Nat → Prop} (hr : vx_Run p l e R s m args below meth c H locs cells slots mc ms (F0 m pc ls st0) rest (va_Ql post B A1 a) (vx_X px BX AX) free) (hS : va_S A0 H0 H locs) (hA : ∀ q, q < H.size → A1 q → A0 q) (hf : ∀ q, free q → A0 q) (hAX : ∀ q, q < H.size → AX q → A0 q)
    (kx : ∀ (E : String) (ce : Cell) (q9 : Addr) (u : SX) (t : State) (H1 : Heap) (locs1 : List Loc), t.heap = H1 → s.vm.Alike t.vm → px u → BX E u t → H.size ≤ H1.size → (∀ q : Nat, q < H.size → ¬ AX q → H1[q]? = H[q]?) → va_S A0 H0 H1 locs1 → H1[q9]? = some ce → ce.vm = .none → s.vm.findClass E = some ce.cls → vx_W p l e R s m args below meth c H1 locs1 (cells + mc) (slots + ms) Q (F0 m pc ls rest) q9)
    (kk : ∀ (r : Int64) (u : S) (t : State) (H1 : Heap) (locs1 : List Loc), t.heap = H1 → s.vm.Alike t.vm → post r u → B u t → H.size ≤ H1.size → (∀ q : Nat, q < H.size → ¬ A1 q → H1[q]? = H[q]?) → va_S A0 H0 H1 locs1 → W p l e R s m args below meth c H1 locs1 (cells + mc) (slots + ms) Q (F0 m (pc + 3) ls (.long r :: rest))) : W p l e R s m args below meth c H locs cells slots Q (F0 m pc ls st0) := by
  intro T hT X
  rcases hr T hT X with ⟨v, st₀, t, T', L, h0, X', hL, e1, e2, ⟨⟨r, u, hv, hp, hb⟩, hF⟩, st⟩ | ⟨q, st₀, t, T', L, E, ce, h0, X', hL, e1, e2, ⟨u, hp, hb, hF⟩, hce, hcv, hcl, st⟩
  · cases hv
    obtain ⟨k1, k2, k3⟩ := vx_keep h0 e1 hS hA hf hL hF
    obtain ⟨t2, a1, b1⟩ := kk r u t T'.heap (locs ++ L) e1.symm (by rw [← e2]; exact X'.warmed.alike) hp hb k1 k2 k3 T' rfl X'
    exact ⟨t2, st t2 a1, b1⟩
  · obtain ⟨k1, k2, k3⟩ := vx_keep h0 e1 hS hAX hf hL hF
    obtain ⟨t2, a1, b1⟩ := kx E ce q u t T'.heap (locs ++ L) e1.symm (by rw [← e2]; exact X'.warmed.alike) hp hb k1 k2 k3 (by rw [e1]; exact hce) hcv hcl T' rfl X'
    exact ⟨t2, st.trans a1, b1⟩
theorem vx_callf {S SX : Type} {post : UInt32 → S → Prop} {px : SX → Prop} {B : S → State → Prop} {BX : String → SX → State → Prop} {AX : Nat → Prop} (hr : vx_Run p l e R s m args below meth c H locs cells slots mc ms (F0 m pc ls st0) rest (va_Qf post B A1 a) (vx_X px BX AX) free) (hS : va_S A0 H0 H locs) (hA : ∀ q, q < H.size → A1 q → A0 q) (hf : ∀ q, free q → A0 q) (hAX : ∀ q, q < H.size → AX q → A0 q)
    (kx : ∀ (E : String) (ce : Cell) (q9 : Addr) (u : SX) (t : State) (H1 : Heap) (locs1 : List Loc), t.heap = H1 → s.vm.Alike t.vm → px u → BX E u t → H.size ≤ H1.size → (∀ q : Nat, q < H.size → ¬ AX q → H1[q]? = H[q]?) → va_S A0 H0 H1 locs1 → H1[q9]? = some ce → ce.vm = .none → s.vm.findClass E = some ce.cls → vx_W p l e R s m args below meth c H1 locs1 (cells + mc) (slots + ms) Q (F0 m pc ls rest) q9)
    (kk : ∀ (r : UInt32) (u : S) (t : State) (H1 : Heap) (locs1 : List Loc), t.heap = H1 → s.vm.Alike t.vm → post r u → B u t → H.size ≤ H1.size → (∀ q : Nat, q < H.size → ¬ A1 q → H1[q]? = H[q]?) → va_S A0 H0 H1 locs1 → W p l e R s m args below meth c H1 locs1 (cells + mc) (slots + ms) Q (F0 m (pc + 3) ls (.float r :: rest))) : W p l e R s m args below meth c H locs cells slots Q (F0 m pc ls st0) := by
  intro T hT X
  rcases hr T hT X with ⟨v, st₀, t, T', L, h0, X', hL, e1, e2, ⟨⟨r, u, hv, hp, hb⟩, hF⟩, st⟩ | ⟨q, st₀, t, T', L, E, ce, h0, X', hL, e1, e2, ⟨u, hp, hb, hF⟩, hce, hcv, hcl, st⟩
  · cases hv
    obtain ⟨k1, k2, k3⟩ := vx_keep h0 e1 hS hA hf hL hF
    obtain ⟨t2, a1, b1⟩ := kk r u t T'.heap (locs ++ L) e1.symm (by rw [← e2]; exact X'.warmed.alike) hp hb k1 k2 k3 T' rfl X'
    exact ⟨t2, st t2 a1, b1⟩
  · obtain ⟨k1, k2, k3⟩ := vx_keep h0 e1 hS hAX hf hL hF
    obtain ⟨t2, a1, b1⟩ := kx E ce q u t T'.heap (locs ++ L) e1.symm (by rw [← e2]; exact X'.warmed.alike) hp hb k1 k2 k3 (by rw [e1]; exact hce) hcv hcl T' rfl X'
    exact ⟨t2, st.trans a1, b1⟩
theorem vx_calld {S SX : Type} {post : UInt64 → S → Prop} {px : SX → Prop} {B : S → State → Prop} {BX : String → SX → State → Prop} {AX : Nat → Prop} (hr : vx_Run p l e R s m args below meth c H locs cells slots mc ms (F0 m pc ls st0) rest (va_Qd post B A1 a) (vx_X px BX AX) free) (hS : va_S A0 H0 H locs) (hA : ∀ q, q < H.size → A1 q → A0 q) (hf : ∀ q, free q → A0 q) (hAX : ∀ q, q < H.size → AX q → A0 q)
    (kx : ∀ (E : String) (ce : Cell) (q9 : Addr) (u : SX) (t : State) (H1 : Heap) (locs1 : List Loc), t.heap = H1 → s.vm.Alike t.vm → px u → BX E u t → H.size ≤ H1.size → (∀ q : Nat, q < H.size → ¬ AX q → H1[q]? = H[q]?) → va_S A0 H0 H1 locs1 → H1[q9]? = some ce → ce.vm = .none → s.vm.findClass E = some ce.cls → vx_W p l e R s m args below meth c H1 locs1 (cells + mc) (slots + ms) Q (F0 m pc ls rest) q9)
    (kk : ∀ (r : UInt64) (u : S) (t : State) (H1 : Heap) (locs1 : List Loc), t.heap = H1 → s.vm.Alike t.vm → post r u → B u t → H.size ≤ H1.size → (∀ q : Nat, q < H.size → ¬ A1 q → H1[q]? = H[q]?) → va_S A0 H0 H1 locs1 → W p l e R s m args below meth c H1 locs1 (cells + mc) (slots + ms) Q (F0 m (pc + 3) ls (.double r :: rest))) : W p l e R s m args below meth c H locs cells slots Q (F0 m pc ls st0) := by
  intro T hT X
  rcases hr T hT X with ⟨v, st₀, t, T', L, h0, X', hL, e1, e2, ⟨⟨r, u, hv, hp, hb⟩, hF⟩, st⟩ | ⟨q, st₀, t, T', L, E, ce, h0, X', hL, e1, e2, ⟨u, hp, hb, hF⟩, hce, hcv, hcl, st⟩
  · cases hv
    obtain ⟨k1, k2, k3⟩ := vx_keep h0 e1 hS hA hf hL hF
    obtain ⟨t2, a1, b1⟩ := kk r u t T'.heap (locs ++ L) e1.symm (by rw [← e2]; exact X'.warmed.alike) hp hb k1 k2 k3 T' rfl X'
    exact ⟨t2, st t2 a1, b1⟩
  · obtain ⟨k1, k2, k3⟩ := vx_keep h0 e1 hS hAX hf hL hF
    obtain ⟨t2, a1, b1⟩ := kx E ce q u t T'.heap (locs ++ L) e1.symm (by rw [← e2]; exact X'.warmed.alike) hp hb k1 k2 k3 (by rw [e1]; exact hce) hcv hcl T' rfl X'
    exact ⟨t2, st.trans a1, b1⟩
theorem vx_callv {S SX : Type} {post : S → Prop} {px : SX → Prop} {B : S → State → Prop} {BX : String → SX → State → Prop} {AX : Nat → Prop} (hr : vx_Run p l e R s m args below meth c H locs cells slots mc ms (F0 m pc ls st0) rest (va_Qv post B A1 a) (vx_X px BX AX) free) (hS : va_S A0 H0 H locs) (hA : ∀ q, q < H.size → A1 q → A0 q) (hf : ∀ q, free q → A0 q) (hAX : ∀ q, q < H.size → AX q → A0 q)
    (kx : ∀ (E : String) (ce : Cell) (q9 : Addr) (u : SX) (t : State) (H1 : Heap) (locs1 : List Loc), t.heap = H1 → s.vm.Alike t.vm → px u → BX E u t → H.size ≤ H1.size → (∀ q : Nat, q < H.size → ¬ AX q → H1[q]? = H[q]?) → va_S A0 H0 H1 locs1 → H1[q9]? = some ce → ce.vm = .none → s.vm.findClass E = some ce.cls → vx_W p l e R s m args below meth c H1 locs1 (cells + mc) (slots + ms) Q (F0 m pc ls rest) q9)
    (kk : ∀ (u : S) (t : State) (H1 : Heap) (locs1 : List Loc), t.heap = H1 → s.vm.Alike t.vm → post u → B u t → H.size ≤ H1.size → (∀ q : Nat, q < H.size → ¬ A1 q → H1[q]? = H[q]?) → va_S A0 H0 H1 locs1 → W p l e R s m args below meth c H1 locs1 (cells + mc) (slots + ms) Q (F0 m (pc + 3) ls (rest))) : W p l e R s m args below meth c H locs cells slots Q (F0 m pc ls st0) := by
  intro T hT X
  rcases hr T hT X with ⟨v, st₀, t, T', L, h0, X', hL, e1, e2, ⟨⟨u, hv, hp, hb⟩, hF⟩, st⟩ | ⟨q, st₀, t, T', L, E, ce, h0, X', hL, e1, e2, ⟨u, hp, hb, hF⟩, hce, hcv, hcl, st⟩
  · cases hv
    obtain ⟨k1, k2, k3⟩ := vx_keep h0 e1 hS hA hf hL hF
    obtain ⟨t2, a1, b1⟩ := kk u t T'.heap (locs ++ L) e1.symm (by rw [← e2]; exact X'.warmed.alike) hp hb k1 k2 k3 T' rfl X'
    exact ⟨t2, st t2 a1, b1⟩
  · obtain ⟨k1, k2, k3⟩ := vx_keep h0 e1 hS hAX hf hL hF
    obtain ⟨t2, a1, b1⟩ := kx E ce q u t T'.heap (locs ++ L) e1.symm (by rw [← e2]; exact X'.warmed.alike) hp hb k1 k2 k3 (by rw [e1]; exact hce) hcv hcl T' rfl X'
    exact ⟨t2, st.trans a1, b1⟩
/-- caught by the row x of this method's table; the rows ahead don't take it -/
theorem vx_catch {own name : String} {E : String} {ce : Cell} {q : Addr} (hown : s.vm.findClass own = some m.cls) (pre : List ExceptionTableEntry) (x : ExceptionTableEntry) (suf : List ExceptionTableEntry) (hsplit : c.exceptionTable.toList = pre ++ x :: suf)
    (hpass : ∀ z ∈ pre, covers z pc = false ∨ (z.catchType ≠ 0 ∧ ∃ nm : String, (Cond.classLink own z.catchType nm).before args s = true ∧ va_Nc E nm s)) (hx : covers x pc = true) (h0 : x.catchType ≠ 0)
    (hlink : (Cond.classLink own x.catchType name).before args s = true) (hcast : (Cond.castable E name).before args s = true) (hcell : H[q]? = some ce) (hv : ce.vm = .none) (hcl : s.vm.findClass E = some ce.cls)
    (kk : W p l e R s m args below meth c H locs cells slots Q (F0 m x.handlerPc ls [.ref q])) : vx_W p l e R s m args below meth c H locs cells slots Q (F0 m pc ls rest) q := by
  intro T hT X
  have hpl : e.platform.magicAccessors = ({} : Platform).magicAccessors := by rw [X.admits.platform]
  obtain ⟨c3, c4, hc3, hc4, hasg⟩ := Cond.castable_spec hcast
  cases Option.some.inj (hc3.symm.trans hcl)
  obtain ⟨c5, hc5, hcl5⟩ := Cond.classLink_spec hown hlink e.platform hpl
  cases Option.some.inj (hc4.symm.trans hc5)
  obtain ⟨vm', X', st⟩ := X.thenCaughtThrough q (g := F0 m pc ls rest) rfl (Steps.refl _) (by rw [hT]; exact hcell) (by rw [hv]; rfl) (by obtain ⟨k9, h9, -⟩ := Vm.findClass_spec hcl; exact ⟨k9, h9⟩) pre x suf hsplit
    (fun z hz => by
      rcases hpass z hz with h | ⟨hz0, nm, hl1, hn1⟩
      · exact Or.inl h
      · obtain ⟨c6, hc6, hcl6⟩ := Cond.classLink_spec hown hl1 e.platform hpl
        obtain ⟨a8, b8, h1, h2, h3⟩ := hn1
        cases Option.some.inj (h1.symm.trans hcl)
        cases Option.some.inj (h2.symm.trans hc6)
        exact Or.inr ⟨hz0, _, hcl6, h3⟩) hx (Or.inr ⟨h0, c4, hcl5, hasg⟩)
  obtain ⟨t, a1, b1⟩ := kk (T.setVm vm') hT X'
  exact ⟨t, st.trans a1, b1⟩
end Rows
section Ends
variable {p : Program} {l : Launch} {e : Env} {R : Room} {s : State} {m : MethodId} {args : Array Value} {below : List Frame} {meth : Method} {c : Code} {H : Heap} {locs : List Loc} {cells slots : Nat} {Q : State → Prop}
variable {mc ms : Nat} {free : Addr → Prop} {A0 A1 : Nat → Prop} {H0 : Heap} {a : Array Value} {ls : Array Slot} {st0 rest : List Value}
variable {Qc : Array Value → State → Outcome → State → Prop} {XC : String → State → State → Prop}
/-- what a body that may throw owes at its end -/
def vx_MQ (below : List Frame) (Qc : Array Value → State → Outcome → State → Prop) (XC : String → State → State → Prop) (a : Array Value) (s : State) (mc ms : Nat) (free : Addr → Prop) : State → Prop := fun t =>
  ∃ o, t.status = .running ∧ Ended t below o ∧ vx_Q Qc XC mc ms free a s o t
theorem vx_ret {g : JFrame} {mc ms : Nat} (k : W p l e R s m args below meth c H locs cells slots (MQ below Qc args s mc ms free) g) : W p l e R s m args below meth c H locs cells slots (vx_MQ below Qc XC args s mc ms free) g := by
  intro T hT X
  obtain ⟨t, a1, o, b1, b2, b3, b4⟩ := k T hT X
  exact ⟨t, a1, o, b1, b2, Or.inl ⟨b3, b4⟩⟩
/-- not caught here: it goes on to the caller -/
theorem vx_widen {g : JFrame} {q : Addr} {k n : Nat} (h1 : cells ≤ k) (h2 : slots ≤ n) (kk : vx_W p l e R s m args below meth c H locs k n Q g q) : vx_W p l e R s m args below meth c H locs cells slots Q g q := fun T hT X => kk T hT (stand_widen X h1 h2)
theorem vx_out {pc : Nat} {E : String} {ce : Cell} {q : Addr} {mc ms : Nat} (hout : ∀ x ∈ c.exceptionTable.toList, covers x pc = false) (hlocks : meth.locks = false) (hcell : H[q]? = some ce) (hv : ce.vm = .none) (hcl : s.vm.findClass E = some ce.cls)
    (hx : ∀ t : State, t.heap = H → s.vm.Alike t.vm → XC E s t) (hf : ∀ z ∈ locs, free z.base) (hc : cells ≤ mc) (hs : slots ≤ ms) :
    vx_W p l e R s m args below meth c H locs cells slots (vx_MQ below Qc XC args s mc ms free) (F0 m pc ls rest) q := by
  intro T hT X
  obtain ⟨st1, hrun, hend, hW, hsm⟩ := X.leaveThrown q (g := F0 m pc ls rest) rfl rfl rfl hout hlocks
  have hcell9 : (T.setFrames (.throwing q :: below)).heap[q]? = some ce := by
    show T.heap[q]? = some ce
    rw [hT]; exact hcell
  exact ⟨_, st1, .threw q, hrun, hend, Or.inr ⟨q, rfl, E, ce, locs, hx _ hT hW.alike, hcell9, hv, hcl, hW, hsm.mono hc hs, hf⟩⟩
theorem vx_frame {U : State} {k n : Nat} (h : s.sameButNew ({ U with vm := s.vm } : State) locs k n) : s.heap.size ≤ U.heap.size ∧ ∀ q : Nat, q < s.heap.size → (∀ z ∈ locs, z.base ≠ q) → U.heap[q]? = s.heap[q]? := by
  obtain ⟨-, h2, -, -, -, h6⟩ := h
  refine ⟨h2, fun q hq hz => ?_⟩
  obtain ⟨c9, e1, e2, e3, e4⟩ := h6 q _ (Array.getElem?_eq_getElem hq)
  have hs : c9.slots = (s.heap[q]).slots := Array.ext_getElem? fun i => e4 i fun hm => hz _ hm rfl
  have h9 : c9 = s.heap[q] := by
    rw [hs] at e2
    exact e2
  have e5 : U.heap[q]? = some c9 := e1
  rw [e5, h9, Array.getElem?_eq_getElem hq]
/-- the words of a throw but the four that speak of the heap -/
def vx_no (w : Cond) : Bool := decide (w ≠ .isRef (.static Bundle.tN "UNASSIGNED_STACK" Bundle.steD)) && decide (w ≠ .isRef (.static Bundle.tN "SUPPRESSED_SENTINEL" Bundle.listD)) && decide (w ≠ .laysStatic Bundle.tN "UNASSIGNED_STACK" Bundle.steD) && decide (w ≠ .laysStatic Bundle.tN "SUPPRESSED_SENTINEL" Bundle.listD)
def vx_at0 (own : String) (ic : Nat) (X : String) (names : List String) : List Cond := (Bundle.ownAtoms0 own ic X names).filter vx_no
def vx_atS (own : String) (ic : Nat) (X : String) (names : List String) : List Cond := (Bundle.ownAtoms own ic X names).filter vx_no
/-- a word that the tables alone decide, or a good one -/
def vx_ot (w : Cond) : Bool := w.onTables || goodWord w
theorem vx_ot_at {args a' : Array Value} {s U : State} {w : Cond} (hW : s.WarmedH U.vm) (hvm : s.vm = U.vm) (hg : vx_ot w = true) (h : w.before args s = true) : w.before a' U = true := by
  simp only [vx_ot, Bool.or_eq_true] at hg
  rcases hg with hg | hg
  · exact va_tabs hg hvm h
  · exact word_at hW (good_of_word hg) h
/-- a list's words: the good ones out of the method's own list, the others by premises of their own -/
theorem vx_hat {args : Array Value} {s : State} {L B : List Cond} (h1 : ∀ w ∈ L.filter goodWord, w.before args s = true) (h2 : ∀ w ∈ L.filter (fun w => !goodWord w), w ∈ B) (h3 : ∀ w ∈ B, w.before args s = true) : ∀ w ∈ L, w.before args s = true := by
  intro w hw
  by_cases g : goodWord w = true
  · exact h1 w (List.mem_filter.mpr ⟨hw, g⟩)
  · refine h3 w (h2 w (List.mem_filter.mpr ⟨hw, ?_⟩))
    show (!goodWord w) = true
    cases hgw : goodWord w
    · rfl
    · exact absurd hgw g
theorem vx_c {args : Array Value} {s : State} {w : Cond} {B : List Cond} (h : w.before args s = true) (t : ∀ w ∈ B, w.before args s = true) : ∀ w' ∈ w :: B, w'.before args s = true := fun w' h' => (List.mem_cons.mp h').elim (fun e => by rw [e]; exact h) (t w')
theorem vx_n {args : Array Value} {s : State} : ∀ w ∈ ([] : List Cond), w.before args s = true := fun _ h => nomatch h
theorem vx_own {args : Array Value} {s : State} {L : List Cond} (h1 : ∀ w ∈ L.filter vx_no, w.before args s = true)
    (hU : (Cond.isRef (.static Bundle.tN "UNASSIGNED_STACK" Bundle.steD)).before args s = true) (hN : (Cond.isRef (.static Bundle.tN "SUPPRESSED_SENTINEL" Bundle.listD)).before args s = true)
    (lU : (Cond.laysStatic Bundle.tN "UNASSIGNED_STACK" Bundle.steD).before args s = true) (lN : (Cond.laysStatic Bundle.tN "SUPPRESSED_SENTINEL" Bundle.listD).before args s = true) : ∀ w ∈ L, w.before args s = true := by
  intro w hw
  by_cases e1 : w = .isRef (.static Bundle.tN "UNASSIGNED_STACK" Bundle.steD)
  · rw [e1]; exact hU
  · by_cases e2 : w = .isRef (.static Bundle.tN "SUPPRESSED_SENTINEL" Bundle.listD)
    · rw [e2]; exact hN
    · by_cases e3 : w = .laysStatic Bundle.tN "UNASSIGNED_STACK" Bundle.steD
      · rw [e3]; exact lU
      · by_cases e4 : w = .laysStatic Bundle.tN "SUPPRESSED_SENTINEL" Bundle.listD
        · rw [e4]; exact lN
        · exact h1 w (List.mem_filter.mpr ⟨hw, by unfold vx_no; rw [decide_eq_true e1, decide_eq_true e2, decide_eq_true e3, decide_eq_true e4]; rfl⟩)
/-- where a static field lies, its class's statics cell in H -/
def vx_L (C n d : String) (A : Nat → Prop) (U : State) (H : Heap) : Prop := ∃ (c : ClassId) (k : Class) (i : Nat) (f : Field) (a : Nat) (cell : Cell), U.vm.findClass C = some c ∧ U.fieldFound? C n d = some (c, k, i, f) ∧ f.isStatic = true ∧ k.statics = some a ∧ H[a]? = some cell ∧ cell.vm.isStatics = true ∧ cell.cls = c ∧ f.slot < cell.slots.size ∧ k.staticTypes[f.slot]? = some f.type ∧ ¬ A a
theorem vx_L.moved {C n d : String} {A : Nat → Prop} {u U : State} {H : Heap} (hvm : u.vm.Alike U.vm) (h : vx_L C n d A u H) : vx_L C n d A U H := by
  obtain ⟨c, k, i, f, a, cell, h1, h2, h3, h4, h5, h6, h7, h8, h9, h10⟩ := h
  obtain ⟨k', hi', he⟩ := State.fieldFound?_setVm hvm h2
  exact ⟨c, k', i, f, a, cell, by rw [hvm.findClass]; exact h1, hi', h3, by rw [he]; exact h4, h5, h6, h7, h8, by rw [he]; exact h9, h10⟩
theorem vx_L.kept {C n d : String} {A : Nat → Prop} {U : State} {H H1 : Heap} (h : vx_L C n d A U H) (hq : ∀ a : Nat, a < H.size → ¬ A a → H1[a]? = H[a]?) : vx_L C n d A U H1 := by
  obtain ⟨c, k, i, f, a, cell, h1, h2, h3, h4, h5, h6, h7, h8, h9, h10⟩ := h
  exact ⟨c, k, i, f, a, cell, h1, h2, h3, h4, by rw [hq a (Array.getElem?_eq_some_iff.mp h5).1 h10]; exact h5, h6, h7, h8, h9, h10⟩
theorem vx_L.narrow {C n d : String} {A B : Nat → Prop} {U : State} {H : Heap} (h : vx_L C n d A U H) (hAB : ∀ q, B q → A q) : vx_L C n d B U H := by
  obtain ⟨c, k, i, f, a, cell, h1, h2, h3, h4, h5, h6, h7, h8, h9, h10⟩ := h
  exact ⟨c, k, i, f, a, cell, h1, h2, h3, h4, h5, h6, h7, h8, h9, fun z => h10 (hAB _ z)⟩
theorem vx_L.word {C n d : String} {A : Nat → Prop} {s : State} {args : Array Value} (h : vx_L C n d A s s.heap) : (Cond.laysStatic C n d).before args s = true := by
  obtain ⟨c, k, i, f, a, cell, h1, h2, h3, h4, h5, h6, h7, h8, h9, -⟩ := h
  show (Cond.laysStatic C n d).holds args s none s [] = true
  exact Cond.laysStatic_of h1 h2 h3 h4 h5 h6 h7 h8 h9
/-- .. and what it holds: null or some reference -/
def vx_Zq (C n d : String) (A : Nat → Prop) (U : State) (H : Heap) : Prop := va_Zq C n d A U H ∧ vx_L C n d A U H
theorem vx_Zq.moved {C n d : String} {A : Nat → Prop} {u U : State} {H : Heap} (hvm : u.vm.Alike U.vm) (h : vx_Zq C n d A u H) : vx_Zq C n d A U H := ⟨va_Zq.moved hvm h.1, vx_L.moved hvm h.2⟩
theorem vx_Zq.kept {C n d : String} {A : Nat → Prop} {U : State} {H H1 : Heap} (h : vx_Zq C n d A U H) (hq : ∀ a : Nat, a < H.size → ¬ A a → H1[a]? = H[a]?) : vx_Zq C n d A U H1 := ⟨va_Zq.kept h.1 hq, vx_L.kept h.2 hq⟩
theorem vx_Zq.narrow {C n d : String} {A B : Nat → Prop} {U : State} {H : Heap} (h : vx_Zq C n d A U H) (hAB : ∀ q, B q → A q) : vx_Zq C n d B U H := ⟨va_Zq.narrow h.1 hAB, vx_L.narrow h.2 hAB⟩
theorem vx_Zqof {args : Array Value} {s : State} {C n d : String} {A : Nat → Prop} (hl : (Cond.laysStatic C n d).before args s = true) (hini : (Cond.initialized C).before args s = true) (h : (Cond.isRef (.static C n d)).before args s = true) (hA : ∀ a : Nat, a < s.heap.size → ¬ A a) : vx_Zq C n d A s s.heap := by
  refine ⟨va_Zqof hl hini h hA, ?_⟩
  obtain ⟨c, k, i, f, a, cell, h1, h2, h3, h4, h5, h6, h7, h8, h9⟩ := Cond.laysStatic_spec hl
  exact ⟨c, k, i, f, a, cell, h1, h2, h3, h4, h5, h6, h7, h8, h9, hA a (Array.getElem?_eq_some_iff.mp h5).1⟩
theorem vx_isRef {C n d : String} {v : Value} {A : Nat → Prop} {s : State} {args : Array Value} (h : va_Z C n d v A s s.heap) (hv : v.isRef = true) : (Cond.isRef (.static C n d)).before args s = true := by
  obtain ⟨cf, kf, fi, f, a, cell, h1, h2, h3, h4, h5, h6, h7, -⟩ := h
  have he : (Term.static C n d).eval args s none [] s = some v := by
    simp [Term.eval, State.fieldNamed?, h1, h2, h4, h5, h6, h7]
  simp only [Cond.before, Cond.holds, Cond.value, he]
  cases v <;> simp_all [Value.isRef]
theorem vx_isRefq {C n d : String} {A : Nat → Prop} {s : State} {args : Array Value} (h : va_Zq C n d A s s.heap) : (Cond.isRef (.static C n d)).before args s = true := by
  rcases h with h | ⟨t, h⟩
  · exact vx_isRef h rfl
  · exact vx_isRef h rfl
/-- the same frame, seen from here: as if the method were called anew in this heap -/
theorem vx_rebase {T : State} (X : Stand p l e R s m args below meth c T locs cells slots) {R' : Room} (hf : R'.frames ≤ R.frames) (hl : R'.locals ≤ R.locals) (hc : cells + R'.cells ≤ R.cells) (hs : slots + R'.slots ≤ R.slots) :
    Stand p l e R' ((T.setVm s.vm).setFrames (.invoking m args :: below)) m args below meth c T [] 0 0 := by
  have htop : (T.setVm s.vm).topJava?.isSome := X.here.top
  have hF : ((T.setVm s.vm).setFrames (.invoking m args :: below)).frames = .invoking m args :: below := State.frames_setFrames _ (State.cur_lt_of_top htop)
  obtain ⟨g₀, hg0⟩ := Option.isSome_iff_exists.mp htop
  obtain ⟨r, hr⟩ := State.topJava?_eq_some.mp hg0
  have hl9 : e.platform.stackLimits (T.setVm s.vm).me = e.platform.stackLimits s.me := X.limits
  have hb9 : (T.setVm s.vm).me.stackBytes = s.me.stackBytes := X.bytes
  refine ⟨X.admits, X.cas, X.clock, hF, ?_, X.hears, X.method, X.code, X.here, X.tail, X.warmed, ?_, ?_, ?_⟩
  · have h := X.room
    have hU : ((T.setVm s.vm).setFrames (.invoking m args :: below)).localsInUse = s.localsInUse := by
      rw [State.localsInUse_invoking hF (meth := meth) (c := c) X.method X.code, State.localsInUse_invoking X.frames X.method X.code]
    simp only [State.hasRoom, Bool.and_eq_true, decide_eq_true_eq] at h ⊢
    obtain ⟨⟨⟨⟨h1, h2, h3, h4, h5, h6⟩, h7⟩, h8⟩, h9⟩ := h
    rw [X.frames, List.length_cons] at h2 h3
    have q1 := X.heapSize
    have q2 := X.used
    simp only [hF, hU, List.length_cons, State.stackLimits_setFrames, State.stackBytes_setFrames, hl9, hb9]
    refine ⟨⟨⟨⟨by omega, by omega, by omega, by omega, by omega, h6⟩, ?_⟩, ?_⟩, X.book⟩
    · show T.heap.size + R'.cells ≤ e.platform.maxCells
      omega
    · show T.slotsUsed + R'.slots ≤ e.platform.maxSlots
      omega
  · rw [State.stackLimits_setFrames]; rfl
  · rw [State.stackBytes_setFrames]; rfl
  · refine ⟨?_, Nat.le_refl _, Nat.le_refl _, ?_, ?_, fun a c9 h9 => ⟨c9, h9, rfl, rfl, fun _ _ => rfl⟩⟩
    · obtain ⟨t, ht, -⟩ := State.frames_cons hr
      show T.setVm s.vm = { ((T.setVm s.vm).setFrames (.invoking m args :: below)).setFrames (T.setVm s.vm).frames with heap := T.heap, slotsUsed := T.slotsUsed }
      rw [State.setFrames_setFrames, State.setFrames_self ht]
      rfl
    · show T.slotsUsed = T.slotsUsed + ((T.heap.toList.drop T.heap.size).map (·.slots.size)).sum
      rw [List.drop_eq_nil_of_le (Nat.le_of_eq Array.length_toList)]
      rfl
    · show ((T.heap.toList.drop T.heap.size).map (·.slots.size)).sum ≤ 0
      rw [List.drop_eq_nil_of_le (Nat.le_of_eq Array.length_toList)]
      exact Nat.le_refl _
/-- 'throw new E()': new; dup; invokespecial; athrow -/
theorem vx_throw0 {cc : ByteArray} {pc : Nat} (hexec : p.tables.exec = Jvm.exec) (hb : c.code = cc) (hl : l.stackTraces = false) {own cls : String} {names : List String} {ik ic mc ms : Nat} {A : Nat → Prop}
    (hown : s.vm.findClass own = some m.cls) (hcls : Bundle.fit cls = true) (hnames : ∀ n ∈ names, Bundle.fit n = true)
    (hk : (Cond.classLink own ik cls).before args s = true) (hini : (Cond.initialized cls).before args s = true) (hat : ∀ w ∈ vx_at0 own ic cls names, w.before args s = true)
    (hgood : ∀ w ∈ Cond.classLink own ik cls :: Cond.initialized cls :: vx_at0 own ic cls names, vx_ot w = true)
    (hU : vx_Zq Bundle.tN "UNASSIGNED_STACK" Bundle.steD A s s.heap) (hN : vx_Zq Bundle.tN "SUPPRESSED_SENTINEL" Bundle.listD A s s.heap) (hS : va_S A s.heap H locs) (hsize : ls.size = c.maxLocals)
    (d0 : decode cc pc = .ok (.new ik, 3)) (d3 : decode cc (pc + 3) = .ok (.dup, 1)) (d4 : decode cc (pc + 4) = .ok (.invokespecial ic, 3)) (d7 : decode cc (pc + 7) = .ok (.athrow, 1))
    (hout : ∀ x ∈ c.exceptionTable.toList, covers x (pc + 7) = false)
    (hRframes : names.length + 3 < R.frames) (hRlocals : (rest.map fun v => v.category).sum + (13 * (names.length + 1) + 42) ≤ R.locals) (hRcells : cells + 1 ≤ R.cells) (hRslots : slots + 6 ≤ R.slots) (hlocks : meth.locks = false)
    (hx : ∀ t : State, s.vm.Alike t.vm → H.size ≤ t.heap.size → (∀ q : Nat, q < H.size → t.heap[q]? = H[q]?) → XC cls s t)
    (hf : ∀ z ∈ locs, free z.base) (hc : cells + 1 ≤ mc) (hs : slots + 6 ≤ ms) :
    W p l e R s m args below meth c H locs cells slots (vx_MQ below Qc XC args s mc ms free) (F0 m pc ls rest) := by
  intro T hT X
  have htr : e.platform.stackTraces = false := (show e.platform.stackTraces = l.stackTraces by rw [X.admits.platform]).trans hl
  have Y := vx_rebase X (R' := { frames := R.frames, locals := R.locals, cells := 1, slots := 6 }) (Nat.le_refl _) (Nat.le_refl _) hRcells hRslots
  obtain ⟨s', hA⟩ : ∃ z, z = (T.setVm s.vm).setFrames (.invoking m args :: below) := ⟨_, rfl⟩
  rw [← hA] at Y
  have hvm : s'.vm = s.vm := by rw [hA]; rfl
  have hhp : s'.heap = H := by rw [hA]; exact hT
  have hW0 : s.WarmedH s'.vm := by rw [hvm]; exact State.WarmedH.refl s
  have hat' : ∀ w ∈ vx_at0 own ic cls names, w.before args s' = true := fun w hw => vx_ot_at hW0 hvm.symm (hgood w (List.mem_cons_of_mem _ (List.mem_cons_of_mem _ hw))) (hat w hw)
  have hk' : (Cond.classLink own ik cls).before args s' = true := vx_ot_at hW0 hvm.symm (hgood _ List.mem_cons_self) hk
  have hini' : (Cond.initialized cls).before args s' = true := vx_ot_at hW0 hvm.symm (hgood _ (List.mem_cons_of_mem _ List.mem_cons_self)) hini
  have hU' : vx_Zq Bundle.tN "UNASSIGNED_STACK" Bundle.steD A s' s'.heap := by rw [hhp]; exact vx_Zq.moved hW0.alike (hU.kept hS.2.1)
  have hN' : vx_Zq Bundle.tN "SUPPRESSED_SENTINEL" Bundle.listD A s' s'.heap := by rw [hhp]; exact vx_Zq.moved hW0.alike (hN.kept hS.2.1)
  have h : ∀ w ∈ Bundle.ownAtoms0 own ic cls names, w.before args s' = true := vx_own hat' (vx_isRefq hU'.1) (vx_isRefq hN'.1) hU'.2.word hN'.2.word
  have hown' : s'.vm.findClass own = some m.cls := by rw [hvm]; exact hown
  have hins : (Cond.instantiable cls 6).before args s' = true := h _ (by simp [Bundle.ownAtoms0])
  obtain ⟨vm₁, cX, kX, hfX, hkX, -, -, X₁, st1⟩ := Y.newCold hexec (own := own) (C := cls) (index := ik) (n := 6) hown' hk' hins hini'
    (g := F0 m pc ls rest) rfl (by rw [hb]; exact d0) (Nat.le_refl _) (Nat.le_refl _)
  generalize hT1 : (T.setVm vm₁).pushCell { cls := cX, slots := kX.instanceTypes.map defaultValue, vm := .none } = T1 at X₁ st1
  have hcat : (Value.ref T.heap.size).category = 1 := rfl
  have hcellA : T1.heap[T.heap.size]? = some (freshCell cX kX) := by rw [← hT1]; exact State.heap_pushCell_size _ _
  have d3' : decode c.code (pc + 3) = .ok (.dup, 1) := by rw [hb]; exact d3
  obtain ⟨U, hsteps, hrun, hend, hW, hsame, ce, hce, hO⟩ := X₁.ctorThrow0 hexec htr (own := own) (cls := cls) (names := names) (ic := ic) hown' hcls hnames h (fun x hx => nomatch hx) hfX hkX hcellA (by rw [hhp, hT]; exact Nat.le_refl _)
    (g := { method := m, pc := pc + 4, locals := ls, stack := .ref T.heap.size :: .ref T.heap.size :: rest, locked := none }) rfl hsize rfl rfl (rest := rest) rfl
    (by rw [hb]; exact d4) (by rw [hb]; exact d7) hout hRframes (by simp only [List.map_cons, List.sum_cons, hcat]; omega) hlocks
  obtain ⟨f1, f2⟩ := vx_frame hsame
  rw [hhp] at f1 f2
  have hWs : s.WarmedH U.vm := State.WarmedH.trans hW0 hW
  have hcl : s.vm.findClass cls = some ce.cls := by
    have h9 := hO.cls
    rw [hvm] at h9
    exact h9
  have hall : s.sameButNew ({ U with vm := s.vm } : State) locs mc ms := by
    subst hA
    obtain ⟨e1, e2⟩ := hsame
    rw [State.setFrames_setFrames] at e1
    have h2 : (T.setVm s.vm).sameButNew ({ U with vm := s.vm } : State) [] (0 + 1) (0 + 6) := ⟨e1, e2⟩
    have h3 := X.same.trans h2
    rw [List.append_nil] at h3
    exact h3.mono hc hs
  refine ⟨U, ?_, .threw T.heap.size, hrun, hend, Or.inr ⟨T.heap.size, rfl, cls, ce, locs, hx U hWs.alike f1 (fun q hq => f2 q hq (fun z hz => nomatch hz)), hce, hO.vm, hcl, hWs, hall, hf⟩⟩
  refine st1 _ ?_
  show Steps p.tables e below (T1.setTop { method := m, pc := pc + 3, locals := ls, stack := .ref T.heap.size :: rest, locked := none }) _
  jvm_step X₁.here [X₁.here.top, hexec, d3', Value.category]
  exact hsteps
/-- 'throw new E("text")': new; dup; ldc; invokespecial; athrow -/
theorem vx_throwS {cc : ByteArray} {pc : Nat} (hexec : p.tables.exec = Jvm.exec) (hb : c.code = cc) (hl : l.stackTraces = false) {own cls text : String} {names : List String} {ik is ic mc ms sa : Nat} {A : Nat → Prop}
    (hown : s.vm.findClass own = some m.cls) (hcls : Bundle.fit cls = true) (hnames : ∀ n ∈ names, Bundle.fit n = true)
    (hk : (Cond.classLink own ik cls).before args s = true) (hini : (Cond.initialized cls).before args s = true) (hstr : vk_R own is text sa s) (hat : ∀ w ∈ vx_atS own ic cls names, w.before args s = true)
    (hgood : ∀ w ∈ Cond.classLink own ik cls :: Cond.initialized cls :: vx_atS own ic cls names, vx_ot w = true)
    (hU : vx_Zq Bundle.tN "UNASSIGNED_STACK" Bundle.steD A s s.heap) (hN : vx_Zq Bundle.tN "SUPPRESSED_SENTINEL" Bundle.listD A s s.heap) (hS : va_S A s.heap H locs) (hsize : ls.size = c.maxLocals)
    (d0 : decode cc pc = .ok (.new ik, 3)) (d3 : decode cc (pc + 3) = .ok (.dup, 1)) (d4 : decode cc (pc + 4) = .ok (.ldc is, 2)) (d6 : decode cc (pc + 6) = .ok (.invokespecial ic, 3)) (d9 : decode cc (pc + 9) = .ok (.athrow, 1))
    (hout : ∀ x ∈ c.exceptionTable.toList, covers x (pc + 9) = false)
    (hRframes : names.length + 3 < R.frames) (hRlocals : (rest.map fun v => v.category).sum + (13 * (names.length + 1) + 43) ≤ R.locals) (hRcells : cells + 1 ≤ R.cells) (hRslots : slots + 6 ≤ R.slots) (hlocks : meth.locks = false)
    (hx : ∀ t : State, s.vm.Alike t.vm → H.size ≤ t.heap.size → (∀ q : Nat, q < H.size → t.heap[q]? = H[q]?) → XC cls s t)
    (hf : ∀ z ∈ locs, free z.base) (hc : cells + 1 ≤ mc) (hs : slots + 6 ≤ ms) :
    W p l e R s m args below meth c H locs cells slots (vx_MQ below Qc XC args s mc ms free) (F0 m pc ls rest) := by
  intro T hT X
  have htr : e.platform.stackTraces = false := (show e.platform.stackTraces = l.stackTraces by rw [X.admits.platform]).trans hl
  have Y := vx_rebase X (R' := { frames := R.frames, locals := R.locals, cells := 1, slots := 6 }) (Nat.le_refl _) (Nat.le_refl _) hRcells hRslots
  obtain ⟨s', hA⟩ : ∃ z, z = (T.setVm s.vm).setFrames (.invoking m args :: below) := ⟨_, rfl⟩
  rw [← hA] at Y
  have hvm : s'.vm = s.vm := by rw [hA]; rfl
  have hhp : s'.heap = H := by rw [hA]; exact hT
  have hW0 : s.WarmedH s'.vm := by rw [hvm]; exact State.WarmedH.refl s
  have hat' : ∀ w ∈ vx_atS own ic cls names, w.before args s' = true := fun w hw => vx_ot_at hW0 hvm.symm (hgood w (List.mem_cons_of_mem _ (List.mem_cons_of_mem _ hw))) (hat w hw)
  have hk' : (Cond.classLink own ik cls).before args s' = true := vx_ot_at hW0 hvm.symm (hgood _ List.mem_cons_self) hk
  have hini' : (Cond.initialized cls).before args s' = true := vx_ot_at hW0 hvm.symm (hgood _ (List.mem_cons_of_mem _ List.mem_cons_self)) hini
  have hU' : vx_Zq Bundle.tN "UNASSIGNED_STACK" Bundle.steD A s' s'.heap := by rw [hhp]; exact vx_Zq.moved hW0.alike (hU.kept hS.2.1)
  have hN' : vx_Zq Bundle.tN "SUPPRESSED_SENTINEL" Bundle.listD A s' s'.heap := by rw [hhp]; exact vx_Zq.moved hW0.alike (hN.kept hS.2.1)
  have h : ∀ w ∈ Bundle.ownAtoms own ic cls names, w.before args s' = true := vx_own hat' (vx_isRefq hU'.1) (vx_isRefq hN'.1) hU'.2.word hN'.2.word
  have hown' : s'.vm.findClass own = some m.cls := by rw [hvm]; exact hown
  have hins : (Cond.instantiable cls 6).before args s' = true := h _ (by simp [Bundle.ownAtoms])
  obtain ⟨vm₁, cX, kX, hfX, hkX, -, -, X₁, st1⟩ := Y.newCold hexec (own := own) (C := cls) (index := ik) (n := 6) hown' hk' hins hini'
    (g := F0 m pc ls rest) rfl (by rw [hb]; exact d0) (Nat.le_refl _) (Nat.le_refl _)
  generalize hT1 : (T.setVm vm₁).pushCell { cls := cX, slots := kX.instanceTypes.map defaultValue, vm := .none } = T1 at X₁ st1
  have hcat : (Value.ref T.heap.size).category = 1 := rfl
  have hcellA : T1.heap[T.heap.size]? = some (freshCell cX kX) := by rw [← hT1]; exact State.heap_pushCell_size _ _
  have d3' : decode c.code (pc + 3) = .ok (.dup, 1) := by rw [hb]; exact d3
  have d4' : decode c.code (pc + 4) = .ok (.ldc is, 2) := by rw [hb]; exact d4
  have hstr' : vk_R own is text sa s' := vk_R.warm hW0 hstr
  obtain ⟨U, hsteps, hrun, hend, hW, hsame, ce, hce, hO⟩ := X₁.ctorThrowS hexec htr (own := own) (cls := cls) (names := names) (ic := ic) hown' hcls hnames h (fun x hx => nomatch hx) hfX hkX hcellA (by rw [hhp, hT]; exact Nat.le_refl _) (msg := .ref sa) rfl
    (g := { method := m, pc := pc + 6, locals := ls, stack := .ref sa :: .ref T.heap.size :: .ref T.heap.size :: rest, locked := none }) rfl hsize rfl rfl (rest := rest) rfl
    (by rw [hb]; exact d6) (by rw [hb]; exact d9) hout hRframes (by simp only [List.map_cons, List.sum_cons, hcat]; omega) hlocks
  obtain ⟨f1, f2⟩ := vx_frame hsame
  rw [hhp] at f1 f2
  have hWs : s.WarmedH U.vm := State.WarmedH.trans hW0 hW
  have hcl : s.vm.findClass cls = some ce.cls := by
    have h9 := hO.cls
    rw [hvm] at h9
    exact h9
  have hall : s.sameButNew ({ U with vm := s.vm } : State) locs mc ms := by
    subst hA
    obtain ⟨e1, e2⟩ := hsame
    rw [State.setFrames_setFrames] at e1
    have h2 : (T.setVm s.vm).sameButNew ({ U with vm := s.vm } : State) [] (0 + 1) (0 + 6) := ⟨e1, e2⟩
    have h3 := X.same.trans h2
    rw [List.append_nil] at h3
    exact h3.mono hc hs
  refine ⟨U, ?_, .threw T.heap.size, hrun, hend, Or.inr ⟨T.heap.size, rfl, cls, ce, locs, hx U hWs.alike f1 (fun q hq => f2 q hq (fun z hz => nomatch hz)), hce, hO.vm, hcl, hWs, hall, hf⟩⟩
  refine st1 _ ?_
  show Steps p.tables e below (T1.setTop { method := m, pc := pc + 3, locals := ls, stack := .ref T.heap.size :: rest, locked := none }) _
  jvm_step X₁.here [X₁.here.top, hexec, d3', Value.category]
  exact X₁.ldcString hexec (own := own) (text := text) (index := is) (a := sa) hown' hstr'.1 hstr'.2
    (g := { method := m, pc := pc + 4, locals := ls, stack := .ref T.heap.size :: .ref T.heap.size :: rest, locked := none }) rfl d4' _ hsteps
/-- 'throw new E("text")', the text by a wide index -/
theorem vx_throwSW {cc : ByteArray} {pc : Nat} (hexec : p.tables.exec = Jvm.exec) (hb : c.code = cc) (hl : l.stackTraces = false) {own cls text : String} {names : List String} {ik is ic mc ms sa : Nat} {A : Nat → Prop}
    (hown : s.vm.findClass own = some m.cls) (hcls : Bundle.fit cls = true) (hnames : ∀ n ∈ names, Bundle.fit n = true)
    (hk : (Cond.classLink own ik cls).before args s = true) (hini : (Cond.initialized cls).before args s = true) (hstr : vk_R own is text sa s) (hat : ∀ w ∈ vx_atS own ic cls names, w.before args s = true)
    (hgood : ∀ w ∈ Cond.classLink own ik cls :: Cond.initialized cls :: vx_atS own ic cls names, vx_ot w = true)
    (hU : vx_Zq Bundle.tN "UNASSIGNED_STACK" Bundle.steD A s s.heap) (hN : vx_Zq Bundle.tN "SUPPRESSED_SENTINEL" Bundle.listD A s s.heap) (hS : va_S A s.heap H locs) (hsize : ls.size = c.maxLocals)
    (d0 : decode cc pc = .ok (.new ik, 3)) (d3 : decode cc (pc + 3) = .ok (.dup, 1)) (d4 : decode cc (pc + 4) = .ok (.ldc_w is, 3)) (d7 : decode cc (pc + 7) = .ok (.invokespecial ic, 3)) (d10 : decode cc (pc + 10) = .ok (.athrow, 1))
    (hout : ∀ x ∈ c.exceptionTable.toList, covers x (pc + 10) = false)
    (hRframes : names.length + 3 < R.frames) (hRlocals : (rest.map fun v => v.category).sum + (13 * (names.length + 1) + 43) ≤ R.locals) (hRcells : cells + 1 ≤ R.cells) (hRslots : slots + 6 ≤ R.slots) (hlocks : meth.locks = false)
    (hx : ∀ t : State, s.vm.Alike t.vm → H.size ≤ t.heap.size → (∀ q : Nat, q < H.size → t.heap[q]? = H[q]?) → XC cls s t)
    (hf : ∀ z ∈ locs, free z.base) (hc : cells + 1 ≤ mc) (hs : slots + 6 ≤ ms) :
    W p l e R s m args below meth c H locs cells slots (vx_MQ below Qc XC args s mc ms free) (F0 m pc ls rest) := by
  intro T hT X
  have htr : e.platform.stackTraces = false := (show e.platform.stackTraces = l.stackTraces by rw [X.admits.platform]).trans hl
  have Y := vx_rebase X (R' := { frames := R.frames, locals := R.locals, cells := 1, slots := 6 }) (Nat.le_refl _) (Nat.le_refl _) hRcells hRslots
  obtain ⟨s', hA⟩ : ∃ z, z = (T.setVm s.vm).setFrames (.invoking m args :: below) := ⟨_, rfl⟩
  rw [← hA] at Y
  have hvm : s'.vm = s.vm := by rw [hA]; rfl
  have hhp : s'.heap = H := by rw [hA]; exact hT
  have hW0 : s.WarmedH s'.vm := by rw [hvm]; exact State.WarmedH.refl s
  have hat' : ∀ w ∈ vx_atS own ic cls names, w.before args s' = true := fun w hw => vx_ot_at hW0 hvm.symm (hgood w (List.mem_cons_of_mem _ (List.mem_cons_of_mem _ hw))) (hat w hw)
  have hk' : (Cond.classLink own ik cls).before args s' = true := vx_ot_at hW0 hvm.symm (hgood _ List.mem_cons_self) hk
  have hini' : (Cond.initialized cls).before args s' = true := vx_ot_at hW0 hvm.symm (hgood _ (List.mem_cons_of_mem _ List.mem_cons_self)) hini
  have hU' : vx_Zq Bundle.tN "UNASSIGNED_STACK" Bundle.steD A s' s'.heap := by rw [hhp]; exact vx_Zq.moved hW0.alike (hU.kept hS.2.1)
  have hN' : vx_Zq Bundle.tN "SUPPRESSED_SENTINEL" Bundle.listD A s' s'.heap := by rw [hhp]; exact vx_Zq.moved hW0.alike (hN.kept hS.2.1)
  have h : ∀ w ∈ Bundle.ownAtoms own ic cls names, w.before args s' = true := vx_own hat' (vx_isRefq hU'.1) (vx_isRefq hN'.1) hU'.2.word hN'.2.word
  have hown' : s'.vm.findClass own = some m.cls := by rw [hvm]; exact hown
  have hins : (Cond.instantiable cls 6).before args s' = true := h _ (by simp [Bundle.ownAtoms])
  obtain ⟨vm₁, cX, kX, hfX, hkX, -, -, X₁, st1⟩ := Y.newCold hexec (own := own) (C := cls) (index := ik) (n := 6) hown' hk' hins hini'
    (g := F0 m pc ls rest) rfl (by rw [hb]; exact d0) (Nat.le_refl _) (Nat.le_refl _)
  generalize hT1 : (T.setVm vm₁).pushCell { cls := cX, slots := kX.instanceTypes.map defaultValue, vm := .none } = T1 at X₁ st1
  have hcat : (Value.ref T.heap.size).category = 1 := rfl
  have hcellA : T1.heap[T.heap.size]? = some (freshCell cX kX) := by rw [← hT1]; exact State.heap_pushCell_size _ _
  have d3' : decode c.code (pc + 3) = .ok (.dup, 1) := by rw [hb]; exact d3
  have d4' : decode c.code (pc + 4) = .ok (.ldc_w is, 3) := by rw [hb]; exact d4
  have hstr' : vk_R own is text sa s' := vk_R.warm hW0 hstr
  obtain ⟨U, hsteps, hrun, hend, hW, hsame, ce, hce, hO⟩ := X₁.ctorThrowS hexec htr (own := own) (cls := cls) (names := names) (ic := ic) hown' hcls hnames h (fun x hx => nomatch hx) hfX hkX hcellA (by rw [hhp, hT]; exact Nat.le_refl _) (msg := .ref sa) rfl
    (g := { method := m, pc := pc + 7, locals := ls, stack := .ref sa :: .ref T.heap.size :: .ref T.heap.size :: rest, locked := none }) rfl hsize rfl rfl (rest := rest) rfl
    (by rw [hb]; exact d7) (by rw [hb]; exact d10) hout hRframes (by simp only [List.map_cons, List.sum_cons, hcat]; omega) hlocks
  obtain ⟨f1, f2⟩ := vx_frame hsame
  rw [hhp] at f1 f2
  have hWs : s.WarmedH U.vm := State.WarmedH.trans hW0 hW
  have hcl : s.vm.findClass cls = some ce.cls := by
    have h9 := hO.cls
    rw [hvm] at h9
    exact h9
  have hall : s.sameButNew ({ U with vm := s.vm } : State) locs mc ms := by
    subst hA
    obtain ⟨e1, e2⟩ := hsame
    rw [State.setFrames_setFrames] at e1
    have h2 : (T.setVm s.vm).sameButNew ({ U with vm := s.vm } : State) [] (0 + 1) (0 + 6) := ⟨e1, e2⟩
    have h3 := X.same.trans h2
    rw [List.append_nil] at h3
    exact h3.mono hc hs
  refine ⟨U, ?_, .threw T.heap.size, hrun, hend, Or.inr ⟨T.heap.size, rfl, cls, ce, locs, hx U hWs.alike f1 (fun q hq => f2 q hq (fun z hz => nomatch hz)), hce, hO.vm, hcl, hWs, hall, hf⟩⟩
  refine st1 _ ?_
  show Steps p.tables e below (T1.setTop { method := m, pc := pc + 3, locals := ls, stack := .ref T.heap.size :: rest, locked := none }) _
  jvm_step X₁.here [X₁.here.top, hexec, d3', Value.category]
  exact X₁.ldcStringW hexec (own := own) (text := text) (index := is) (a := sa) hown' hstr'.1 hstr'.2
    (g := { method := m, pc := pc + 4, locals := ls, stack := .ref T.heap.size :: .ref T.heap.size :: rest, locked := none }) rfl d4' _ hsteps
end Ends
section Bodies
variable {l : Launch}
theorem vx_ofW {y : MethodName} {ws ws' : List Cond} {rm : Room} {Pc : Array Value → State → Prop} {Qc : Array Value → State → Outcome → State → Prop} {XC : String → State → State → Prop} {mc ms : Nat} {free : Addr → Prop} {cc : ByteArray} {maxL : Nat} {ret : Option FieldType}
    (hy : plainName y.cls = true) (hw : ws = Cond.code y cc maxL ret :: ws')
    (body : ∀ p e s m args below meth c s₁, BodyLoose p l y (headSpec ws rm) cc maxL ret e s m args below meth c s₁ → c.maxLocals = maxL → (∀ x ∈ c.exceptionTable.toList, False) → Pc args s →
      W p l e (headSpec ws rm).room s m args below meth c s.heap [] 0 0 (vx_MQ below Qc XC args s mc ms free) (entryFrame m args maxL)) : vx_Met l y ws rm Pc Qc XC mc ms free := by
  refine MetFree.of_bodyS (code := cc) (maxLocals := maxL) (ret := ret) hy ?_ ?_
  · intro args s m h hn
    obtain ⟨meth, c, h1, h2, h3, h4, h5, h6, -, -⟩ := Cond.code_spec hn (atoms_spec (ws := ws) h _ (by rw [hw]; exact List.mem_cons_self))
    exact ⟨meth, c, h1, h2, h3, h4, h5, h6⟩
  · intro p e s m args below meth c s₁ B hml hP _
    have hh0 : s₁.heap = s.heap := by rw [B.state]; rfl
    have ht : ∀ x ∈ c.exceptionTable.toList, False := by
      obtain ⟨meth9, c9, h1, h2, -, -, -, -, h7, -⟩ := Cond.code_spec B.named (atoms_spec (ws := ws) B.pre _ (by rw [hw]; exact List.mem_cons_self))
      cases Option.some.inj (h1.symm.trans B.method)
      cases Option.some.inj (h2.symm.trans (Stand.of_body B).code)
      intro x hx
      rw [Array.isEmpty_iff.mp h7] at hx
      cases hx
    obtain ⟨t, a1, o, b1, b2, b3⟩ := body p e s m args below meth c s₁ B hml ht hP s₁ hh0 (Stand.of_body B)
    exact ⟨t, o, a1, b1, b2, b3⟩
/-- the table of a body with handlers -/
theorem vx_table {p : Program} {x y : MethodName} {S : Spec} {cc bytes : ByteArray} {maxL maxL' : Nat} {ret ret' : Option FieldType} {e : Env} {s s₁ : State} {m : MethodId} {args : Array Value} {below : List Frame} {meth : Method} {c : Code} {hh : List (Nat × Nat × Nat × Nat)}
    (B : BodyLoose p l y S cc maxL ret e s m args below meth c s₁) (h : (Cond.codeWith y bytes maxL' ret' hh).before args s = true) : c.exceptionTable.toList = tableOf hh := by
  obtain ⟨m9, meth9, c9, hn9, h1, h2, -, -, h6, -⟩ := Cond.codeWith_spec h
  cases Option.some.inj (hn9.symm.trans B.named)
  cases Option.some.inj (h1.symm.trans B.method)
  cases Option.some.inj (h2.symm.trans (Stand.of_body B).code)
  rw [← h6, table_eq]
end Bodies
end VXA
/-! ===== END ===== -/
/-! ===== BEGIN a static call of a method with an exception table ===== -/
section VXS
variable {p : Program} {l : Launch} {e : Env} {R : Room} {s : State} {m : MethodId} {args : Array Value} {below : List Frame} {meth : Method} {c : Code} {T : State} {H : Heap} {locs : List Loc} {cells slots : Nat}
abbrev vx_CSW (R : Room) (s : State) (args : Array Value) (own : String) (index : Nat) (y : MethodName) (bytes : ByteArray) (maxL : Nat) (ret : Option FieldType) (hh : List (Nat × Nat × Nat × Nat)) (ws : List Cond) (rm : Room) (mc ms n : Nat) : Prop :=
  (rm.cells = mc ∧ rm.slots = ms ∧ rm.frames + 1 ≤ R.frames ∧ 8 + (maxL + 11) + rm.locals ≤ R.locals ∧ (∀ w ∈ ws, ∀ (a' : Array Value) (U : State), s.WarmedH U.vm → w.before a' U = true) ∧ Cond.codeWith y bytes maxL ret hh ∈ ws) ∧
  (Cond.codeWith y bytes maxL ret hh).before args s = true ∧ (Cond.initialized y.cls).before args s = true ∧ (y.cls ≠ "java/lang/invoke/MethodHandle" ∧ y.cls ≠ "java/lang/invoke/VarHandle") ∧
  (∀ sig, parseMethodDescriptor y.desc = some sig → n = sig.parameters.length) ∧ (Cond.methodLink own index y).before args s = true ∧ (Cond.static y).before args s = true
theorem vx_cwSW {own : String} {index maxL mc ms : Nat} {y : MethodName} {bytes : ByteArray} {ret : Option FieldType} {hh : List (Nat × Nat × Nat × Nat)} {Ts ws ws' : List Cond} {rm : Room} (n : Nat) (ht : ∀ w ∈ Ts, w.before args s = true) (hT : GoodIn Ts (va_wsS own index y ws)) (hw : ws = Cond.codeWith y bytes maxL ret hh :: ws') (hrc : rm.cells = mc) (hrs : rm.slots = ms)
    (hd : y.cls ≠ "java/lang/invoke/MethodHandle" ∧ y.cls ≠ "java/lang/invoke/VarHandle" ∧ (parseMethodDescriptor y.desc).map (fun d => d.parameters.length) = some n) (hR : rm.frames + 1 ≤ R.frames ∧ 8 + (maxL + 11) + rm.locals ≤ R.locals) :
    vx_CSW R s args own index y bytes maxL ret hh ws rm mc ms n := by
  have ok : ∀ w ∈ va_wsS own index y ws, w.before args s = true := fun w h => ht w (hT w h).1
  have hG : GoodIn Ts ws := fun w h => hT w (by unfold va_wsS; exact List.mem_append_right _ h)
  have hc : Cond.codeWith y bytes maxL ret hh ∈ ws := by rw [hw]; exact List.mem_cons_self
  refine ⟨⟨hrc, hrs, hR.1, hR.2, pay_in ht hG, hc⟩, ht _ (hG _ hc).1, ok _ (by simp [va_wsS]), ⟨hd.1, hd.2.1⟩, fun sig h => ?_, ok _ (by simp [va_wsS]), ok _ (by simp [va_wsS])⟩
  have h2 := hd.2.2
  rw [h] at h2
  exact (Option.some.inj h2).symm
theorem vx_callSW (X : Stand p l e R s m args below meth c T locs cells slots) (hexec : p.tables.exec = Jvm.exec) {own : String} {index : Nat} {y : MethodName} {bytes : ByteArray} {maxL : Nat} {ret : Option FieldType} {hh : List (Nat × Nat × Nat × Nat)}
    (hown : s.vm.findClass own = some m.cls) (hlink : (Cond.methodLink own index y).before args s = true) (hstat : (Cond.static y).before args s = true) (hinit : (Cond.initialized y.cls).before args s = true)
    (hcode : (Cond.codeWith y bytes maxL ret hh).before args s = true) (hy : y.cls ≠ "java/lang/invoke/MethodHandle" ∧ y.cls ≠ "java/lang/invoke/VarHandle")
    {W9 : Nat} {Pre : Pt → Array Value → Prop} {Post : Pt → Array Value → Option Value → Pt → Prop} (hK : Back l R p e below s args y 3 W9 Pre Post)
    {g : JFrame} (hg : g.method = m) (hsize : g.locals.size = c.maxLocals) {argsL rest : List Value} (hlen : ∀ sig, parseMethodDescriptor y.desc = some sig → argsL.length = sig.parameters.length)
    (hstack : g.stack = argsL.reverse ++ rest) (hW : 2 * g.monitorRoom + (rest.map fun v => v.category).sum ≤ W9) (hdg : decode c.code g.pc = .ok (.invokestatic index, 3))
    (hpre : ∀ vm₁, s.WarmedH vm₁ → Pre ⟨T.setVm vm₁, locs, cells, slots⟩ argsL.toArray) :
    ∃ (v : Option Value) (vm₁ : Vm) (B : Pt), s.WarmedH vm₁ ∧ Stand p l e R s m args below meth c B.U B.locs B.cells B.slots ∧ Post ⟨T.setVm vm₁, locs, cells, slots⟩ argsL.toArray v B ∧
      ∀ target, Steps p.tables e below (B.U.setTop { g with pc := g.pc + 3, stack := v.toList ++ rest }) target → Steps p.tables e below (T.setTop g) target := by
  obtain ⟨mk, methM, cM, hnamed, hmethM, -, -, -, -, -, -, hsigM⟩ := Cond.codeWith_spec hcode
  have hstatic : methM.isStatic = true := Cond.static_spec hnamed hmethM hstat
  obtain ⟨kP, hkP, -⟩ := className_of_methodNamed hnamed
  have hinitP : kP.init = .initialized := Cond.initialized_spec (findClass_of_methodNamed hnamed) hkP hinit
  obtain ⟨vm₁, X₁, hstep₁⟩ := X.invokestatic hexec hown hlink hnamed hmethM hstatic hkP hinitP hy (g := g) hg (argsL := argsL) (rest := rest) (hlen _ hsigM) hstack hdg
  obtain ⟨v, B, X', hpost, hsteps⟩ := hK m meth c ⟨T.setVm vm₁, locs, cells, slots⟩ { g with stack := rest } (.invokestatic index) mk argsL.toArray X₁ hg hsize hdg hW (X₁.named hnamed) (hpre vm₁ X₁.warmed)
  exact ⟨v, vm₁, B, X₁.warmed, X', hpost, fun target h => hstep₁ _ fun acts => by rw [doInvoke_state]; exact hsteps.trans h⟩
theorem vx_runSW {y : MethodName} {bytes cc : ByteArray} {maxL nL mc ms n index : Nat} {ret : Option FieldType} {hh : List (Nat × Nat × Nat × Nat)} {ws : List Cond} {rm : Room} {Pc : Array Value → State → Prop} {Qc : Array Value → State → Outcome → State → Prop} {free : Addr → Prop} {Ts : List Cond} {own : String} {As rest : List Value} {g : JFrame}
    (S : CallFix p m c cc nL s args Ts own) (hM : Met l y ws rm Pc Qc mc ms free) (cw : vx_CSW R s args own index y bytes maxL ret hh ws rm mc ms n) (hp : PreS s H Pc As)
    (hg : g.method = m) (hn : As.length = n) (hsize : g.locals.size = nL) (hstack : g.stack = As.reverse ++ rest) (hW : 2 * g.monitorRoom + (rest.map fun v => v.category).sum ≤ 8) (hdg : decode cc g.pc = .ok (.invokestatic index, 3)) (hf : cells + mc ≤ R.cells ∧ slots + ms ≤ R.slots) :
    va_Run p l e R s m args below meth c H locs cells slots mc ms g rest (Qc As.toArray) (free) := by
  obtain ⟨⟨hrc, hrs, hfr, hlo, hws, hcw⟩, hcode, hini, hy, hlen, hl, hstt⟩ := cw
  have hK : Back l R p e below s args y 3 8 (PreOf R mc ms Pc) (PostOf Qc mc ms free) := va_backW (hh := hh) (bytes := bytes) (maxL := maxL) (ret := ret) hM hp.1 hrc hrs hfr hlo hws hcw (fun a' U hW => word_at hW (Or.inl (by first | rfl | simp [Cond.onTables, Cond.keeps, Cond.steady])) hini)
  obtain ⟨hx, hb, hml, ho, -⟩ := S
  intro T hT X
  obtain ⟨v, vm₁, ⟨U', l2, c2, s2⟩, hW₁, X', ⟨g', mk, t, L, e1, e2, hq, h1, hL, h2, h3⟩, st⟩ := vx_callSW X hx (hh := hh) (bytes := bytes) (maxL := maxL) (ret := ret) ho hl hstt hini hcode hy hK hg (hsize.trans hml.symm) (argsL := As) (rest := rest) (fun sig h => hn.trans (hlen sig h)) hstack hW (by rw [hb]; exact hdg)
    (fun vm₁ hW₁ => ⟨hf.1, hf.2, hp.2 (T.setVm vm₁) hT hW₁⟩)
  dsimp only [Pt.U, Pt.locs, Pt.cells, Pt.slots] at X' e1 e2 h1 h2 h3 st
  subst h1; subst h2; subst h3
  exact ⟨v, (T.setVm vm₁).calling g' mk As.toArray, t, U', L, hT, X', hL, e1, e2, hq, st⟩
/-- not caught here, past rows that name other classes: it goes on to the caller -/
theorem vx_outP {p : Program} {l : Launch} {e : Env} {R : Room} {s : State} {m : MethodId} {args : Array Value} {below : List Frame} {meth : Method} {c : Code} {H : Heap} {locs : List Loc} {cells slots : Nat} {free : Addr → Prop} {ls : Array Slot} {rest : List Value} {Qc : Array Value → State → Outcome → State → Prop} {XC : String → State → State → Prop}
    {pc : Nat} {own E : String} {ce : Cell} {q : Addr} {mc ms : Nat} (hown : s.vm.findClass own = some m.cls) (hlocks : meth.locks = false)
    (hpass : ∀ z ∈ c.exceptionTable.toList, covers z pc = false ∨ (z.catchType ≠ 0 ∧ ∃ nm : String, (Cond.classLink own z.catchType nm).before args s = true ∧ va_Nc E nm s)) (hcell : H[q]? = some ce) (hv : ce.vm = .none) (hcl : s.vm.findClass E = some ce.cls)
    (hx : ∀ t : State, t.heap = H → s.vm.Alike t.vm → XC E s t) (hf : ∀ z ∈ locs, free z.base) (hc : cells ≤ mc) (hs : slots ≤ ms) :
    vx_W p l e R s m args below meth c H locs cells slots (vx_MQ below Qc XC args s mc ms free) (F0 m pc ls rest) q := by
  intro T hT X
  have hpl : e.platform.magicAccessors = ({} : Platform).magicAccessors := by rw [X.admits.platform]
  obtain ⟨vm', hW', X', st⟩ := X.outThrough hlocks q (g := F0 m pc ls rest) rfl rfl rfl (cell := ce) (by rw [hT]; exact hcell) (by rw [hv]; rfl)
    (by obtain ⟨k9, h9, -⟩ := Vm.findClass_spec hcl; exact ⟨k9, h9⟩) (fun z hz => by
      rcases hpass z hz with h | ⟨hz0, nm, hl1, hn1⟩
      · exact Or.inl h
      · obtain ⟨c6, hc6, hcl6⟩ := Cond.classLink_spec hown hl1 e.platform hpl
        obtain ⟨a8, b8, h1, h2, h3⟩ := hn1
        cases Option.some.inj (h1.symm.trans hcl)
        cases Option.some.inj (h2.symm.trans hc6)
        exact Or.inr ⟨hz0, _, hcl6, h3⟩)
  obtain ⟨g₀, hfr⟩ := X'.frames_eq
  have hcell9 : ((T.setVm vm').setFrames (.throwing q :: below)).heap[q]? = some ce := by
    show T.heap[q]? = some ce
    rw [hT]; exact hcell
  have hend : Ended ((T.setVm vm').setFrames (.throwing q :: below)) below (.threw q) := State.frames_setFrames _ (State.cur_lt_of_frames hfr)
  refine ⟨(T.setVm vm').setFrames (.throwing q :: below), ?_, .threw q, X'.here.running, hend, Or.inr ⟨q, rfl, E, ce, locs, hx _ hT (X'.ends _).1.alike, hcell9, hv, hcl, (X'.ends _).1, (X'.ends _).2.mono hc hs, hf⟩⟩
  rw [X.pushThrowing_eq]
  exact st
/-- a thing of a world lies in the heap -/
theorem vx_lt {D : va_G} {cl : List vw_C} {ws : va_W} {H1 : Heap} (h : va_P D cl ws H1) {k : Nat} {q : Nat × va_E} (hk : ws[k]? = some q) : q.1 < H1.size := (h k q hk).lt
end VXS
/-! ===== END ===== -/
end
section
/-! THE SMALL MACHINE: the system's objects lie at fixed numbers, all that changes is one memory of Int32; a method's walk is the
    weakest precondition of its table, computed. Values: an int, an object by its number, a long that is some int made long. -/
abbrev AV : Type := Int32 ⊕ (Nat ⊕ Int32)
abbrev Mem : Type := Nat → Nat → Int32
abbrev OC : Type := (Option AV × Mem) ⊕ (String × Mem)
/-- the base address, the classes, the objects' addresses, the array classes, and int to long (a name of its own: kept closed) -/
abbrev GT : Type := Nat × va_G × (Nat → Nat) × ClassId × ClassId × ClassId × (Int32 → Int64)
def st (σ : Mem) (o k : Nat) (v : Int32) : Mem := fun a => if a = o then upd (σ o) k v else σ a
def gA (g : GT) : Nat → Prop := fun q => g.1 ≤ q
def gil (g : GT) : Int32 → Int64 := g.2.2.2.2.2.2
def gad (g : GT) (k : Nat) : Nat := g.2.2.1 k
def cv (g : GT) : AV → Value := fun v => match v with
  | .inl x => .int x
  | .inr (.inl k) => .ref (gad g k)
  | .inr (.inr x) => .long (gil g x)
def fo (g : GT) (σ : Mem) : Nat → List Value := fun ci => match ci with
  | 0 => [.ref (gad g 1), .ref (gad g 4), .ref (gad g 5), .ref (gad g 6)]
  | 1 => [.ref (gad g 2), .ref (gad g 3), .int (σ 1 2), .int (σ 1 3), .int (σ 1 4)]
  | _ => [.int (σ 7 0), .int (σ 7 1), .ref (gad g 8), .ref (gad g 9), .ref (gad g 10), .ref (gad g 11), .ref (gad g 12), .ref (gad g 13), .ref (gad g 14), .int (σ 7 9), .int (σ 7 10), .int (σ 7 11), .int (σ 7 12)]
def gI (g : GT) : ClassId := g.2.2.2.1
def gB (g : GT) : ClassId := g.2.2.2.2.1
def gL (g : GT) : ClassId := g.2.2.2.2.2.1
def gtys (g : GT) : List (ClassId × FieldType) := [(gI g, .int), (gB g, .boolean), (gL g, .long)]
def ew (g : GT) (σ : Mem) : Nat → va_E := fun o => match o with
  | 0 => .inr (0, fo g σ 0)
  | 1 => .inr (1, fo g σ 1)
  | 2 => .inl (gI g, 274, .inl (σ 2))
  | 3 => .inl (gI g, 8, .inl (σ 3))
  | 4 => .inl (gI g, 86, .inl (σ 4))
  | 5 => .inl (gI g, 258, .inl (σ 5))
  | 6 => .inl (gI g, 257, .inl (σ 6))
  | 7 => .inr (2, fo g σ 2)
  | 8 => .inl (gI g, 86, .inl (σ 8))
  | 9 => .inl (gI g, 86, .inl (σ 9))
  | 10 => .inl (gB g, 86, .inl (σ 10))
  | 11 => .inl (gI g, 86, .inl (σ 11))
  | 12 => .inl (gB g, 86, .inl (σ 12))
  | 13 => .inl (gI g, 257, .inl (σ 13))
  | 14 => .inl (gI g, 8, .inl (σ 14))
  | _ => .inl (gL g, 1, .inr (.inl (fun j => gil g (σ 15 j))))
def mw (g : GT) (σ : Mem) : va_W := [(gad g 0, ew g σ 0), (gad g 1, ew g σ 1), (gad g 2, ew g σ 2), (gad g 3, ew g σ 3), (gad g 4, ew g σ 4), (gad g 5, ew g σ 5), (gad g 6, ew g σ 6), (gad g 7, ew g σ 7), (gad g 8, ew g σ 8), (gad g 9, ew g σ 9), (gad g 10, ew g σ 10), (gad g 11, ew g σ 11), (gad g 12, ew g σ 12), (gad g 13, ew g σ 13), (gad g 14, ew g σ 14), (gad g 15, ew g σ 15)]
/-- an array's kind (1 int, 2 boolean, 3 long) and length -/
def ak : Nat → Nat × Nat := fun o => match o with
  | 2 => (1, 274) | 3 => (1, 8) | 4 => (1, 86) | 5 => (1, 258) | 6 => (1, 257) | 8 => (1, 86) | 9 => (1, 86) | 10 => (2, 86) | 11 => (1, 86) | 12 => (2, 86) | 13 => (1, 257) | 14 => (1, 8) | 15 => (3, 1) | _ => (0, 0)
theorem mw_int (g : GT) (σ : Mem) (o : Nat) (h : (ak o).1 = 1) : (mw g σ)[o]? = some (gad g o, .inl (gI g, (ak o).2, .inl (σ o))) := by
  match o, h with
  | 2, _ | 3, _ | 4, _ | 5, _ | 6, _ | 8, _ | 9, _ | 11, _ | 13, _ | 14, _ => rfl
  | 0, h | 1, h | 7, h | 10, h | 12, h | 15, h => exact absurd h (by decide)
  | n + 16, h => exact absurd (show (0 : Nat) = 1 from h) (by decide)
theorem mw_bool (g : GT) (σ : Mem) (o : Nat) (h : (ak o).1 = 2) : (mw g σ)[o]? = some (gad g o, .inl (gB g, (ak o).2, .inl (σ o))) := by
  match o, h with
  | 10, _ | 12, _ => rfl
  | 0, h | 1, h | 2, h | 3, h | 4, h | 5, h | 6, h | 7, h | 8, h | 9, h | 11, h | 13, h | 14, h | 15, h => exact absurd h (by decide)
  | n + 16, h => exact absurd (show (0 : Nat) = 2 from h) (by decide)
theorem mw_setInt (g : GT) (σ : Mem) (o k : Nat) (v : Int32) (h : (ak o).1 = 1) : (mw g σ).set o (gad g o, .inl (gI g, (ak o).2, .inl (upd (σ o) k v))) = mw g (st σ o k v) := by
  match o, h with
  | 2, _ | 3, _ | 4, _ | 5, _ | 6, _ | 8, _ | 9, _ | 11, _ | 13, _ | 14, _ => rfl
  | 0, h | 1, h | 7, h | 10, h | 12, h | 15, h => exact absurd h (by decide)
  | n + 16, h => exact absurd (show (0 : Nat) = 1 from h) (by decide)
theorem mw_setBool (g : GT) (σ : Mem) (o k : Nat) (v : Int32) (h : (ak o).1 = 2) : (mw g σ).set o (gad g o, .inl (gB g, (ak o).2, .inl (upd (σ o) k v))) = mw g (st σ o k v) := by
  match o, h with
  | 10, _ | 12, _ => rfl
  | 0, h | 1, h | 2, h | 3, h | 4, h | 5, h | 6, h | 7, h | 8, h | 9, h | 11, h | 13, h | 14, h | 15, h => exact absurd h (by decide)
  | n + 16, h => exact absurd (show (0 : Nat) = 2 from h) (by decide)
theorem st_self (σ : Mem) (o k : Nat) (v : Int32) : (st σ o k v) o = upd (σ o) k v := if_pos rfl
theorem st_ne (σ : Mem) {o a : Nat} (k : Nat) (v : Int32) (h : a ≠ o) : (st σ o k v) a = σ a := if_neg h
theorem mw_setLong (g : GT) (σ : Mem) (k : Nat) (v : Int32) : (mw g σ).set 15 (gad g 15, .inl (gL g, 1, .inr (.inl (vp_updL (fun j => gil g (σ 15 j)) k (gil g v))))) = mw g (st σ 15 k v) := by
  have e : vp_updL (fun j => gil g (σ 15 j)) k (gil g v) = fun j => gil g ((st σ 15 k v) 15 j) := by
    funext j
    rw [st_self]
    unfold vp_updL upd
    by_cases hj : j = k
    · rw [if_pos hj, if_pos hj]
    · rw [if_neg hj, if_neg hj]
  rw [e]; rfl
/-- a class's object, fields, names -/
def ob : Nat → Nat := fun ci => match ci with | 0 => 0 | 1 => 1 | _ => 7
def cR : Nat → String := fun ci => match ci with | 0 => R_X | 1 => R_D | _ => R_M
def cF : Nat → u_T := fun ci => match ci with | 0 => F_X | 1 => F_D | _ => F_M
def cN : Nat → Nat := fun ci => match ci with | 0 => 4 | 1 => 5 | _ => 13
def ct : Nat → Nat → FieldType := fun ci => match ci with | 0 => t_X | 1 => t_D | _ => t_M
def fav (σ : Mem) (ci k : Nat) : Option AV := match ci with
  | 0 => (match k with | 0 => some (.inr (.inl 1)) | 1 => some (.inr (.inl 4)) | 2 => some (.inr (.inl 5)) | 3 => some (.inr (.inl 6)) | _ => none)
  | 1 => (match k with | 0 => some (.inr (.inl 2)) | 1 => some (.inr (.inl 3)) | 2 => some (.inl (σ 1 2)) | 3 => some (.inl (σ 1 3)) | 4 => some (.inl (σ 1 4)) | _ => none)
  | 2 => (match k with | 0 => some (.inl (σ 7 0)) | 1 => some (.inl (σ 7 1)) | 2 => some (.inr (.inl 8)) | 3 => some (.inr (.inl 9)) | 4 => some (.inr (.inl 10)) | 5 => some (.inr (.inl 11)) | 6 => some (.inr (.inl 12)) | 7 => some (.inr (.inl 13)) | 8 => some (.inr (.inl 14)) | 9 => some (.inl (σ 7 9)) | 10 => some (.inl (σ 7 10)) | 11 => some (.inl (σ 7 11)) | 12 => some (.inl (σ 7 12)) | _ => none)
  | _ => none
/-- a field that may be written: 1 an int, 2 a boolean -/
def fw (ci k : Nat) : Nat := match ci with
  | 1 => (match k with | 2 => 1 | 3 => 1 | 4 => 2 | _ => 0)
  | 2 => (match k with | 0 => 1 | 1 => 1 | 9 => 1 | 10 => 1 | 11 => 2 | 12 => 1 | _ => 0)
  | _ => 0
theorem fav_spec (g : GT) (σ : Mem) {ci k : Nat} {v : AV} (h : fav σ ci k = some v) : ci < 3 ∧ k < cN ci ∧ (fo g σ ci)[k]? = some (cv g v) := by
  match ci, k, h with
  | 0, 0, h | 0, 1, h | 0, 2, h | 0, 3, h => cases h; exact ⟨by decide, by decide, rfl⟩
  | 0, n + 4, h => cases h
  | 1, 0, h | 1, 1, h | 1, 2, h | 1, 3, h | 1, 4, h => cases h; exact ⟨by decide, by decide, rfl⟩
  | 1, n + 5, h => cases h
  | 2, 0, h | 2, 1, h | 2, 2, h | 2, 3, h | 2, 4, h | 2, 5, h | 2, 6, h | 2, 7, h | 2, 8, h | 2, 9, h | 2, 10, h | 2, 11, h | 2, 12, h => cases h; exact ⟨by decide, by decide, rfl⟩
  | 2, n + 13, h => cases h
  | n + 3, _, h => cases h
theorem fw_spec (g : GT) (σ : Mem) (v : Int32) {ci k : Nat} (h : fw ci k ≠ 0) : ci < 3 ∧ k < cN ci ∧ k < (fo g σ ci).length ∧ (cF ci k).2.2.2 = false ∧
    (mw g σ).set (ob ci) (gad g (ob ci), .inr (ci, (fo g σ ci).set k (.int v))) = mw g (st σ (ob ci) k v) ∧ parseFieldDescriptor (cF ci k).2.2.1 = some (if fw ci k = 2 then .boolean else .int) := by
  match ci, k, h with
  | 0, _, h => exact absurd rfl h
  | 1, 2, h => exact ⟨by decide, by decide, Nat.le_of_ble_eq_true rfl, rfl, rfl, by decide +kernel⟩
  | 1, 3, h => exact ⟨by decide, by decide, Nat.le_of_ble_eq_true rfl, rfl, rfl, by decide +kernel⟩
  | 1, 4, h => exact ⟨by decide, by decide, Nat.le_of_ble_eq_true rfl, rfl, rfl, by decide +kernel⟩
  | 1, 0, h | 1, 1, h => exact absurd rfl h
  | 1, n + 5, h => exact absurd rfl h
  | 2, 0, h => exact ⟨by decide, by decide, Nat.le_of_ble_eq_true rfl, rfl, rfl, by decide +kernel⟩
  | 2, 1, h => exact ⟨by decide, by decide, Nat.le_of_ble_eq_true rfl, rfl, rfl, by decide +kernel⟩
  | 2, 9, h => exact ⟨by decide, by decide, Nat.le_of_ble_eq_true rfl, rfl, rfl, by decide +kernel⟩
  | 2, 10, h => exact ⟨by decide, by decide, Nat.le_of_ble_eq_true rfl, rfl, rfl, by decide +kernel⟩
  | 2, 11, h => exact ⟨by decide, by decide, Nat.le_of_ble_eq_true rfl, rfl, rfl, by decide +kernel⟩
  | 2, 12, h => exact ⟨by decide, by decide, Nat.le_of_ble_eq_true rfl, rfl, rfl, by decide +kernel⟩
  | 2, 2, h | 2, 3, h | 2, 4, h | 2, 5, h | 2, 6, h | 2, 7, h | 2, 8, h => exact absurd rfl h
  | 2, n + 13, h => exact absurd rfl h
  | n + 3, _, h => exact absurd rfl h
theorem mw_ob (g : GT) (σ : Mem) {ci : Nat} (h : ci < 3) : (mw g σ)[ob ci]? = some (gad g (ob ci), .inr (ci, fo g σ ci)) ∧ classes[ci]? = some (cR ci, cF ci, cN ci) := by
  match ci, h with
  | 0, _ | 1, _ | 2, _ => exact ⟨rfl, rfl⟩
theorem c_in {ci : Nat} (h : ci < 3) : (∀ w ∈ u_ws (cR ci) (cF ci) (cN ci), w ∈ lw_tbl) ∧ (∀ k, k < cN ci → parseFieldDescriptor (cF ci k).2.2.1 = some (ct ci k)) ∧ (∀ a, a < cN ci → ∀ b, b < cN ci → a ≠ b → (cF ci a).2.1 ≠ (cF ci b).2.1) := by
  match ci, h with
  | 0, _ => exact ⟨i_X, t_X_ok, n_X⟩
  | 1, _ => exact ⟨i_D, t_D_ok, n_D⟩
  | 2, _ => exact ⟨i_M, t_M_ok, n_M⟩
theorem u_good (C : String) (T : u_T) (N : Nat) : ∀ w ∈ u_ws C T N, goodWord w = true := by
  intro w hw
  obtain ⟨k, -, rfl⟩ := List.mem_map.mp hw
  unfold u_lay
  split <;> rfl
theorem c_inG {ci : Nat} (h : ci < 3) : ∀ w ∈ u_ws (cR ci) (cF ci) (cN ci), w ∈ gtbl := fun w hw => List.mem_filter.mpr ⟨(c_in h).1 w hw, u_good _ _ _ w hw⟩
end
section
/-! locals and stacks -/
def lg : List (Option AV) → Nat → Option AV
  | [], _ => none
  | x :: _, 0 => x
  | _ :: l, n + 1 => lg l n
def lset : List (Option AV) → Nat → AV → List (Option AV)
  | [], _, _ => []
  | _ :: l, 0, v => some v :: l
  | x :: l, n + 1, v => x :: lset l n v
theorem lset_len : ∀ (L : List (Option AV)) (i : Nat) (v : AV), (lset L i v).length = L.length
  | [], _, _ => rfl
  | _ :: _, 0, _ => rfl
  | _ :: l, n + 1, v => congrArg (· + 1) (lset_len l n v)
theorem lg_lset : ∀ (L : List (Option AV)) (i j : Nat) (v w : AV), lg (lset L i v) j = some w → (j = i ∧ w = v) ∨ (j ≠ i ∧ lg L j = some w)
  | [], _, _, _, _, h => by cases h
  | _ :: _, 0, 0, v, w, h => by cases h; exact Or.inl ⟨rfl, rfl⟩
  | _ :: _, 0, _ + 1, _, _, h => Or.inr ⟨by omega, h⟩
  | _ :: _, _ + 1, 0, _, _, h => Or.inr ⟨by omega, h⟩
  | _ :: l, n + 1, j + 1, v, w, h => by
    rcases lg_lset l n j v w h with ⟨h1, h2⟩ | ⟨h1, h2⟩
    · exact Or.inl ⟨by omega, h2⟩
    · exact Or.inr ⟨by omega, h2⟩
def noL : AV → Prop := fun v => match v with | .inr (.inr _) => False | _ => True
def LH (g : GT) (ls : Array Slot) (nL : Nat) (L : List (Option AV)) : Prop := lv_has ls nL [] ∧ ∀ (i : Nat) (v : AV), lg L i = some v → ls[i]? = some (.val (cv g v)) ∧ noL v
theorem cat1 {g : GT} {v : AV} (h : noL v) : (cv g v).category = 1 := by
  match v, h with
  | .inl _, _ => rfl
  | .inr (.inl _), _ => rfl
  | .inr (.inr _), h => exact h.elim
theorem catle (g : GT) (v : AV) : (cv g v).category ≤ 2 := by
  match v with
  | .inl _ => exact Nat.le_succ 1
  | .inr (.inl _) => exact Nat.le_succ 1
  | .inr (.inr _) => exact Nat.le_refl 2
theorem catsum (g : GT) : ∀ (l : List AV), ((l.map (cv g)).map fun v => v.category).sum ≤ 2 * l.length
  | [] => Nat.le_refl 0
  | v :: l => by
    have h1 := catsum g l
    have h2 := catle g v
    simp only [List.map_cons, List.sum_cons, List.length_cons]
    omega
/-- the listed values: all that L holds -/
def lvl (g : GT) : Nat → List (Option AV) → List (Nat × Value)
  | _, [] => []
  | k, none :: l => lvl g (k + 1) l
  | k, some v :: l => (k, cv g v) :: lvl g (k + 1) l
theorem lvl_mem (g : GT) : ∀ (L : List (Option AV)) (k : Nat) (q : Nat × Value), q ∈ lvl g k L → ∃ v, k ≤ q.1 ∧ lg L (q.1 - k) = some v ∧ q.2 = cv g v
  | [], k, q, h => by cases h
  | none :: l, k, q, h => by
    obtain ⟨v, h1, h2, h3⟩ := lvl_mem g l (k + 1) q h
    refine ⟨v, by omega, ?_, h3⟩
    rw [show q.1 - k = (q.1 - (k + 1)) + 1 by omega]
    exact h2
  | some v :: l, k, q, h => by
    rcases List.mem_cons.mp h with rfl | h
    · exact ⟨v, Nat.le_refl k, by rw [Nat.sub_self]; rfl, rfl⟩
    · obtain ⟨w, h1, h2, h3⟩ := lvl_mem g l (k + 1) q h
      refine ⟨w, by omega, ?_, h3⟩
      rw [show q.1 - k = (q.1 - (k + 1)) + 1 by omega]
      exact h2
theorem lvl_in (g : GT) : ∀ (L : List (Option AV)) (k j : Nat) (v : AV), lg L j = some v → (k + j, cv g v) ∈ lvl g k L
  | [], _, _, _, h => by cases h
  | none :: l, k, 0, v, h => by cases h
  | none :: l, k, j + 1, v, h => by
    have := lvl_in g l (k + 1) j v h
    rw [show k + 1 + j = k + (j + 1) by omega] at this
    exact this
  | some w :: l, k, 0, v, h => by cases h; exact List.mem_cons_self
  | some w :: l, k, j + 1, v, h => by
    have := lvl_in g l (k + 1) j v h
    rw [show k + 1 + j = k + (j + 1) by omega] at this
    exact List.mem_cons_of_mem _ this
theorem LH.list {g : GT} {ls : Array Slot} {nL : Nat} {L : List (Option AV)} (h : LH g ls nL L) : lv_has ls nL (lvl g 0 L) := by
  refine ⟨h.1.1, h.1.2.1, fun q hq => ?_⟩
  obtain ⟨v, -, h2, h3⟩ := lvl_mem g L 0 q hq
  rw [Nat.sub_zero] at h2
  rw [h3]
  exact (h.2 _ v h2).1
theorem LH.back {g : GT} {ls ls' : Array Slot} {nL : Nat} {L : List (Option AV)} {i : Nat} {v : AV} (h : LH g ls nL L) (hv : noL v)
    (h' : lv_has ls' nL ((i, cv g v) :: (lvl g 0 L).filter (fun q => !(q.1 == i) && !(q.1 + 1 == i && q.2.category == 2)))) : LH g ls' nL (lset L i v) := by
  refine ⟨⟨h'.1, h'.2.1, fun q hq => by cases hq⟩, fun j w hw => ?_⟩
  rcases lg_lset L i j v w hw with ⟨rfl, rfl⟩ | ⟨h1, h2⟩
  · exact ⟨h'.2.2 _ List.mem_cons_self, hv⟩
  · have hn := (h.2 j w h2).2
    have hm := lvl_in g L 0 j w h2
    rw [Nat.zero_add] at hm
    refine ⟨h'.2.2 (j, cv g w) (List.mem_cons_of_mem _ (List.mem_filter.mpr ⟨hm, ?_⟩)), hn⟩
    have c1 := cat1 (g := g) hn
    simp [c1, h1]
/-! tables -/
abbrev TE : Type := Instr × Nat × Nat × Int32
abbrev CTy : Type := List AV → Mem → (Option AV → Mem → Prop) → (String → Mem → Prop) → Prop
/-- a method: bytes, locals, class, return type, depth, table, fields by index, callees by index (receiver, arguments, contract), throws by place -/
abbrev MI : Type := ByteArray × Nat × String × Option FieldType × Nat × (Nat → Option TE) × List (Nat × (Nat × Nat)) × List (Nat × (Nat × Nat × CTy)) × List (Nat × String)
def m_cc (M : MI) : ByteArray := M.1
def m_nL (M : MI) : Nat := M.2.1
def m_own (M : MI) : String := M.2.2.1
def m_ret (M : MI) : Option FieldType := M.2.2.2.1
def m_d (M : MI) : Nat := M.2.2.2.2.1
def m_tb (M : MI) : Nat → Option TE := M.2.2.2.2.2.1
def m_fl (M : MI) : List (Nat × (Nat × Nat)) := M.2.2.2.2.2.2.1
def m_cal (M : MI) : List (Nat × (Nat × Nat × CTy)) := M.2.2.2.2.2.2.2.1
def m_tr (M : MI) : List (Nat × String) := M.2.2.2.2.2.2.2.2
def lk {β : Type} : List (Nat × β) → Nat → Option β
  | [], _ => none
  | q :: l, i => cond (Nat.beq q.1 i) (some q.2) (lk l i)
theorem lk_mem {β : Type} : ∀ {l : List (Nat × β)} {i : Nat} {b : β}, lk l i = some b → (i, b) ∈ l
  | [], _, _, h => by cases h
  | q :: l, i, b, h => by
    unfold lk at h
    cases e : Nat.beq q.1 i with
    | true =>
      rw [e] at h
      have h1 : some q.2 = some b := h
      cases h1
      rw [← Nat.eq_of_beq_eq_true e]
      exact List.mem_cons_self
    | false =>
      rw [e] at h
      exact List.mem_cons_of_mem _ (lk_mem h)
def nin : Nat → List Nat → Bool
  | _, [] => false
  | a, b :: l => cond (Nat.beq a b) true (nin a l)
def ck2 (nL pc : Nat) (q : TE) : Bool := match q.1 with
  | .iconst n => q.2.1 == pc + 1 && decide (Int32.ofInt n = q.2.2.2)
  | .bipush n => q.2.1 == pc + 2 && decide ((Int8.ofInt n).toInt32 = q.2.2.2)
  | .sipush n => q.2.1 == pc + 3 && decide ((Int16.ofInt n).toInt32 = q.2.2.2)
  | .iload i => q.2.1 == pc + 2 && i == q.2.2.1
  | .aload i => q.2.1 == pc + 2 && i == q.2.2.1
  | .iload_n k => q.2.1 == pc + 1 && k.val == q.2.2.1
  | .aload_n k => q.2.1 == pc + 1 && k.val == q.2.2.1
  | .istore i => q.2.1 == pc + 2 && (i == q.2.2.1 && decide (q.2.2.1 < nL))
  | .astore i => q.2.1 == pc + 2 && (i == q.2.2.1 && decide (q.2.2.1 < nL))
  | .istore_n k => q.2.1 == pc + 1 && (k.val == q.2.2.1 && decide (q.2.2.1 < nL))
  | .astore_n k => q.2.1 == pc + 1 && (k.val == q.2.2.1 && decide (q.2.2.1 < nL))
  | .iinc i n => q.2.1 == pc + 3 && (i == q.2.2.1 && (decide (q.2.2.1 < nL) && decide (Int32.ofInt n = q.2.2.2)))
  | .iadd => q.2.1 == pc + 1
  | .isub => q.2.1 == pc + 1
  | .imul => q.2.1 == pc + 1
  | .ineg => q.2.1 == pc + 1
  | .idiv => q.2.1 == pc + 1
  | .irem => q.2.1 == pc + 1
  | .iand => q.2.1 == pc + 1
  | .dup => q.2.1 == pc + 1
  | .pop => q.2.1 == pc + 1
  | .i2l => q.2.1 == pc + 1
  | .lcmp => q.2.1 == pc + 1
  | .iaload => q.2.1 == pc + 1
  | .baload => q.2.1 == pc + 1
  | .laload => q.2.1 == pc + 1
  | .iastore => q.2.1 == pc + 1
  | .bastore => q.2.1 == pc + 1
  | .lastore => q.2.1 == pc + 1
  | .arraylength => q.2.1 == pc + 1
  | .getfield _ => q.2.1 == pc + 3
  | .putfield _ => q.2.1 == pc + 3
  | .invokevirtual _ => q.2.1 == pc + 3
  | .invokestatic _ => q.2.1 == pc + 3
  | .ireturn => q.2.1 == pc + 1
  | .return_ => q.2.1 == pc + 1
  | .goto off => q.2.1 == pc + 3 && decide ((pc : Int) + off = (q.2.2.1 : Int))
  | .if_icmp _ off => q.2.1 == pc + 3 && decide ((pc : Int) + off = (q.2.2.1 : Int))
  | .ifCond _ off => q.2.1 == pc + 3 && decide ((pc : Int) + off = (q.2.2.1 : Int))
  | _ => true
def chk (cc : ByteArray) (nL pc : Nat) (q : TE) : Bool := decide (decode cc pc = .ok (q.1, q.2.1 - pc)) && ck2 nL pc q
/-- a table by its program: guarded by the code's length -/
def tbl_of (n : Nat) (f : Nat → Option TE) : Nat → Option TE := fun pc => cond (Nat.blt pc n) (f pc) none
theorem tbl_ok {cc : ByteArray} {nL n : Nat} {f : Nat → Option TE} (h : (List.range n).all (fun pc => match f pc with | none => true | some q => chk cc nL pc q) = true) :
    ∀ pc q, tbl_of n f pc = some q → chk cc nL pc q = true := by
  intro pc q hq
  unfold tbl_of at hq
  cases e : Nat.blt pc n with
  | false => rw [e] at hq; cases hq
  | true =>
    rw [e] at hq
    have hq' : f pc = some q := hq
    have h1 := List.all_eq_true.mp h pc (List.mem_range.mpr (Nat.le_of_ble_eq_true e))
    rw [hq'] at h1
    exact h1
/-! the step -/
section STP
def s1 (S : List AV) (f : Int32 → List AV → Prop) : Prop := match S with | .inl y :: r => f y r | _ => False
def s2 (S : List AV) (f : Int32 → Int32 → List AV → Prop) : Prop := match S with | .inl y :: .inl x :: r => f y x r | _ => False
def sr (S : List AV) (f : Nat → List AV → Prop) : Prop := match S with | .inr (.inl o) :: r => f o r | _ => False
def sa2 (S : List AV) (f : Int32 → Nat → List AV → Prop) : Prop := match S with | .inl i :: .inr (.inl o) :: r => f i o r | _ => False
def sa3 (S : List AV) (f : Int32 → Int32 → Nat → List AV → Prop) : Prop := match S with | .inl v :: .inl i :: .inr (.inl o) :: r => f v i o r | _ => False
def sl2 (S : List AV) (f : Int32 → Int32 → List AV → Prop) : Prop := match S with | .inr (.inr y) :: .inr (.inr x) :: r => f y x r | _ => False
def sl3 (S : List AV) (f : Int32 → Int32 → Nat → List AV → Prop) : Prop := match S with | .inr (.inr v) :: .inl i :: .inr (.inl o) :: r => f v i o r | _ => False
def li (x : Option AV) (f : Int32 → Prop) : Prop := match x with | some (.inl y) => f y | _ => False
def lr (x : Option AV) (f : Nat → Prop) : Prop := match x with | some (.inr (.inl o)) => f o | _ => False
theorem s1_el {S : List AV} {f : Int32 → List AV → Prop} (h : s1 S f) : ∃ y r, S = .inl y :: r ∧ f y r := by
  match S, h with
  | .inl y :: r, h => exact ⟨y, r, rfl, h⟩
theorem s2_el {S : List AV} {f : Int32 → Int32 → List AV → Prop} (h : s2 S f) : ∃ y x r, S = .inl y :: .inl x :: r ∧ f y x r := by
  match S, h with
  | .inl y :: .inl x :: r, h => exact ⟨y, x, r, rfl, h⟩
theorem sr_el {S : List AV} {f : Nat → List AV → Prop} (h : sr S f) : ∃ o r, S = .inr (.inl o) :: r ∧ f o r := by
  match S, h with
  | .inr (.inl o) :: r, h => exact ⟨o, r, rfl, h⟩
theorem sa2_el {S : List AV} {f : Int32 → Nat → List AV → Prop} (h : sa2 S f) : ∃ i o r, S = .inl i :: .inr (.inl o) :: r ∧ f i o r := by
  match S, h with
  | .inl i :: .inr (.inl o) :: r, h => exact ⟨i, o, r, rfl, h⟩
theorem sa3_el {S : List AV} {f : Int32 → Int32 → Nat → List AV → Prop} (h : sa3 S f) : ∃ v i o r, S = .inl v :: .inl i :: .inr (.inl o) :: r ∧ f v i o r := by
  match S, h with
  | .inl v :: .inl i :: .inr (.inl o) :: r, h => exact ⟨v, i, o, r, rfl, h⟩
theorem sl2_el {S : List AV} {f : Int32 → Int32 → List AV → Prop} (h : sl2 S f) : ∃ y x r, S = .inr (.inr y) :: .inr (.inr x) :: r ∧ f y x r := by
  match S, h with
  | .inr (.inr y) :: .inr (.inr x) :: r, h => exact ⟨y, x, r, rfl, h⟩
theorem sl3_el {S : List AV} {f : Int32 → Int32 → Nat → List AV → Prop} (h : sl3 S f) : ∃ v i o r, S = .inr (.inr v) :: .inl i :: .inr (.inl o) :: r ∧ f v i o r := by
  match S, h with
  | .inr (.inr v) :: .inl i :: .inr (.inl o) :: r, h => exact ⟨v, i, o, r, rfl, h⟩
theorem li_el {x : Option AV} {f : Int32 → Prop} (h : li x f) : ∃ y, x = some (.inl y) ∧ f y := by
  match x, h with
  | some (.inl y), h => exact ⟨y, rfl, h⟩
theorem lr_el {x : Option AV} {f : Nat → Prop} (h : lr x f) : ∃ o, x = some (.inr (.inl o)) ∧ f o := by
  match x, h with
  | some (.inr (.inl o)), h => exact ⟨o, rfl, h⟩
def om {α : Type} (x : Option α) (f : α → Prop) : Prop := match x with | some y => f y | none => False
def sn (S : List AV) (A : Prop) : Prop := match S with | [] => A | _ => False
theorem om_el {α : Type} {x : Option α} {f : α → Prop} (h : om x f) : ∃ y, x = some y ∧ f y := by
  match x, h with
  | some y, h => exact ⟨y, rfl, h⟩
theorem sn_el {S : List AV} {A : Prop} (h : sn S A) : S = [] ∧ A := by
  match S, h with
  | [], h => exact ⟨rfl, h⟩
def br (c : Jvm.ClassFile.Cond) (x y : Int32) (A B : Prop) : Prop := match c with
  | .eq => (x = y → A) ∧ (¬ x = y → B)
  | .ne => (¬ x = y → A) ∧ (x = y → B)
  | .lt => (x < y → A) ∧ (¬ x < y → B)
  | .ge => (y ≤ x → A) ∧ (¬ y ≤ x → B)
  | .gt => (y < x → A) ∧ (¬ y < x → B)
  | .le => (x ≤ y → A) ∧ (¬ x ≤ y → B)
def stp (M : MI) (q : TE) (pc : Nat) (L : List (Option AV)) (S : List AV) (σ : Mem) (K : Nat → List (Option AV) → List AV → Mem → Prop) (Rt : Option AV → Mem → Prop) (Th : Nat → String → Mem → Prop) : Prop := match q.1 with
  | .iconst _ => K q.2.1 L (.inl q.2.2.2 :: S) σ
  | .bipush _ => K q.2.1 L (.inl q.2.2.2 :: S) σ
  | .sipush _ => K q.2.1 L (.inl q.2.2.2 :: S) σ
  | .iload _ => li (lg L q.2.2.1) fun x => K q.2.1 L (.inl x :: S) σ
  | .iload_n _ => li (lg L q.2.2.1) fun x => K q.2.1 L (.inl x :: S) σ
  | .aload _ => lr (lg L q.2.2.1) fun x => K q.2.1 L (.inr (.inl x) :: S) σ
  | .aload_n _ => lr (lg L q.2.2.1) fun x => K q.2.1 L (.inr (.inl x) :: S) σ
  | .istore _ => s1 S fun x r => K q.2.1 (lset L q.2.2.1 (.inl x)) r σ
  | .istore_n _ => s1 S fun x r => K q.2.1 (lset L q.2.2.1 (.inl x)) r σ
  | .astore _ => sr S fun x r => K q.2.1 (lset L q.2.2.1 (.inr (.inl x))) r σ
  | .astore_n _ => sr S fun x r => K q.2.1 (lset L q.2.2.1 (.inr (.inl x))) r σ
  | .iinc _ _ => li (lg L q.2.2.1) fun x => K q.2.1 (lset L q.2.2.1 (.inl (x + q.2.2.2))) S σ
  | .iadd => s2 S fun y x r => K q.2.1 L (.inl (x + y) :: r) σ
  | .isub => s2 S fun y x r => K q.2.1 L (.inl (x - y) :: r) σ
  | .imul => s2 S fun y x r => K q.2.1 L (.inl (x * y) :: r) σ
  | .iand => s2 S fun y x r => K q.2.1 L (.inl (x &&& y) :: r) σ
  | .idiv => s2 S fun y x r => ¬ y = 0 ∧ K q.2.1 L (.inl (x / y) :: r) σ
  | .irem => s2 S fun y x r => ¬ y = 0 ∧ K q.2.1 L (.inl (x - x / y * y) :: r) σ
  | .ineg => s1 S fun x r => K q.2.1 L (.inl (-x) :: r) σ
  | .dup => sr S fun o r => K q.2.1 L (.inr (.inl o) :: .inr (.inl o) :: r) σ
  | .pop => s1 S fun _ r => K q.2.1 L r σ
  | .i2l => s1 S fun x r => K q.2.1 L (.inr (.inr x) :: r) σ
  | .lcmp => sl2 S fun y x r => K q.2.1 L (.inl (lg_cmp x.toInt64 y.toInt64) :: r) σ
  | .iaload => sa2 S fun i o r => cond (Nat.beq (ak o).1 1) (vp_in i (ak o).2 ∧ K q.2.1 L (.inl (σ o i.toNatClampNeg) :: r) σ) False
  | .baload => sa2 S fun i o r => cond (Nat.beq (ak o).1 2) (vp_in i (ak o).2 ∧ K q.2.1 L (.inl (σ o i.toNatClampNeg) :: r) σ) False
  | .laload => sa2 S fun i o r => cond (Nat.beq o 15) (vp_in i 1 ∧ K q.2.1 L (.inr (.inr (σ o i.toNatClampNeg)) :: r) σ) False
  | .iastore => sa3 S fun v i o r => cond (Nat.beq (ak o).1 1) (vp_in i (ak o).2 ∧ K q.2.1 L r (st σ o i.toNatClampNeg v)) False
  | .bastore => sa3 S fun v i o r => cond (Nat.beq (ak o).1 2) (vp_in i (ak o).2 ∧ K q.2.1 L r (st σ o i.toNatClampNeg (v &&& 1))) False
  | .lastore => sl3 S fun v i o r => cond (Nat.beq o 15) (vp_in i 1 ∧ K q.2.1 L r (st σ o i.toNatClampNeg v)) False
  | .arraylength => sr S fun o r => cond (Nat.beq (ak o).1 1) (K q.2.1 L (.inl (nI (ak o).2) :: r) σ) False
  | .getfield ix => sr S fun o r => om (lk (m_fl M) ix) fun z => cond (Nat.beq o (ob z.1)) (om (fav σ z.1 z.2) fun v => K q.2.1 L (v :: r) σ) False
  | .putfield ix => sa2 S fun v o r => om (lk (m_fl M) ix) fun z => cond (Nat.beq o (ob z.1)) (cond (Nat.beq (fw z.1 z.2) 1) (K q.2.1 L r (st σ o z.2 v)) (cond (Nat.beq (fw z.1 z.2) 2) ((v = 0 ∨ v = 1) ∧ K q.2.1 L r (st σ o z.2 v)) False)) False
  | .goto _ => K q.2.2.1 L S σ
  | .if_icmp c _ => s2 S fun y x r => br c x y (K q.2.2.1 L r σ) (K q.2.1 L r σ)
  | .ifCond c _ => s1 S fun x r => br c x 0 (K q.2.2.1 L r σ) (K q.2.1 L r σ)
  | .ireturn => s1 S fun x r => sn r (om (m_ret M) fun ty => (match ty with | .int => Rt (some (.inl x)) σ | .boolean => x &&& 1 = x ∧ Rt (some (.inl x)) σ | _ => False))
  | .return_ => sn S (match m_ret M with | none => Rt none σ | some _ => False)
  | .invokevirtual ix => om (lk (m_cal M) ix) fun z => sr (S.drop z.2.1) fun o' r => cond (Nat.beq o' z.1 && (Nat.beq (S.take z.2.1).length z.2.1 && Nat.ble r.length 4)) (z.2.2 (S.take z.2.1).reverse σ (fun v σ' => K q.2.1 L (v.toList ++ r) σ') (fun E σ' => Th pc E σ')) False
  | .invokestatic ix => om (lk (m_cal M) ix) fun z => cond (Nat.beq (S.take z.2.1).length z.2.1 && Nat.ble (S.drop z.2.1).length 4) (z.2.2 (S.take z.2.1).reverse σ (fun v σ' => K q.2.1 L (v.toList ++ S.drop z.2.1) σ') (fun E σ' => Th pc E σ')) False
  | .new _ => sn S (om (lk (m_tr M) pc) fun E => Th pc E σ)
  | _ => False
/-- up to n steps, the first one always; a step to one of 'stops' ends in K -/
def wpn (M : MI) (stops : List Nat) : Nat → Nat → List (Option AV) → List AV → Mem → (Nat → List (Option AV) → List AV → Mem → Prop) → (Option AV → Mem → Prop) → (Nat → String → Mem → Prop) → Prop
  | 0, pc, L, S, σ, K, _, _ => K pc L S σ
  | n + 1, pc, L, S, σ, K, Rt, Th => om (m_tb M pc) fun q => stp M q pc L S σ (fun pc' L' S' σ' => cond (nin pc' stops) (K pc' L' S' σ') (wpn M stops n pc' L' S' σ' K Rt Th)) Rt Th
end STP
end
section
/-! words that no resolving takes away though they aren't among the good ones -/
def isDC : Jvm.Cond → Bool
  | .castable _ _ => true
  | .declares _ => true
  | _ => false
def dtbl : List Jvm.Cond := lw_tbl.filter isDC
theorem nw_warm {w : Jvm.Cond} (h : isDC w = true) {s U : State} (hW : s.WarmedH U.vm) (hZ : va_Nw w s) : va_Nw w U := by
  cases w <;> first | exact va_Nw.warmC hW hZ | exact va_Nw.warmD hW hZ | exact (Bool.false_ne_true h).elim
theorem nw_tab {w : Jvm.Cond} (h : isDC w = true) : w.onTables = true := by
  cases w <;> first | rfl | exact (Bool.false_ne_true h).elim
/-- the texts of the throws -/
def strs : List (String × Nat × String) := [("RootedWords", 39, "no extent can have so many words"), ("RootedWords", 44, "so many words cannot have so many pointers"), ("RootedWords", 52, "no free extent has so many words"), ("RootedWords", 88, "a pointer is 0 or a used address"), ("RootedWords", 116, "there is no such extent"), ("RootedWords", 146, "the heap is down"), ("RootedWords", 151, "no used extent has this address"), ("RootedWords", 154, "the extent has no such word"), ("RootedWords", 156, "there is no such root"), ("RootedWords$Disk", 38, "the power has failed")]
/-- the classes of exceptions, each apart from the others -/
def eIS : String := "java/lang/IllegalStateException"
def eIA : String := "java/lang/IllegalArgumentException"
def eIO : String := "java/lang/IndexOutOfBoundsException"
def eUO : String := "java/lang/UnsupportedOperationException"
def eNE : String := "java/util/NoSuchElementException"
def ncs : List (String × String) := [(eIA, eIS), (eUO, eIS), (eUO, eIA), (eNE, eIS), (eIO, eIS), (eIO, eNE), (eIA, eNE), (eIA, eIO), (eNE, eIO)]
def KG (g : GT) (U : State) : Prop := va_K g.2.1 classes (gtys g) U ∧ (∀ w ∈ dtbl, va_Nw w U) ∧ (∀ q ∈ strs, ∃ sa, vk_R q.1 q.2.1 q.2.2 sa U) ∧ (∀ q ∈ ncs, va_Nc q.1 q.2 U) ∧
  vx_Zq Bundle.tN "UNASSIGNED_STACK" Bundle.steD (gA g) U U.heap ∧ vx_Zq Bundle.tN "SUPPRESSED_SENTINEL" Bundle.listD (gA g) U U.heap ∧ (∀ σ, va_D (gA g) (mw g σ)) ∧ gil g = Int32.toInt64
/-- the same in a later state whose low cells are as they were -/
theorem KG.go {g : GT} {s U : State} (h : KG g s) (hW : s.WarmedH U.vm) (hq : ∀ q : Nat, q < s.heap.size → ¬ gA g q → U.heap[q]? = s.heap[q]?) : KG g U := by
  obtain ⟨h1, h2, h3, h4, h5, h6, h7, h8⟩ := h
  refine ⟨va_K.moved hW.alike h1, fun w hw => nw_warm (List.mem_filter.mp hw).2 hW (h2 w hw), fun q hq => ?_, fun q hq => va_Nc.moved hW.alike (h4 q hq), vx_Zq.moved hW.alike (h5.kept hq), vx_Zq.moved hW.alike (h6.kept hq), h7, h8⟩
  obtain ⟨sa, h⟩ := h3 q hq
  exact ⟨sa, h.warm hW⟩
theorem KG.blind {g : GT} {U : State} (f : JFrame) (mk : MethodId) (a : Array Value) (h : KG g U) : KG g (U.calling f mk a) := by
  obtain ⟨h1, h2, h3, h4, h5, h6, h7, h8⟩ := h
  refine ⟨va_K.moved (u := U) (U := U.calling f mk a) (Vm.Alike.refl U.vm) h1, fun w hw => va_Nw.same (u := U) (U := U.calling f mk a) (nw_tab (List.mem_filter.mp hw).2) rfl (h2 w hw), fun q hq => ?_, fun q hq => va_Nc.moved (u := U) (U := U.calling f mk a) (Vm.Alike.refl U.vm) (h4 q hq), vx_Zq.moved (u := U) (U := U.calling f mk a) (Vm.Alike.refl U.vm) h5, vx_Zq.moved (u := U) (U := U.calling f mk a) (Vm.Alike.refl U.vm) h6, h7, h8⟩
  obtain ⟨sa, h⟩ := h3 q hq
  exact ⟨sa, h.same rfl⟩
/-! the context of a walk -/
abbrev CT : Type := Program × Launch × Env × Room × State × MethodId × Array Value × List Frame × Method × Code × GT × (State → Prop) × Nat × Nat
def xp (X : CT) : Program := X.1
def xl (X : CT) : Launch := X.2.1
def xe (X : CT) : Env := X.2.2.1
def xR (X : CT) : Room := X.2.2.2.1
def xs (X : CT) : State := X.2.2.2.2.1
def xm (X : CT) : MethodId := X.2.2.2.2.2.1
def xa (X : CT) : Array Value := X.2.2.2.2.2.2.1
def xb (X : CT) : List Frame := X.2.2.2.2.2.2.2.1
def xme (X : CT) : Method := X.2.2.2.2.2.2.2.2.1
def xc (X : CT) : Code := X.2.2.2.2.2.2.2.2.2.1
def xg (X : CT) : GT := X.2.2.2.2.2.2.2.2.2.2.1
def xQ (X : CT) : State → Prop := X.2.2.2.2.2.2.2.2.2.2.2.1
def xk (X : CT) : Nat := X.2.2.2.2.2.2.2.2.2.2.2.2.1
def xn (X : CT) : Nat := X.2.2.2.2.2.2.2.2.2.2.2.2.2
abbrev XW (X : CT) (H : Heap) (locs : List Loc) (gf : JFrame) : Prop := W (xp X) (xl X) (xe X) (xR X) (xs X) (xm X) (xa X) (xb X) (xme X) (xc X) H locs (xk X) (xn X) (xQ X) gf
abbrev wo (X : CT) (σ : Mem) (H : Heap) : Prop := va_P (xg X).2.1 classes (mw (xg X) σ) H
abbrev wS (X : CT) (H : Heap) (locs : List Loc) : Prop := va_S (gA (xg X)) (xs X).heap H locs
def Go (X : CT) (M : MI) (pc : Nat) (L : List (Option AV)) (S : List AV) (σ : Mem) : Prop :=
  ∀ (H : Heap) (locs : List Loc) (ls : Array Slot), wo X σ H → wS X H locs → LH (xg X) ls (m_nL M) L → XW X H locs (F0 (xm X) pc ls (S.map (cv (xg X))))
def RtOK (X : CT) (M : MI) (Rt : Option AV → Mem → Prop) : Prop := ∀ (r : Option AV) (σ : Mem) (pc : Nat) (H : Heap) (locs : List Loc) (ls : Array Slot), Rt r σ → wo X σ H → wS X H locs →
  (match r with | none => m_ret M = none ∧ decode (m_cc M) pc = .ok (.return_, 1) | some v => ∃ (x : Int32) (ty : FieldType), v = .inl x ∧ m_ret M = some ty ∧ narrow ty (.int x) = .int x ∧ decode (m_cc M) pc = .ok (.ireturn, 1)) → XW X H locs (F0 (xm X) pc ls (r.toList.map (cv (xg X))))
def ThOK (X : CT) (M : MI) (Th : Nat → String → Mem → Prop) : Prop := ∀ (pc : Nat) (E : String) (σ : Mem), Th pc E σ → (xk X + 1 ≤ (xR X).cells ∧ xn X + 6 ≤ (xR X).slots) ∧
  ∀ (H : Heap) (locs : List Loc) (ls : Array Slot) (rest : List Value) (q : Addr) (ce : Cell), wo X σ H → wS X H locs → lv_has ls (m_nL M) [] → H[q]? = some ce → ce.vm = .none → (xs X).vm.findClass E = some ce.cls →
    vx_W (xp X) (xl X) (xe X) (xR X) (xs X) (xm X) (xa X) (xb X) (xme X) (xc X) H locs (xk X + 1) (xn X + 6) (xQ X) (F0 (xm X) pc ls rest) q
def TsOK (X : CT) (M : MI) (Th : Nat → String → Mem → Prop) : Prop := ∀ (pc : Nat) (E : String) (σ : Mem), (pc, E) ∈ m_tr M → Th pc E σ → ∀ (H : Heap) (locs : List Loc) (ls : Array Slot), wo X σ H → wS X H locs → ls.size = m_nL M → XW X H locs (F0 (xm X) pc ls [])
def Cx (X : CT) (M : MI) (Rt : Option AV → Mem → Prop) (Th : Nat → String → Mem → Prop) : Prop :=
  ((xp X).tables.exec = Jvm.exec ∧ (xc X).code = m_cc M ∧ (xc X).maxLocals = m_nL M ∧ (xs X).vm.findClass (m_own M) = some (xm X).cls ∧ (∀ w ∈ gtbl, w.before (xa X) (xs X) = true) ∧ KG (xg X) (xs X) ∧ (xg X).1 ≤ (xs X).heap.size) ∧
  (8 + m_d M ≤ (xR X).frames ∧ 100 + 30 * m_d M ≤ (xR X).locals ∧ xk X ≤ (xR X).cells ∧ xn X ≤ (xR X).slots) ∧ RtOK X M Rt ∧ ThOK X M Th ∧ TsOK X M Th ∧ (xl X).stackTraces = false
/-- a callee of a method: what its contract promises it pays -/
def CallGo (M : MI) (ix o : Nat) (as : List AV) (σ : Mem) (oc : OC) : Prop := ∀ (X : CT) (Rt : Option AV → Mem → Prop) (Th : Nat → String → Mem → Prop), Cx X M Rt Th → ∀ (pc : Nat) (L : List (Option AV)) (rest : List AV), rest.length ≤ 4 →
  (match oc with | .inl q => Go X M (pc + 3) L (q.1.toList ++ rest) q.2 | .inr q => Th pc q.1 q.2) →
  (decode (m_cc M) pc = .ok (.invokevirtual ix, 3) → Go X M pc L (as.reverse ++ .inr (.inl o) :: rest) σ) ∧ (decode (m_cc M) pc = .ok (.invokestatic ix, 3) → Go X M pc L (as.reverse ++ rest) σ)
def CallOK (M : MI) (q : Nat × (Nat × Nat × CTy)) : Prop := ∀ (as : List AV) (σ : Mem) (KN : Option AV → Mem → Prop) (KX : String → Mem → Prop), as.length = q.2.2.1 → q.2.2.2 as σ KN KX →
  ∃ oc : OC, (match oc with | .inl z => KN z.1 z.2 | .inr z => KX z.1 z.2) ∧ CallGo M q.1 q.2.1 as σ oc
def FlOK (M : MI) (q : Nat × (Nat × Nat)) : Prop := m_own M = cR q.2.1 ∧ Jvm.Cond.fieldLink (m_own M) q.1 (m_own M) (cF q.2.1 q.2.2).2.1 (cF q.2.1 q.2.2).2.2.1 ∈ gtbl
def MOK (M : MI) : Prop := (∀ pc q, m_tb M pc = some q → chk (m_cc M) (m_nL M) pc q = true) ∧ (∀ q ∈ m_fl M, FlOK M q) ∧ ∀ q ∈ m_cal M, CallOK M q
section SND
variable {X : CT} {M : MI} {Rt : Option AV → Mem → Prop} {Th : Nat → String → Mem → Prop}
theorem c_own {ci k : Nat} (h : ci < 3) (hk : k < cN ci) {s : State} : ∀ x, s.fieldFound? (cF ci k).1 (cF ci k).2.1 (cF ci k).2.2.1 = some x → s.fieldFound? (cR ci) (cF ci k).2.1 (cF ci k).2.2.1 = some x := by
  have e : (cF ci k).1 = cR ci := by
    match ci, h with
    | 0, _ => match k, hk with | 0, _ | 1, _ | 2, _ | 3, _ => rfl
    | 1, _ => match k, hk with | 0, _ | 1, _ | 2, _ | 3, _ | 4, _ => rfl
    | 2, _ => match k, hk with | 0, _ | 1, _ | 2, _ | 3, _ | 4, _ | 5, _ | 6, _ | 7, _ | 8, _ | 9, _ | 10, _ | 11, _ | 12, _ => rfl
  rw [e]
  exact fun _ h => h
theorem vin_of {i : Int32} {n : Nat} (h : vp_in i n) : vp_in i n := h
theorem br_W {c : Jvm.ClassFile.Cond} {x y : Int32} {A B : Prop} (h : br c x y A B) {P : Prop} (heq : c = .eq → (x = y → A) → (¬ x = y → B) → P) (hne : c = .ne → (¬ x = y → A) → (x = y → B) → P) (hlt : c = .lt → (x < y → A) → (¬ x < y → B) → P)
    (hge : c = .ge → (y ≤ x → A) → (¬ y ≤ x → B) → P) (hgt : c = .gt → (y < x → A) → (¬ y < x → B) → P) (hle : c = .le → (x ≤ y → A) → (¬ x ≤ y → B) → P) : P := by
  cases c
  · exact heq rfl h.1 h.2
  · exact hne rfl h.1 h.2
  · exact hlt rfl h.1 h.2
  · exact hge rfl h.1 h.2
  · exact hgt rfl h.1 h.2
  · exact hle rfl h.1 h.2
theorem cond_el {b : Bool} {A : Prop} (h : cond b A False) : b = true ∧ A := by
  cases b
  · exact h.elim
  · exact ⟨rfl, h⟩
set_option maxHeartbeats 4000000 in
theorem stp_sound (hM : MOK M) (hX : Cx X M Rt Th) {pc : Nat} {q : TE} (htb : m_tb M pc = some q) {L : List (Option AV)} {S : List AV} {σ : Mem} {K : Nat → List (Option AV) → List AV → Mem → Prop} (hK : ∀ pc L S σ, K pc L S σ → Go X M pc L S σ)
    (h : stp M q pc L S σ K Rt Th) : Go X M pc L S σ := by
  have hck := hM.1 pc q htb
  obtain ⟨ig, nx, a, c⟩ := q
  simp only [chk, Bool.and_eq_true, decide_eq_true_eq] at hck
  obtain ⟨hd, hk⟩ := hck
  obtain ⟨⟨hx, hb, hml, hown, hts, hKG, hbase⟩, hroom, hRt, hTh, hTs, htr⟩ := id hX
  have hK0 := hKG.1
  have hD := hKG.2.2.2.2.2.2.1
  have hil := hKG.2.2.2.2.2.2.2
  have e1 : ∀ n, pc + n - pc = n := fun n => Nat.add_sub_cancel_left pc n
  cases ig
  case iconst n =>
    simp only [ck2, Bool.and_eq_true, beq_iff_eq, decide_eq_true_eq] at hk
    obtain ⟨rfl, rfl⟩ := hk
    rw [e1] at hd
    intro H locs ls hP hS hl
    exact lv_iconst hx hb hd rfl (hK _ _ _ _ h H locs ls hP hS hl)
  case bipush n =>
    simp only [ck2, Bool.and_eq_true, beq_iff_eq, decide_eq_true_eq] at hk
    obtain ⟨rfl, rfl⟩ := hk
    rw [e1] at hd
    intro H locs ls hP hS hl
    exact lv_bipush hx hb hd rfl (hK _ _ _ _ h H locs ls hP hS hl)
  case sipush n =>
    simp only [ck2, Bool.and_eq_true, beq_iff_eq, decide_eq_true_eq] at hk
    obtain ⟨rfl, rfl⟩ := hk
    rw [e1] at hd
    intro H locs ls hP hS hl
    exact lv_sipush hx hb hd rfl (hK _ _ _ _ h H locs ls hP hS hl)
  case iload i =>
    simp only [ck2, Bool.and_eq_true, beq_iff_eq, decide_eq_true_eq] at hk
    obtain ⟨rfl, rfl⟩ := hk
    rw [e1] at hd
    obtain ⟨x, hx1, h⟩ := li_el h
    intro H locs ls hP hS hl
    exact lv_iload hx hb hd (hl.2 _ _ hx1).1 (hK _ _ _ _ h H locs ls hP hS hl)
  case iload_n i =>
    simp only [ck2, Bool.and_eq_true, beq_iff_eq, decide_eq_true_eq] at hk
    obtain ⟨rfl, hk2⟩ := hk
    rw [e1] at hd
    obtain ⟨x, hx1, h⟩ := li_el h
    intro H locs ls hP hS hl
    exact lv_iload_n hx hb hd hk2 (hl.2 _ _ hx1).1 (hK _ _ _ _ h H locs ls hP hS hl)
  case aload i =>
    simp only [ck2, Bool.and_eq_true, beq_iff_eq, decide_eq_true_eq] at hk
    obtain ⟨rfl, rfl⟩ := hk
    rw [e1] at hd
    obtain ⟨x, hx1, h⟩ := lr_el h
    intro H locs ls hP hS hl
    exact lv_aload hx hb hd (hl.2 _ _ hx1).1 (hK _ _ _ _ h H locs ls hP hS hl)
  case aload_n i =>
    simp only [ck2, Bool.and_eq_true, beq_iff_eq, decide_eq_true_eq] at hk
    obtain ⟨rfl, hk2⟩ := hk
    rw [e1] at hd
    obtain ⟨x, hx1, h⟩ := lr_el h
    intro H locs ls hP hS hl
    exact lv_aload_n hx hb hd hk2 (hl.2 _ _ hx1).1 (hK _ _ _ _ h H locs ls hP hS hl)
  case istore i =>
    simp only [ck2, Bool.and_eq_true, beq_iff_eq, decide_eq_true_eq] at hk
    obtain ⟨rfl, rfl, hk3⟩ := hk
    rw [e1] at hd
    obtain ⟨x, r, rfl, h⟩ := s1_el h
    intro H locs ls hP hS hl
    exact lv_istore hx hb hd hl.list hk3 rfl (fun ls' hl' => hK _ _ _ _ h H locs ls' hP hS (hl.back (v := .inl x) trivial hl'))
  case istore_n i =>
    simp only [ck2, Bool.and_eq_true, beq_iff_eq, decide_eq_true_eq] at hk
    obtain ⟨rfl, hk2, hk3⟩ := hk
    rw [e1] at hd
    obtain ⟨x, r, rfl, h⟩ := s1_el h
    intro H locs ls hP hS hl
    exact lv_istore_n hx hb hd hk2 hl.list hk3 rfl (fun ls' hl' => hK _ _ _ _ h H locs ls' hP hS (hl.back (v := .inl x) trivial hl'))
  case astore i =>
    simp only [ck2, Bool.and_eq_true, beq_iff_eq, decide_eq_true_eq] at hk
    obtain ⟨rfl, rfl, hk3⟩ := hk
    rw [e1] at hd
    obtain ⟨x, r, rfl, h⟩ := sr_el h
    intro H locs ls hP hS hl
    exact lv_astore hx hb hd hl.list hk3 rfl (fun ls' hl' => hK _ _ _ _ h H locs ls' hP hS (hl.back (v := .inr (.inl x)) trivial hl'))
  case astore_n i =>
    simp only [ck2, Bool.and_eq_true, beq_iff_eq, decide_eq_true_eq] at hk
    obtain ⟨rfl, hk2, hk3⟩ := hk
    rw [e1] at hd
    obtain ⟨x, r, rfl, h⟩ := sr_el h
    intro H locs ls hP hS hl
    exact lv_astore_n hx hb hd hk2 hl.list hk3 rfl (fun ls' hl' => hK _ _ _ _ h H locs ls' hP hS (hl.back (v := .inr (.inl x)) trivial hl'))
  case iinc i n =>
    simp only [ck2, Bool.and_eq_true, beq_iff_eq, decide_eq_true_eq] at hk
    obtain ⟨rfl, rfl, hk3, rfl⟩ := hk
    rw [e1] at hd
    obtain ⟨x, hx1, h⟩ := li_el h
    intro H locs ls hP hS hl
    have hm := lvl_in (xg X) L 0 i (.inl x) hx1
    rw [Nat.zero_add] at hm
    obtain ⟨k, hk9⟩ := List.mem_iff_getElem?.mp hm
    exact lv_iinc hx hb hd hl.list hk9 rfl hk3 rfl (fun ls' hl' => hK _ _ _ _ h H locs ls' hP hS (hl.back (v := .inl (x + Int32.ofInt n)) trivial hl'))
  case iadd =>
    simp only [ck2, beq_iff_eq] at hk
    subst hk
    rw [e1] at hd
    obtain ⟨y, x, r, rfl, h⟩ := s2_el h
    intro H locs ls hP hS hl
    exact lv_iadd hx hb hd (hK _ _ _ _ h H locs ls hP hS hl)
  case isub =>
    simp only [ck2, beq_iff_eq] at hk
    subst hk
    rw [e1] at hd
    obtain ⟨y, x, r, rfl, h⟩ := s2_el h
    intro H locs ls hP hS hl
    exact lv_isub hx hb hd (hK _ _ _ _ h H locs ls hP hS hl)
  case imul =>
    simp only [ck2, beq_iff_eq] at hk
    subst hk
    rw [e1] at hd
    obtain ⟨y, x, r, rfl, h⟩ := s2_el h
    intro H locs ls hP hS hl
    exact lv_imul hx hb hd (hK _ _ _ _ h H locs ls hP hS hl)
  case iand =>
    simp only [ck2, beq_iff_eq] at hk
    subst hk
    rw [e1] at hd
    obtain ⟨y, x, r, rfl, h⟩ := s2_el h
    intro H locs ls hP hS hl
    exact lv_iand hx hb hd (hK _ _ _ _ h H locs ls hP hS hl)
  case idiv =>
    simp only [ck2, beq_iff_eq] at hk
    subst hk
    rw [e1] at hd
    obtain ⟨y, x, r, rfl, h0, h⟩ := s2_el h
    intro H locs ls hP hS hl
    exact lv_idiv hx hb hd h0 (hK _ _ _ _ h H locs ls hP hS hl)
  case irem =>
    simp only [ck2, beq_iff_eq] at hk
    subst hk
    rw [e1] at hd
    obtain ⟨y, x, r, rfl, h0, h⟩ := s2_el h
    intro H locs ls hP hS hl
    exact lv_irem hx hb hd h0 (hK _ _ _ _ h H locs ls hP hS hl)
  case ineg =>
    simp only [ck2, beq_iff_eq] at hk
    subst hk
    rw [e1] at hd
    obtain ⟨x, r, rfl, h⟩ := s1_el h
    intro H locs ls hP hS hl
    exact lv_ineg hx hb hd (hK _ _ _ _ h H locs ls hP hS hl)
  case dup =>
    simp only [ck2, beq_iff_eq] at hk
    subst hk
    rw [e1] at hd
    obtain ⟨o, r, rfl, h⟩ := sr_el h
    intro H locs ls hP hS hl
    exact lv_dup hx hb hd rfl (hK _ _ _ _ h H locs ls hP hS hl)
  case pop =>
    simp only [ck2, beq_iff_eq] at hk
    subst hk
    rw [e1] at hd
    obtain ⟨x, r, rfl, h⟩ := s1_el h
    intro H locs ls hP hS hl
    exact lv_pop hx hb hd rfl (hK _ _ _ _ h H locs ls hP hS hl)
  case i2l =>
    simp only [ck2, beq_iff_eq] at hk
    subst hk
    rw [e1] at hd
    obtain ⟨x, r, rfl, h⟩ := s1_el h
    intro H locs ls hP hS hl
    exact lv_i2l hx hb hd (show x.toInt64 = gil (xg X) x by rw [hil]) (hK _ _ _ _ h H locs ls hP hS hl)
  case lcmp =>
    simp only [ck2, beq_iff_eq] at hk
    subst hk
    rw [e1] at hd
    obtain ⟨y, x, r, rfl, h⟩ := sl2_el h
    intro H locs ls hP hS hl
    have h1 := hK _ _ _ _ h H locs ls hP hS hl
    refine W.lcmp hx hb hd ?_
    rw [hil]
    exact h1
  case iaload =>
    simp only [ck2, beq_iff_eq] at hk
    subst hk
    rw [e1] at hd
    obtain ⟨i, o, r, rfl, h⟩ := sa2_el h
    obtain ⟨h0, hi, h⟩ := cond_el h
    intro H locs ls hP hS hl
    exact va_iald hx hb hK0 hP o 0 (mw_int (xg X) σ o (Nat.eq_of_beq_eq_true h0)) rfl hi hd (hK _ _ _ _ h H locs ls hP hS hl)
  case baload =>
    simp only [ck2, beq_iff_eq] at hk
    subst hk
    rw [e1] at hd
    obtain ⟨i, o, r, rfl, h⟩ := sa2_el h
    obtain ⟨h0, hi, h⟩ := cond_el h
    intro H locs ls hP hS hl
    exact va_zald hx hb hK0 hP o 1 (mw_bool (xg X) σ o (Nat.eq_of_beq_eq_true h0)) rfl hi hd (hK _ _ _ _ h H locs ls hP hS hl)
  case laload =>
    simp only [ck2, beq_iff_eq] at hk
    subst hk
    rw [e1] at hd
    obtain ⟨i, o, r, rfl, h⟩ := sa2_el h
    obtain ⟨h0, hi, h⟩ := cond_el h
    obtain rfl : o = 15 := Nat.eq_of_beq_eq_true h0
    intro H locs ls hP hS hl
    exact va_lald hx hb hK0 hP 15 2 (n := 1) (f := fun j => gil (xg X) (σ 15 j)) rfl rfl hi hd (hK _ _ _ _ h H locs ls hP hS hl)
  case iastore =>
    simp only [ck2, beq_iff_eq] at hk
    subst hk
    rw [e1] at hd
    obtain ⟨v, i, o, r, rfl, h⟩ := sa3_el h
    obtain ⟨h0, hi, h⟩ := cond_el h
    intro H locs ls hP hS hl
    refine va_iast hx hb hK0 hP (hD σ) hS o 0 (mw_int (xg X) σ o (Nat.eq_of_beq_eq_true h0)) rfl hi hd (fun H1 locs1 hP1 hD1 hS1 => ?_)
    rw [mw_setInt (xg X) σ o _ v (Nat.eq_of_beq_eq_true h0)] at hP1
    exact hK _ _ _ _ h H1 locs1 ls hP1 hS1 hl
  case bastore =>
    simp only [ck2, beq_iff_eq] at hk
    subst hk
    rw [e1] at hd
    obtain ⟨v, i, o, r, rfl, h⟩ := sa3_el h
    obtain ⟨h0, hi, h⟩ := cond_el h
    intro H locs ls hP hS hl
    refine va_zast hx hb hK0 hP (hD σ) hS o 1 (mw_bool (xg X) σ o (Nat.eq_of_beq_eq_true h0)) rfl hi hd (fun H1 locs1 hP1 hD1 hS1 => ?_)
    rw [mw_setBool (xg X) σ o _ _ (Nat.eq_of_beq_eq_true h0)] at hP1
    exact hK _ _ _ _ h H1 locs1 ls hP1 hS1 hl
  case lastore =>
    simp only [ck2, beq_iff_eq] at hk
    subst hk
    rw [e1] at hd
    obtain ⟨v, i, o, r, rfl, h⟩ := sl3_el h
    obtain ⟨h0, hi, h⟩ := cond_el h
    obtain rfl : o = 15 := Nat.eq_of_beq_eq_true h0
    intro H locs ls hP hS hl
    refine va_last hx hb hK0 hP (hD σ) hS 15 2 (n := 1) (f := fun j => gil (xg X) (σ 15 j)) rfl rfl hi hd (fun H1 locs1 hP1 hD1 hS1 => ?_)
    rw [mw_setLong (xg X) σ _ v] at hP1
    exact hK _ _ _ _ h H1 locs1 ls hP1 hS1 hl
  case arraylength =>
    simp only [ck2, beq_iff_eq] at hk
    subst hk
    rw [e1] at hd
    obtain ⟨o, r, rfl, h⟩ := sr_el h
    obtain ⟨h0, h⟩ := cond_el h
    intro H locs ls hP hS hl
    exact va_alen hx hb hK0 hP o 0 (mw_int (xg X) σ o (Nat.eq_of_beq_eq_true h0)) rfl rfl hd (hK _ _ _ _ h H locs ls hP hS hl)
  case getfield ix =>
    simp only [ck2, beq_iff_eq] at hk
    subst hk
    rw [e1] at hd
    obtain ⟨o, r, rfl, h⟩ := sr_el h
    obtain ⟨⟨ci, k⟩, e2, h⟩ := om_el h
    obtain ⟨h0, h7⟩ := cond_el h
    obtain rfl : o = ob ci := Nat.eq_of_beq_eq_true h0
    obtain ⟨v, e3, h8⟩ := om_el h7
    obtain ⟨h3, h4, h5⟩ := fav_spec (xg X) σ e3
    obtain ⟨f1, f2⟩ := hM.2.1 _ (lk_mem e2)
    intro H locs ls hP hS hl
    exact va_get hx hb hts (c_inG h3) hown hK0 hP (ob ci) (mw_ob (xg X) σ h3).1 (mw_ob (xg X) σ h3).2 k h4 (ref := m_own M) (hts _ f2) (f1 ▸ c_own h3 h4) h5 hd (hK _ _ _ _ h8 H locs ls hP hS hl)
  case putfield ix =>
    simp only [ck2, beq_iff_eq] at hk
    subst hk
    rw [e1] at hd
    obtain ⟨v, o, r, rfl, h⟩ := sa2_el h
    obtain ⟨⟨ci, k⟩, e2, h⟩ := om_el h
    obtain ⟨h0, h⟩ := cond_el h
    obtain rfl : o = ob ci := Nat.eq_of_beq_eq_true h0
    obtain ⟨f1, f2⟩ := hM.2.1 _ (lk_mem e2)
    intro H locs ls hP hS hl
    cases e3 : Nat.beq (fw ci k) 1 with
    | true =>
      have e4 : fw ci k = 1 := Nat.eq_of_beq_eq_true e3
      obtain ⟨g1, g2, g3, g4, g5, g6⟩ := fw_spec (xg X) σ v (ci := ci) (k := k) (by rw [e4]; decide)
      rw [e4] at g6
      dsimp only at h
      rw [e3] at h
      refine va_put (v := .int v) (ty := .int) hx hb hts (c_inG g1) (ct ci) (c_in g1).2.1 (c_in g1).2.2 hown hK0 hP (hD σ) hS (ob ci) (mw_ob (xg X) σ g1).1 (mw_ob (xg X) σ g1).2 k g2 (ref := m_own M) (hts _ f2) (f1 ▸ c_own g1 g2) g4 g6 rfl rfl g3 hd (fun H1 locs1 hP1 hD1 hS1 => ?_)
      rw [g5] at hP1
      exact hK _ _ _ _ h H1 locs1 ls hP1 hS1 hl
    | false =>
      dsimp only at h
      rw [e3] at h
      obtain ⟨e5, hv, h⟩ := cond_el h
      have e4 : fw ci k = 2 := Nat.eq_of_beq_eq_true e5
      obtain ⟨g1, g2, g3, g4, g5, g6⟩ := fw_spec (xg X) σ v (ci := ci) (k := k) (by rw [e4]; decide)
      rw [e4] at g6
      have hn : narrow .boolean (.int v) = .int v := by rcases hv with rfl | rfl <;> rfl
      have hf : fits .boolean (.int v) = true := by rcases hv with rfl | rfl <;> rfl
      refine va_put (v := .int v) (ty := .boolean) hx hb hts (c_inG g1) (ct ci) (c_in g1).2.1 (c_in g1).2.2 hown hK0 hP (hD σ) hS (ob ci) (mw_ob (xg X) σ g1).1 (mw_ob (xg X) σ g1).2 k g2 (ref := m_own M) (hts _ f2) (f1 ▸ c_own g1 g2) g4 g6 hn hf g3 hd (fun H1 locs1 hP1 hD1 hS1 => ?_)
      rw [g5] at hP1
      exact hK _ _ _ _ h H1 locs1 ls hP1 hS1 hl
  case goto off =>
    simp only [ck2, Bool.and_eq_true, beq_iff_eq, decide_eq_true_eq] at hk
    obtain ⟨rfl, hk2⟩ := hk
    rw [e1] at hd
    intro H locs ls hP hS hl
    exact lv_goto hx hb hd hk2 (hK _ _ _ _ h H locs ls hP hS hl)
  case if_icmp cn off =>
    simp only [ck2, Bool.and_eq_true, beq_iff_eq, decide_eq_true_eq] at hk
    obtain ⟨rfl, hk2⟩ := hk
    rw [e1] at hd
    obtain ⟨y, x, r, rfl, h⟩ := s2_el h
    intro H locs ls hP hS hl
    refine br_W h ?_ ?_ ?_ ?_ ?_ ?_
    · rintro rfl h1 h2; exact lv_icmp_eq hx hb hd hk2 (fun z => hK _ _ _ _ (h1 z) H locs ls hP hS hl) (fun z => hK _ _ _ _ (h2 z) H locs ls hP hS hl)
    · rintro rfl h1 h2; exact lv_icmp_ne hx hb hd hk2 (fun z => hK _ _ _ _ (h1 z) H locs ls hP hS hl) (fun z => hK _ _ _ _ (h2 z) H locs ls hP hS hl)
    · rintro rfl h1 h2; exact lv_icmp_lt hx hb hd hk2 (fun z => hK _ _ _ _ (h1 z) H locs ls hP hS hl) (fun z => hK _ _ _ _ (h2 z) H locs ls hP hS hl)
    · rintro rfl h1 h2; exact lv_icmp_ge hx hb hd hk2 (fun z => hK _ _ _ _ (h1 z) H locs ls hP hS hl) (fun z => hK _ _ _ _ (h2 z) H locs ls hP hS hl)
    · rintro rfl h1 h2; exact lv_icmp_gt hx hb hd hk2 (fun z => hK _ _ _ _ (h1 z) H locs ls hP hS hl) (fun z => hK _ _ _ _ (h2 z) H locs ls hP hS hl)
    · rintro rfl h1 h2; exact lv_icmp_le hx hb hd hk2 (fun z => hK _ _ _ _ (h1 z) H locs ls hP hS hl) (fun z => hK _ _ _ _ (h2 z) H locs ls hP hS hl)
  case ifCond cn off =>
    simp only [ck2, Bool.and_eq_true, beq_iff_eq, decide_eq_true_eq] at hk
    obtain ⟨rfl, hk2⟩ := hk
    rw [e1] at hd
    obtain ⟨x, r, rfl, h⟩ := s1_el h
    intro H locs ls hP hS hl
    refine br_W h ?_ ?_ ?_ ?_ ?_ ?_
    · rintro rfl h1 h2; exact lv_if_eq hx hb hd hk2 (fun z => hK _ _ _ _ (h1 z) H locs ls hP hS hl) (fun z => hK _ _ _ _ (h2 z) H locs ls hP hS hl)
    · rintro rfl h1 h2; exact lv_if_ne hx hb hd hk2 (fun z => hK _ _ _ _ (h1 z) H locs ls hP hS hl) (fun z => hK _ _ _ _ (h2 z) H locs ls hP hS hl)
    · rintro rfl h1 h2; exact lv_if_lt hx hb hd hk2 (fun z => hK _ _ _ _ (h1 z) H locs ls hP hS hl) (fun z => hK _ _ _ _ (h2 z) H locs ls hP hS hl)
    · rintro rfl h1 h2; exact lv_if_ge hx hb hd hk2 (fun z => hK _ _ _ _ (h1 z) H locs ls hP hS hl) (fun z => hK _ _ _ _ (h2 z) H locs ls hP hS hl)
    · rintro rfl h1 h2; exact lv_if_gt hx hb hd hk2 (fun z => hK _ _ _ _ (h1 z) H locs ls hP hS hl) (fun z => hK _ _ _ _ (h2 z) H locs ls hP hS hl)
    · rintro rfl h1 h2; exact lv_if_le hx hb hd hk2 (fun z => hK _ _ _ _ (h1 z) H locs ls hP hS hl) (fun z => hK _ _ _ _ (h2 z) H locs ls hP hS hl)
  case ireturn =>
    simp only [ck2, beq_iff_eq] at hk
    subst hk
    rw [e1] at hd
    obtain ⟨x, r, rfl, h⟩ := s1_el h
    obtain ⟨rfl, h⟩ := sn_el h
    obtain ⟨ty, e2, h⟩ := om_el h
    intro H locs ls hP hS hl
    cases ty with
    | int => exact hRt (some (.inl x)) σ pc H locs ls h hP hS ⟨x, .int, rfl, e2, rfl, hd⟩
    | boolean => exact hRt (some (.inl x)) σ pc H locs ls h.2 hP hS ⟨x, .boolean, rfl, e2, congrArg Value.int h.1, hd⟩
    | _ => exact False.elim h
  case return_ =>
    simp only [ck2, beq_iff_eq] at hk
    subst hk
    rw [e1] at hd
    obtain ⟨hS0, h7⟩ := sn_el h
    subst hS0
    intro H locs ls hP hS hl
    cases e2 : m_ret M with
    | some ty => rw [e2] at h7; exact False.elim h7
    | none => rw [e2] at h7; exact hRt none σ pc H locs ls h7 hP hS ⟨e2, hd⟩
  case invokevirtual ix =>
    simp only [ck2, beq_iff_eq] at hk
    subst hk
    rw [e1] at hd
    obtain ⟨⟨o, n, f⟩, e2, h⟩ := om_el h
    obtain ⟨o', r, e3, h⟩ := sr_el h
    obtain ⟨h0, h⟩ := cond_el h
    simp only [Bool.and_eq_true] at h0
    obtain rfl : o' = o := Nat.eq_of_beq_eq_true h0.1
    obtain ⟨oc, h1, h2⟩ := hM.2.2 _ (lk_mem e2) _ σ _ _ (by rw [List.length_reverse]; exact Nat.eq_of_beq_eq_true h0.2.1) h
    have h3 := (h2 X Rt Th hX pc L r (Nat.le_of_ble_eq_true h0.2.2) (by
      match oc, h1 with
      | .inl z, h1 => exact hK _ _ _ _ h1
      | .inr z, h1 => exact h1)).1 hd
    dsimp only at h3 e3
    rw [List.reverse_reverse, ← e3, List.take_append_drop] at h3
    exact h3
  case invokestatic ix =>
    simp only [ck2, beq_iff_eq] at hk
    subst hk
    rw [e1] at hd
    obtain ⟨⟨o, n, f⟩, e2, h⟩ := om_el h
    obtain ⟨h0, h⟩ := cond_el h
    simp only [Bool.and_eq_true] at h0
    obtain ⟨oc, h1, h2⟩ := hM.2.2 _ (lk_mem e2) _ σ _ _ (by rw [List.length_reverse]; exact Nat.eq_of_beq_eq_true h0.1) h
    have h3 := (h2 X Rt Th hX pc L (S.drop n) (Nat.le_of_ble_eq_true h0.2) (by
      match oc, h1 with
      | .inl z, h1 => exact hK _ _ _ _ h1
      | .inr z, h1 => exact h1)).2 hd
    dsimp only at h3
    rw [List.reverse_reverse, List.take_append_drop] at h3
    exact h3
  case new ix =>
    obtain ⟨rfl, h⟩ := sn_el h
    obtain ⟨E, e2, h⟩ := om_el h
    intro H locs ls hP hS hl
    exact hTs pc E σ (lk_mem e2) h H locs ls hP hS hl.1.1
  all_goals exact False.elim h
theorem wpn_sound (hM : MOK M) (hX : Cx X M Rt Th) {stops : List Nat} {K : Nat → List (Option AV) → List AV → Mem → Prop} (hK : ∀ pc L S σ, K pc L S σ → Go X M pc L S σ) :
    ∀ (n pc : Nat) (L : List (Option AV)) (S : List AV) (σ : Mem), wpn M stops n pc L S σ K Rt Th → Go X M pc L S σ
  | 0, pc, L, S, σ, h => hK _ _ _ _ h
  | n + 1, pc, L, S, σ, h => by
    obtain ⟨q, e, h⟩ := om_el h
    refine stp_sound hM hX e (K := fun pc' L' S' σ' => cond (nin pc' stops) (K pc' L' S' σ') (wpn M stops n pc' L' S' σ' K Rt Th)) (fun pc' L' S' σ' h' => ?_) h
    cases e4 : nin pc' stops with
    | true => rw [e4] at h'; exact hK _ _ _ _ h'
    | false => rw [e4] at h'; exact wpn_sound hM hX hK n pc' L' S' σ' h'
/-- THE WALK: some steps of the table, with all that may end them kept closed -/
theorem Go_run (hM : MOK M) (hX : Cx X M Rt Th) (stops : List Nat) (n : Nat) {pc : Nat} {L : List (Option AV)} {S : List AV} {σ : Mem}
    (h : ∀ (K : Nat → List (Option AV) → List AV → Mem → Prop) (R1 : Option AV → Mem → Prop) (T1 : Nat → String → Mem → Prop), (∀ pc L S σ, Go X M pc L S σ → K pc L S σ) → (∀ r σ, Rt r σ → R1 r σ) → (∀ pc E σ, Th pc E σ → T1 pc E σ) → wpn M stops n pc L S σ K R1 T1) : Go X M pc L S σ :=
  wpn_sound hM hX (fun _ _ _ _ h => h) n pc L S σ (h (Go X M) Rt Th (fun _ _ _ _ h => h) (fun _ _ h => h) (fun _ _ _ h => h))
end SND
end
section
/-! contracts of the small machine: one outcome for each start -/
def rmm (d k : Nat) : Room := { frames := 8 + d, cells := k, slots := 6 * k, locals := 100 + 30 * d }
def on (oc : OC) : Nat := match oc with | .inl _ => 0 | .inr _ => 1
def PcG (g : GT) (as : List AV) (σ : Mem) : Array Value → State → Prop := va_Pc (as.map (cv g)) (fun U => g.1 ≤ U.heap.size ∧ va_P g.2.1 classes (mw g σ) U.heap ∧ KG g U)
def OQ (g : GT) (oc : OC) : Array Value → State → Outcome → State → Prop := fun _ s o t => match oc with
  | .inl q => o = .returned (q.1.map (cv g)) ∧ va_P g.2.1 classes (mw g q.2) t.heap ∧ va_F (gA g) s t
  | .inr _ => False
def OX (g : GT) (oc : OC) : String → State → State → Prop := fun E s t => match oc with
  | .inl _ => False
  | .inr q => E = q.1 ∧ va_P g.2.1 classes (mw g q.2) t.heap ∧ va_F (gA g) s t
def wsG (y : MethodName) (M : MI) : List Jvm.Cond := .code y (m_cc M) (m_nL M) (m_ret M) :: gtbl
def MetO (y : MethodName) (M : MI) (as : List AV) (σ : Mem) (oc : OC) : Prop := ∀ (l : Launch) (g : GT), l.stackTraces = false →
  vx_Met l y (wsG y M) (rmm (m_d M) (on oc)) (PcG g as σ) (OQ g oc) (OX g oc) (on oc) (6 * on oc) (gA g)
theorem good_in {ws : List Jvm.Cond} (h : ∀ w ∈ ws, w ∈ gtbl) : GoodIn gtbl ws := fun w hw => ⟨h w hw, good_of_word (List.mem_filter.mp (h w hw)).2⟩
theorem PcG.blind {g : GT} {as : List AV} {σ : Mem} : FrameBlind (PcG g as σ) := fun a U f mk h => ⟨h.1, h.2.1, h.2.2.1, KG.blind f mk a h.2.2.2⟩
section CALL
variable {M M' : MI} {y : MethodName} {ix o : Nat} {as : List AV} {σ : Mem} {oc : OC}
theorem map_out (g : GT) (v : Option AV) (rest : List AV) : (v.toList ++ rest).map (cv g) = (v.map (cv g)).toList ++ rest.map (cv g) := by cases v <;> rfl
/-- what is common to both kinds of calls: from the run of a contract to the caller's next state -/
theorem go_run {X : CT} {Rt : Option AV → Mem → Prop} {Th : Nat → String → Mem → Prop} (hX : Cx X M Rt Th) {pc : Nat} {L : List (Option AV)} {rest : List AV} {st0 : List Value} {a : Array Value} {H : Heap} {locs : List Loc} {ls : Array Slot} (hS : wS X H locs) (hl : LH (xg X) ls (m_nL M) L)
    (hpost : match oc with | .inl q => Go X M (pc + 3) L (q.1.toList ++ rest) q.2 | .inr q => Th pc q.1 q.2)
    (run : vx_Run (xp X) (xl X) (xe X) (xR X) (xs X) (xm X) (xa X) (xb X) (xme X) (xc X) H locs (xk X) (xn X) (on oc) (6 * on oc) (F0 (xm X) pc ls st0) (rest.map (cv (xg X))) (OQ (xg X) oc a) (OX (xg X) oc) (gA (xg X))) : XW X H locs (F0 (xm X) pc ls st0) := by
  intro T hT X1
  match oc, hpost, run with
  | .inl z, hpost, run =>
    rcases run T hT X1 with ⟨v, st₀, t, T', L1, h0, X2, hL, e1, e2, ⟨hv, hP, hF⟩, stp⟩ | ⟨q, st₀, t, T', L1, E, ce, h0, X2, hL, e1, e2, hx, -⟩
    · obtain ⟨k1, k2, k3⟩ := vx_keep h0 e1 hS (fun q _ h => h) (fun q h => h) hL hF
      obtain ⟨t2, a1, b1⟩ := hpost T'.heap (locs ++ L1) ls (by rw [e1]; exact hP) k3 hl T' rfl X2
      refine ⟨t2, stp t2 ?_, b1⟩
      rw [map_out] at a1
      cases hv
      exact a1
    · exact hx.elim
  | .inr z, hpost, run =>
    rcases run T hT X1 with ⟨v, st₀, t, T', L1, h0, X2, hL, e1, e2, hf, -⟩ | ⟨q, st₀, t, T', L1, E, ce, h0, X2, hL, e1, e2, ⟨rfl, hP, hF⟩, hce, hcv, hcl, stp⟩
    · exact hf.elim
    · obtain ⟨k1, k2, k3⟩ := vx_keep h0 e1 hS (fun q _ h => h) (fun q h => h) hL hF
      obtain ⟨t2, a1, b1⟩ := (hX.2.2.2.1 pc z.1 z.2 hpost).2 T'.heap (locs ++ L1) ls (rest.map (cv (xg X))) q ce (by rw [e1]; exact hP) k3 hl.1 (by rw [e1]; exact hce) hcv hcl T' rfl X2
      exact ⟨t2, stp.trans a1, b1⟩
theorem room_of {X : CT} {Rt : Option AV → Mem → Prop} {Th : Nat → String → Mem → Prop} (hX : Cx X M Rt Th) {pc : Nat} {L : List (Option AV)} {rest : List AV} (hpost : match oc with | .inl q => Go X M (pc + 3) L (q.1.toList ++ rest) q.2 | .inr q => Th pc q.1 q.2) :
    xk X + on oc ≤ (xR X).cells ∧ xn X + 6 * on oc ≤ (xR X).slots := by
  match oc, hpost with
  | .inl z, _ => exact ⟨hX.2.1.2.2.1, hX.2.1.2.2.2⟩
  | .inr z, hpost => exact (hX.2.2.2.1 pc z.1 z.2 hpost).1
theorem pre_of {X : CT} {Rt : Option AV → Mem → Prop} {Th : Nat → String → Mem → Prop} (hX : Cx X M Rt Th) {H : Heap} {locs : List Loc} (hP : wo X σ H) (hS : wS X H locs) (bs : List AV) (U : State) (hU : U.heap = H) (hW : (xs X).WarmedH U.vm) : PcG (xg X) bs σ (bs.map (cv (xg X))).toArray U := by
  obtain ⟨⟨hx, hb, hml, hown, hts, hKG, hbase⟩, -⟩ := hX
  refine ⟨rfl, Nat.le_trans hbase (by rw [hU]; exact hS.1), by rw [hU]; exact hP, KG.go hKG hW (fun q h1 h2 => by rw [hU]; exact hS.2.1 q h1 h2)⟩
theorem gcallV (hmet : MetO y M' (.inr (.inl o) :: as) σ oc) {ci : Nat} (hci : ci < 3) (ho : o = ob ci) (hy : y.cls = cR ci) (hd : m_d M' + 1 ≤ m_d M) (hn : m_nL M' ≤ 11)
    (hdesc : y.cls ≠ "java/lang/invoke/MethodHandle" ∧ y.cls ≠ "java/lang/invoke/VarHandle" ∧ (parseMethodDescriptor y.desc).map (fun d => d.parameters.length) = some as.length)
    (h1 : Jvm.Cond.methodLink (m_own M) ix y ∈ gtbl) (h2 : Jvm.Cond.instanceMethod y ∈ gtbl) (h3 : Jvm.Cond.selects y.cls y y ∈ gtbl) (h4 : Jvm.Cond.initialized y.cls ∈ gtbl) (h5 : Jvm.Cond.code y (m_cc M') (m_nL M') (m_ret M') ∈ gtbl) (hst : ∀ pc, ¬ decode (m_cc M) pc = .ok (.invokestatic ix, 3)) : CallGo M ix o as σ oc := by
  intro X Rt Th hX pc L rest hr hpost
  refine ⟨fun hdg H locs ls hP hS hl => ?_, fun hdg => absurd hdg (hst pc)⟩
  obtain ⟨⟨hx, hb, hml, hown, hts, hKG, hbase⟩, ⟨hr1, hr2, -, -⟩, hRt, hTh, hTs, htr⟩ := id hX
  have hG : GoodIn gtbl (wsV (m_own M) ix y.cls y (wsG y M')) := good_in (by
    intro w hw
    rcases List.mem_append.mp hw with h | h
    · simp only [List.mem_cons, List.mem_nil_iff, or_false] at h
      rcases h with rfl | rfl | rfl | rfl
      · exact h1
      · exact h2
      · exact h3
      · exact h4
    · rcases List.mem_cons.mp h with rfl | h
      · exact h5
      · exact h)
  have es : (as.reverse ++ .inr (.inl o) :: rest).map (cv (xg X)) = (as.map (cv (xg X))).reverse ++ Value.ref (gad (xg X) o) :: rest.map (cv (xg X)) := by
    rw [List.map_append, List.map_reverse]; rfl
  have hrec := va_recv hKG.1 hP (ci := ci) (q0 := ob ci) (a := gad (xg X) o) (mw_ob (xg X) σ hci).2 (by rw [ho]; exact (mw_ob (xg X) σ hci).1)
  rw [es]
  exact go_run (a := (Value.ref (gad (xg X) o) :: as.map (cv (xg X))).toArray) hX hS hl hpost (vx_runV (As := as.map (cv (xg X))) (rest := rest.map (cv (xg X))) (C := y.cls) ⟨hx, hb, hml, hown, hts⟩ (hmet (xl X) (xg X) htr)
    (cwV as.length hts hG rfl rfl rfl ⟨rfl, hdesc.1, hdesc.2.1, hdesc.2.2⟩ ⟨by show 8 + m_d M' + 1 ≤ _; omega, by show 8 + (m_nL M' + 11) + (100 + 30 * m_d M') ≤ _; omega⟩)
    ⟨PcG.blind, by rw [hy]; exact hrec, fun U hU hW => pre_of hX hP hS (.inr (.inl o) :: as) U hU hW⟩ rfl (by rw [List.length_map]) hl.1.1 rfl (lv_room (Nat.le_trans (catsum (xg X) rest) (by omega))) hdg (room_of hX hpost))
theorem gcallS (hmet : MetO y M' as σ oc) (hy : y.cls = m_own M) (hd : m_d M' + 1 ≤ m_d M) (hn : m_nL M' ≤ 11)
    (hdesc : y.cls ≠ "java/lang/invoke/MethodHandle" ∧ y.cls ≠ "java/lang/invoke/VarHandle" ∧ (parseMethodDescriptor y.desc).map (fun d => d.parameters.length) = some as.length)
    (h1 : Jvm.Cond.methodLink (m_own M) ix y ∈ gtbl) (h2 : Jvm.Cond.static y ∈ gtbl) (h4 : Jvm.Cond.initialized y.cls ∈ gtbl) (h5 : Jvm.Cond.code y (m_cc M') (m_nL M') (m_ret M') ∈ gtbl) (hst : ∀ pc, ¬ decode (m_cc M) pc = .ok (.invokevirtual ix, 3)) : CallGo M ix o as σ oc := by
  intro X Rt Th hX pc L rest hr hpost
  refine ⟨fun hdg => absurd hdg (hst pc), fun hdg H locs ls hP hS hl => ?_⟩
  obtain ⟨⟨hx, hb, hml, hown, hts, hKG, hbase⟩, ⟨hr1, hr2, -, -⟩, hRt, hTh, hTs, htr⟩ := id hX
  have hG : GoodIn gtbl (wsS (m_own M) ix y (wsG y M')) := good_in (by
    intro w hw
    rcases List.mem_append.mp hw with h | h
    · simp only [List.mem_cons, List.mem_nil_iff, or_false] at h
      rcases h with rfl | rfl | rfl
      · exact h1
      · exact h2
      · rw [← hy]; exact h4
    · rcases List.mem_cons.mp h with rfl | h
      · exact h5
      · exact h)
  have es : (as.reverse ++ rest).map (cv (xg X)) = (as.map (cv (xg X))).reverse ++ rest.map (cv (xg X)) := by
    rw [List.map_append, List.map_reverse]
  rw [es]
  exact go_run (a := (as.map (cv (xg X))).toArray) hX hS hl hpost (vx_runS (As := as.map (cv (xg X))) (rest := rest.map (cv (xg X))) ⟨hx, hb, hml, hown, hts⟩ (hmet (xl X) (xg X) htr)
    (cwS as.length hts hG rfl rfl rfl ⟨hy, hdesc.1, hdesc.2.1, hdesc.2.2⟩ ⟨by show 8 + m_d M' + 1 ≤ _; omega, by show 8 + (m_nL M' + 11) + (100 + 30 * m_d M') ≤ _; omega⟩)
    ⟨PcG.blind, fun U hU hW => pre_of hX hP hS as U hU hW⟩ rfl (by rw [List.length_map]) hl.1.1 rfl (lv_room (Nat.le_trans (catsum (xg X) rest) (by omega))) hdg (room_of hX hpost))
/-- Math.max -/
theorem gcallMax {x z : Int32} (h1 : Jvm.Cond.methodLink (m_own M) ix Lib.Math.max.name ∈ gtbl) (h2 : Jvm.Cond.static Lib.Math.max.name ∈ gtbl) (h3 : Jvm.Cond.initialized "java/lang/Math" ∈ gtbl) (h4 : Jvm.Cond.code Lib.Math.max.name Lib.Math.max.code 2 (some .int) ∈ gtbl) (hst : ∀ pc, ¬ decode (m_cc M) pc = .ok (.invokevirtual ix, 3)) :
    CallGo M ix o [.inl x, .inl z] σ (.inl (some (.inl (if x < z then z else x)), σ)) := by
  intro X Rt Th hX pc L rest hr hpost
  refine ⟨fun hdg => absurd hdg (hst pc), fun hdg H locs ls hP hS hl => ?_⟩
  obtain ⟨⟨hx, hb, hml, hown, hts, hKG, hbase⟩, ⟨hr1, hr2, hr3, hr4⟩, hRt, hTh, hTs, htr⟩ := id hX
  have hc := catsum (xg X) rest
  exact va_mmax hx hb (hml.trans hl.1.1.symm) hown (hts _ h1) (hts _ h2) (hts _ h3) (hts _ h4) (by omega) (Nat.le_trans (Nat.add_le_add_right hc 13) (by omega)) hr3 hr4 hdg (hpost H locs ls hP hS hl)
end CALL
/-! a method's body -/
def names2 : List String := ["java/lang/RuntimeException", "java/lang/Exception"]
def ThrW (own : String) (ik ic : Nat) (E : String) : Prop := Jvm.Cond.classLink own ik E ∈ gtbl ∧ Jvm.Cond.initialized E ∈ gtbl ∧ (∀ w ∈ vx_atS own ic E names2, w ∈ gtbl ∨ w ∈ dtbl) ∧ Bundle.fit E = true
def SiteF (M : MI) (q : Nat × String) : Prop := ∃ (ik is ic : Nat) (text : String), (decode (m_cc M) q.1 = .ok (.new ik, 3) ∧ decode (m_cc M) (q.1 + 3) = .ok (.dup, 1) ∧ decode (m_cc M) (q.1 + 4) = .ok (.ldc is, 2) ∧ decode (m_cc M) (q.1 + 6) = .ok (.invokespecial ic, 3) ∧ decode (m_cc M) (q.1 + 9) = .ok (.athrow, 1)) ∧
  (m_own M, is, text) ∈ strs ∧ ThrW (m_own M) ik ic q.2
def RtO (oc : OC) : Option AV → Mem → Prop := fun r σ => oc = .inl (r, σ)
def ThO (oc : OC) : Nat → String → Mem → Prop := fun _ E σ => oc = .inr (E, σ)
abbrev CxO (X : CT) (M : MI) (oc : OC) : Prop := Cx X M (RtO oc) (ThO oc)
theorem vx_ot_g {w : Jvm.Cond} (h : w ∈ gtbl) : vx_ot w = true := by
  unfold vx_ot
  rw [(List.mem_filter.mp h).2, Bool.or_true]
theorem vx_ot_d {w : Jvm.Cond} (h : w ∈ dtbl) : vx_ot w = true := by
  unfold vx_ot
  rw [nw_tab (List.mem_filter.mp h).2, Bool.true_or]
theorem args_in (g : GT) : ∀ (as : List AV) (k j n : Nat) (v : AV), (∀ v ∈ as, noL v) → lg (as.map some ++ List.replicate n none) j = some v → (k + j, cv g v) ∈ lv_args k (as.map (cv g)) ∧ noL v
  | [], k, j, n, v, _, h => by
    exfalso
    have hr : ∀ (n j : Nat), lg (List.replicate n (none : Option AV)) j = none := by
      intro n
      induction n with
      | zero => intro j; rfl
      | succ n ih =>
        intro j
        cases j with
        | zero => rfl
        | succ j => exact ih j
    rw [show ([] : List AV).map some ++ List.replicate n none = List.replicate n none from rfl, hr] at h
    cases h
  | w :: as, k, 0, n, v, hn, h => by
    cases h
    exact ⟨List.mem_cons_self, hn _ List.mem_cons_self⟩
  | w :: as, k, j + 1, n, v, hn, h => by
    have h1 := args_in g as (k + 1) j n v (fun v hv => hn v (List.mem_cons_of_mem _ hv)) h
    have hc := cat1 (g := g) (hn w List.mem_cons_self)
    refine ⟨?_, h1.2⟩
    show (k + (j + 1), cv g v) ∈ (k, cv g w) :: lv_args (if (cv g w).category = 2 then k + 2 else k + 1) (as.map (cv g))
    rw [if_neg (by omega), show k + (j + 1) = k + 1 + j by omega]
    exact List.mem_cons_of_mem _ h1.1
theorem sl_len (g : GT) : ∀ (as : List AV), (∀ v ∈ as, noL v) → (lg_sl (as.map (cv g))).length = as.length
  | [], _ => rfl
  | w :: as, hn => by
    have h1 := sl_len g as (fun v hv => hn v (List.mem_cons_of_mem _ hv))
    have hc := cat1 (g := g) (hn w List.mem_cons_self)
    unfold lg_sl at h1 ⊢
    rw [List.map_cons, List.flatMap_cons, List.length_append, h1, if_neg (by omega)]
    show 1 + as.length = as.length + 1
    omega
theorem met_of {y : MethodName} {M : MI} {as : List AV} {σ : Mem} {oc : OC} (hy : y.cls = m_own M ∧ plainName y.cls = true) (hs : ∀ q ∈ m_tr M, SiteF M q) (hlen : as.length ≤ m_nL M) (hno : ∀ v ∈ as, noL v)
    (h : ∀ X, CxO X M oc → Go X M 0 (as.map some ++ List.replicate (m_nL M - as.length) none) [] σ) : MetO y M as σ oc := by
  intro l g htr
  refine vx_ofW (cc := m_cc M) (maxL := m_nL M) (ret := m_ret M) hy.2 rfl ?_
  intro p e s m args below meth c s₁ B hml hexc hPc
  obtain ⟨rfl, hbase, hP, hKG⟩ := hPc
  have hts0 := atoms_spec (ws := wsG y M) B.pre
  have hts : ∀ w ∈ gtbl, w.before (as.map (cv g)).toArray s = true := fun w hw => hts0 w (List.mem_cons_of_mem _ hw)
  have hown : s.vm.findClass (m_own M) = some m.cls := hy.1 ▸ findClass_of_methodNamed B.named
  have hlocks := B.notSynchronized
  have hr := B.returns
  have hout : ∀ (pc : Nat), ∀ x ∈ c.exceptionTable.toList, covers x pc = false := fun pc x hx => (hexc x hx).elim
  let X : CT := (p, l, e, rmm (m_d M) (on oc), s, m, (as.map (cv g)).toArray, below, meth, c, g, vx_MQ below (OQ g oc) (OX g oc) (as.map (cv g)).toArray s (on oc) (6 * on oc) (gA g), 0, 0)
  have hX : CxO X M oc := by
    refine ⟨⟨B.exec, B.bytes, hml, hown, hts, hKG, hbase⟩, ⟨Nat.le_refl _, Nat.le_refl _, Nat.zero_le _, Nat.zero_le _⟩, ?_, ?_, ?_, htr⟩
    · intro r σ' pc H locs ls he hP1 hS1 hd
      have he : oc = .inl (r, σ') := he
      subst he
      cases r with
      | none =>
        obtain ⟨h1, h2⟩ := hd
        exact vx_ret (W.vret B.exec B.bytes (hr.trans h1) (fun t ht hW => ⟨rfl, by rw [ht]; exact hP1, hS1.F ht⟩) hS1.2.2 h2 hlocks)
      | some v =>
        obtain ⟨x, ty, rfl, h1, h2, h3⟩ := hd
        exact vx_ret (W.zret B.exec B.bytes (hr.trans h1) h2 (fun t ht hW => ⟨rfl, by rw [ht]; exact hP1, hS1.F ht⟩) hS1.2.2 h3 hlocks)
    · intro pc E σ' he
      have he : oc = .inr (E, σ') := he
      subst he
      refine ⟨⟨Nat.le_refl _, Nat.le_refl _⟩, fun H locs ls rest q ce hP1 hS1 hl hce hcv hcl => ?_⟩
      exact vx_out (hout pc) hlocks hce hcv hcl (fun t ht hA => ⟨rfl, by rw [ht]; exact hP1, hS1.F ht⟩) hS1.2.2 (Nat.le_refl _) (Nat.le_refl _)
    · intro pc E σ' hin he H locs ls hP1 hS1 hsz
      have he : oc = .inr (E, σ') := he
      subst he
      obtain ⟨ik, is, ic, text, ⟨d0, d3, d4, d6, d9⟩, hstr, hc1, hc2, hc3, hfit⟩ := hs _ hin
      obtain ⟨sa, hsa⟩ := hKG.2.2.1 _ hstr
      refine vx_throwS (names := names2) B.exec B.bytes htr hown hfit (by decide +kernel) (hts _ hc1) (hts _ hc2) hsa (fun w hw => ?_) (fun w hw => ?_) hKG.2.2.2.2.1 hKG.2.2.2.2.2.1 hS1 (hsz.trans hml.symm) d0 d3 d4 d6 d9 (hout _)
        (by show 2 + 3 < 8 + m_d M; omega) (by show 0 + (13 * (2 + 1) + 43) ≤ 100 + 30 * m_d M; omega) (Nat.le_refl _) (Nat.le_refl _) hlocks (fun t hA hz hk => ⟨rfl, hP1.kept (fun k q hq => hk q.1 (vx_lt hP1 hq)), ?_⟩) hS1.2.2 (Nat.le_refl _) (Nat.le_refl _)
      · rcases hc3 w hw with h1 | h1
        · exact hts w h1
        · exact va_Nw.use (nw_tab (List.mem_filter.mp h1).2) (hKG.2.1 w h1)
      · rcases List.mem_cons.mp hw with rfl | hw
        · exact vx_ot_g hc1
        · rcases List.mem_cons.mp hw with rfl | hw
          · exact vx_ot_g hc2
          · rcases hc3 w hw with h1 | h1
            · exact vx_ot_g h1
            · exact vx_ot_d h1
      · refine ⟨Nat.le_trans hS1.1 hz, fun q h1 h2 => ?_⟩
        rw [hk q (Nat.lt_of_lt_of_le h1 hS1.1)]
        exact hS1.2.1 q h1 h2
  have hG := h X hX
  have hl := lv_entry (as.map (cv g)) (n := m_nL M) (by rw [sl_len g as hno]; exact hlen)
  have h9 := hG s.heap [] _ hP va_S.rf ⟨⟨hl.1, hl.2.1, fun q hq => by cases hq⟩, fun i v hv => by
    have h1 := args_in g as 0 i _ v hno hv
    rw [Nat.zero_add] at h1
    exact ⟨hl.2.2 _ h1.1, h1.2⟩⟩
  rw [lg_entry_eq]
  exact h9
end
