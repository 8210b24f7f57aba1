section
-- ===== PART A: goes FIRST, ahead of the names: the tables' words, and 'selects' of the private methods out of them =====
/-- a private method of a class that the tables say can be made, by its rows of tables_1 -/
def lw_okq (q : MethodName × Nat) : Prop := (q.1.cls ≠ "java/lang/invoke/MethodHandle" ∧ q.1.cls ≠ "java/lang/invoke/VarHandle") ∧ Cond.instantiable q.1.cls q.2 ∈ tables_1 ∧ Cond.privateMethod q.1 ∈ tables_1 ∧ Cond.instanceMethod q.1 ∈ tables_1
theorem lw_p0 : lw_okq (⟨"RootedWords", "refuseWhenDown", "()V"⟩, 4) := ⟨⟨by decide +kernel, by decide +kernel⟩, List.mem_of_getElem? (i := 14) (by decide +kernel), List.mem_of_getElem? (i := 99) (by decide +kernel), List.mem_of_getElem? (i := 100) (by decide +kernel)⟩
theorem lw_p1 : lw_okq (⟨"java/lang/Throwable", "fillInStackTrace", "(I)Ljava/lang/Throwable;"⟩, 6) := ⟨⟨by decide +kernel, by decide +kernel⟩, List.mem_of_getElem? (i := 143) (by decide +kernel), List.mem_of_getElem? (i := 141) (by decide +kernel), List.mem_of_getElem? (i := 142) (by decide +kernel)⟩
theorem lw_p2 : lw_okq (⟨"RootedWords", "lowestFree", "(I)I"⟩, 4) := ⟨⟨by decide +kernel, by decide +kernel⟩, List.mem_of_getElem? (i := 14) (by decide +kernel), List.mem_of_getElem? (i := 190) (by decide +kernel), List.mem_of_getElem? (i := 191) (by decide +kernel)⟩
theorem lw_p3 : lw_okq (⟨"RootedWords", "listExtents", "()I"⟩, 4) := ⟨⟨by decide +kernel, by decide +kernel⟩, List.mem_of_getElem? (i := 14) (by decide +kernel), List.mem_of_getElem? (i := 194) (by decide +kernel), List.mem_of_getElem? (i := 195) (by decide +kernel)⟩
theorem lw_p4 : lw_okq (⟨"RootedWords", "lengthAt", "(I)I"⟩, 4) := ⟨⟨by decide +kernel, by decide +kernel⟩, List.mem_of_getElem? (i := 14) (by decide +kernel), List.mem_of_getElem? (i := 198) (by decide +kernel), List.mem_of_getElem? (i := 199) (by decide +kernel)⟩
theorem lw_p5 : lw_okq (⟨"RootedWords", "isFreeAt", "(I)Z"⟩, 4) := ⟨⟨by decide +kernel, by decide +kernel⟩, List.mem_of_getElem? (i := 14) (by decide +kernel), List.mem_of_getElem? (i := 209) (by decide +kernel), List.mem_of_getElem? (i := 210) (by decide +kernel)⟩
theorem lw_p6 : lw_okq (⟨"RootedWords", "kindAt", "(I)I"⟩, 4) := ⟨⟨by decide +kernel, by decide +kernel⟩, List.mem_of_getElem? (i := 14) (by decide +kernel), List.mem_of_getElem? (i := 213) (by decide +kernel), List.mem_of_getElem? (i := 214) (by decide +kernel)⟩
theorem lw_p7 : lw_okq (⟨"RootedWords", "contentAt", "(I)I"⟩, 4) := ⟨⟨by decide +kernel, by decide +kernel⟩, List.mem_of_getElem? (i := 14) (by decide +kernel), List.mem_of_getElem? (i := 217) (by decide +kernel), List.mem_of_getElem? (i := 218) (by decide +kernel)⟩
theorem lw_p8 : lw_okq (⟨"RootedWords", "clearContent", "(II)V"⟩, 4) := ⟨⟨by decide +kernel, by decide +kernel⟩, List.mem_of_getElem? (i := 14) (by decide +kernel), List.mem_of_getElem? (i := 237) (by decide +kernel), List.mem_of_getElem? (i := 238) (by decide +kernel)⟩
theorem lw_p9 : lw_okq (⟨"RootedWords", "planExtent", "(IIII)V"⟩, 4) := ⟨⟨by decide +kernel, by decide +kernel⟩, List.mem_of_getElem? (i := 14) (by decide +kernel), List.mem_of_getElem? (i := 248) (by decide +kernel), List.mem_of_getElem? (i := 249) (by decide +kernel)⟩
theorem lw_p10 : lw_okq (⟨"RootedWords", "refuseUnlessUsed", "(I)V"⟩, 4) := ⟨⟨by decide +kernel, by decide +kernel⟩, List.mem_of_getElem? (i := 14) (by decide +kernel), List.mem_of_getElem? (i := 273) (by decide +kernel), List.mem_of_getElem? (i := 274) (by decide +kernel)⟩
theorem lw_p11 : lw_okq (⟨"RootedWords", "isUsedAddress", "(I)Z"⟩, 4) := ⟨⟨by decide +kernel, by decide +kernel⟩, List.mem_of_getElem? (i := 14) (by decide +kernel), List.mem_of_getElem? (i := 277) (by decide +kernel), List.mem_of_getElem? (i := 278) (by decide +kernel)⟩
theorem lw_p12 : lw_okq (⟨"RootedWords", "makeFree", "(II)V"⟩, 4) := ⟨⟨by decide +kernel, by decide +kernel⟩, List.mem_of_getElem? (i := 14) (by decide +kernel), List.mem_of_getElem? (i := 297) (by decide +kernel), List.mem_of_getElem? (i := 298) (by decide +kernel)⟩
theorem lw_p13 : lw_okq (⟨"RootedWords", "refuseUnlessWord", "(II)V"⟩, 4) := ⟨⟨by decide +kernel, by decide +kernel⟩, List.mem_of_getElem? (i := 14) (by decide +kernel), List.mem_of_getElem? (i := 309) (by decide +kernel), List.mem_of_getElem? (i := 310) (by decide +kernel)⟩
theorem lw_p14 : lw_okq (⟨"RootedWords", "pointersAt", "(I)I"⟩, 4) := ⟨⟨by decide +kernel, by decide +kernel⟩, List.mem_of_getElem? (i := 14) (by decide +kernel), List.mem_of_getElem? (i := 329) (by decide +kernel), List.mem_of_getElem? (i := 330) (by decide +kernel)⟩
theorem lw_p15 : lw_okq (⟨"RootedWords", "changeWord", "(II)V"⟩, 4) := ⟨⟨by decide +kernel, by decide +kernel⟩, List.mem_of_getElem? (i := 14) (by decide +kernel), List.mem_of_getElem? (i := 334) (by decide +kernel), List.mem_of_getElem? (i := 335) (by decide +kernel)⟩
def lw_privs_1 : List (MethodName × Nat) := [(⟨"RootedWords", "refuseWhenDown", "()V"⟩, 4), (⟨"java/lang/Throwable", "fillInStackTrace", "(I)Ljava/lang/Throwable;"⟩, 6), (⟨"RootedWords", "lowestFree", "(I)I"⟩, 4), (⟨"RootedWords", "listExtents", "()I"⟩, 4), (⟨"RootedWords", "lengthAt", "(I)I"⟩, 4), (⟨"RootedWords", "isFreeAt", "(I)Z"⟩, 4), (⟨"RootedWords", "kindAt", "(I)I"⟩, 4), (⟨"RootedWords", "contentAt", "(I)I"⟩, 4), (⟨"RootedWords", "clearContent", "(II)V"⟩, 4), (⟨"RootedWords", "planExtent", "(IIII)V"⟩, 4), (⟨"RootedWords", "refuseUnlessUsed", "(I)V"⟩, 4), (⟨"RootedWords", "isUsedAddress", "(I)Z"⟩, 4), (⟨"RootedWords", "makeFree", "(II)V"⟩, 4), (⟨"RootedWords", "refuseUnlessWord", "(II)V"⟩, 4), (⟨"RootedWords", "pointersAt", "(I)I"⟩, 4), (⟨"RootedWords", "changeWord", "(II)V"⟩, 4)]
theorem lw_r1 : ∀ q ∈ lw_privs_1, lw_okq q := List.forall_mem_cons.mpr ⟨lw_p0, List.forall_mem_cons.mpr ⟨lw_p1, List.forall_mem_cons.mpr ⟨lw_p2, List.forall_mem_cons.mpr ⟨lw_p3, List.forall_mem_cons.mpr ⟨lw_p4, List.forall_mem_cons.mpr ⟨lw_p5, List.forall_mem_cons.mpr ⟨lw_p6, List.forall_mem_cons.mpr ⟨lw_p7, List.forall_mem_cons.mpr ⟨lw_p8, List.forall_mem_cons.mpr ⟨lw_p9, List.forall_mem_cons.mpr ⟨lw_p10, List.forall_mem_cons.mpr ⟨lw_p11, List.forall_mem_cons.mpr ⟨lw_p12, List.forall_mem_cons.mpr ⟨lw_p13, List.forall_mem_cons.mpr ⟨lw_p14, List.forall_mem_cons.mpr ⟨lw_p15, fun _ h => absurd h List.not_mem_nil⟩⟩⟩⟩⟩⟩⟩⟩⟩⟩⟩⟩⟩⟩⟩⟩
theorem lw_p16 : lw_okq (⟨"RootedWords", "refuseUnlessRoot", "(I)V"⟩, 4) := ⟨⟨by decide +kernel, by decide +kernel⟩, List.mem_of_getElem? (i := 14) (by decide +kernel), List.mem_of_getElem? (i := 359) (by decide +kernel), List.mem_of_getElem? (i := 360) (by decide +kernel)⟩
theorem lw_p17 : lw_okq (⟨"RootedWords", "usedRoot", "(I)I"⟩, 4) := ⟨⟨by decide +kernel, by decide +kernel⟩, List.mem_of_getElem? (i := 14) (by decide +kernel), List.mem_of_getElem? (i := 364) (by decide +kernel), List.mem_of_getElem? (i := 365) (by decide +kernel)⟩
theorem lw_p18 : lw_okq (⟨"RootedWords", "searchFromRoots", "()I"⟩, 4) := ⟨⟨by decide +kernel, by decide +kernel⟩, List.mem_of_getElem? (i := 14) (by decide +kernel), List.mem_of_getElem? (i := 404) (by decide +kernel), List.mem_of_getElem? (i := 405) (by decide +kernel)⟩
theorem lw_p19 : lw_okq (⟨"RootedWords", "markUsed", "()V"⟩, 4) := ⟨⟨by decide +kernel, by decide +kernel⟩, List.mem_of_getElem? (i := 14) (by decide +kernel), List.mem_of_getElem? (i := 408) (by decide +kernel), List.mem_of_getElem? (i := 409) (by decide +kernel)⟩
theorem lw_p20 : lw_okq (⟨"RootedWords", "reach", "(II)I"⟩, 4) := ⟨⟨by decide +kernel, by decide +kernel⟩, List.mem_of_getElem? (i := 14) (by decide +kernel), List.mem_of_getElem? (i := 412) (by decide +kernel), List.mem_of_getElem? (i := 413) (by decide +kernel)⟩
theorem lw_p21 : lw_okq (⟨"RootedWords", "freeUnreached", "()V"⟩, 4) := ⟨⟨by decide +kernel, by decide +kernel⟩, List.mem_of_getElem? (i := 14) (by decide +kernel), List.mem_of_getElem? (i := 428) (by decide +kernel), List.mem_of_getElem? (i := 429) (by decide +kernel)⟩
theorem lw_p22 : lw_okq (⟨"RootedWords", "isReachedAt", "(I)Z"⟩, 4) := ⟨⟨by decide +kernel, by decide +kernel⟩, List.mem_of_getElem? (i := 14) (by decide +kernel), List.mem_of_getElem? (i := 432) (by decide +kernel), List.mem_of_getElem? (i := 433) (by decide +kernel)⟩
theorem lw_p23 : lw_okq (⟨"RootedWordsModel", "spend", "(I)I"⟩, 13) := ⟨⟨by decide +kernel, by decide +kernel⟩, List.mem_of_getElem? (i := 440) (by decide +kernel), List.mem_of_getElem? (i := 495) (by decide +kernel), List.mem_of_getElem? (i := 496) (by decide +kernel)⟩
theorem lw_p24 : lw_okq (⟨"RootedWordsModel", "does", "(I)Z"⟩, 13) := ⟨⟨by decide +kernel, by decide +kernel⟩, List.mem_of_getElem? (i := 440) (by decide +kernel), List.mem_of_getElem? (i := 499) (by decide +kernel), List.mem_of_getElem? (i := 500) (by decide +kernel)⟩
theorem lw_p25 : lw_okq (⟨"RootedWordsModel", "change", "(I)I"⟩, 13) := ⟨⟨by decide +kernel, by decide +kernel⟩, List.mem_of_getElem? (i := 440) (by decide +kernel), List.mem_of_getElem? (i := 503) (by decide +kernel), List.mem_of_getElem? (i := 504) (by decide +kernel)⟩
theorem lw_p26 : lw_okq (⟨"RootedWordsModel", "cut", "(II)V"⟩, 13) := ⟨⟨by decide +kernel, by decide +kernel⟩, List.mem_of_getElem? (i := 440) (by decide +kernel), List.mem_of_getElem? (i := 507) (by decide +kernel), List.mem_of_getElem? (i := 508) (by decide +kernel)⟩
theorem lw_p27 : lw_okq (⟨"RootedWordsModel", "at", "(I)I"⟩, 13) := ⟨⟨by decide +kernel, by decide +kernel⟩, List.mem_of_getElem? (i := 440) (by decide +kernel), List.mem_of_getElem? (i := 515) (by decide +kernel), List.mem_of_getElem? (i := 516) (by decide +kernel)⟩
theorem lw_p28 : lw_okq (⟨"RootedWordsModel", "join", "(II)V"⟩, 13) := ⟨⟨by decide +kernel, by decide +kernel⟩, List.mem_of_getElem? (i := 440) (by decide +kernel), List.mem_of_getElem? (i := 519) (by decide +kernel), List.mem_of_getElem? (i := 520) (by decide +kernel)⟩
theorem lw_p29 : lw_okq (⟨"RootedWordsModel", "isWord", "(II)Z"⟩, 13) := ⟨⟨by decide +kernel, by decide +kernel⟩, List.mem_of_getElem? (i := 440) (by decide +kernel), List.mem_of_getElem? (i := 527) (by decide +kernel), List.mem_of_getElem? (i := 528) (by decide +kernel)⟩
theorem lw_p30 : lw_okq (⟨"RootedWordsModel", "rootNow", "(I)I"⟩, 13) := ⟨⟨by decide +kernel, by decide +kernel⟩, List.mem_of_getElem? (i := 440) (by decide +kernel), List.mem_of_getElem? (i := 546) (by decide +kernel), List.mem_of_getElem? (i := 547) (by decide +kernel)⟩
theorem lw_p31 : lw_okq (⟨"RootedWordsModel", "markAll", "()I"⟩, 13) := ⟨⟨by decide +kernel, by decide +kernel⟩, List.mem_of_getElem? (i := 440) (by decide +kernel), List.mem_of_getElem? (i := 570) (by decide +kernel), List.mem_of_getElem? (i := 571) (by decide +kernel)⟩
def lw_privs_2 : List (MethodName × Nat) := [(⟨"RootedWords", "refuseUnlessRoot", "(I)V"⟩, 4), (⟨"RootedWords", "usedRoot", "(I)I"⟩, 4), (⟨"RootedWords", "searchFromRoots", "()I"⟩, 4), (⟨"RootedWords", "markUsed", "()V"⟩, 4), (⟨"RootedWords", "reach", "(II)I"⟩, 4), (⟨"RootedWords", "freeUnreached", "()V"⟩, 4), (⟨"RootedWords", "isReachedAt", "(I)Z"⟩, 4), (⟨"RootedWordsModel", "spend", "(I)I"⟩, 13), (⟨"RootedWordsModel", "does", "(I)Z"⟩, 13), (⟨"RootedWordsModel", "change", "(I)I"⟩, 13), (⟨"RootedWordsModel", "cut", "(II)V"⟩, 13), (⟨"RootedWordsModel", "at", "(I)I"⟩, 13), (⟨"RootedWordsModel", "join", "(II)V"⟩, 13), (⟨"RootedWordsModel", "isWord", "(II)Z"⟩, 13), (⟨"RootedWordsModel", "rootNow", "(I)I"⟩, 13), (⟨"RootedWordsModel", "markAll", "()I"⟩, 13)]
theorem lw_r2 : ∀ q ∈ lw_privs_2, lw_okq q := List.forall_mem_cons.mpr ⟨lw_p16, List.forall_mem_cons.mpr ⟨lw_p17, List.forall_mem_cons.mpr ⟨lw_p18, List.forall_mem_cons.mpr ⟨lw_p19, List.forall_mem_cons.mpr ⟨lw_p20, List.forall_mem_cons.mpr ⟨lw_p21, List.forall_mem_cons.mpr ⟨lw_p22, List.forall_mem_cons.mpr ⟨lw_p23, List.forall_mem_cons.mpr ⟨lw_p24, List.forall_mem_cons.mpr ⟨lw_p25, List.forall_mem_cons.mpr ⟨lw_p26, List.forall_mem_cons.mpr ⟨lw_p27, List.forall_mem_cons.mpr ⟨lw_p28, List.forall_mem_cons.mpr ⟨lw_p29, List.forall_mem_cons.mpr ⟨lw_p30, List.forall_mem_cons.mpr ⟨lw_p31, fun _ h => absurd h List.not_mem_nil⟩⟩⟩⟩⟩⟩⟩⟩⟩⟩⟩⟩⟩⟩⟩⟩
theorem lw_p32 : lw_okq (⟨"RootedWordsModel", "mark", "(I)V"⟩, 13) := ⟨⟨by decide +kernel, by decide +kernel⟩, List.mem_of_getElem? (i := 440) (by decide +kernel), List.mem_of_getElem? (i := 574) (by decide +kernel), List.mem_of_getElem? (i := 575) (by decide +kernel)⟩
theorem lw_p33 : lw_okq (⟨"RootedWordsModel", "countMarked", "()I"⟩, 13) := ⟨⟨by decide +kernel, by decide +kernel⟩, List.mem_of_getElem? (i := 440) (by decide +kernel), List.mem_of_getElem? (i := 578) (by decide +kernel), List.mem_of_getElem? (i := 579) (by decide +kernel)⟩
theorem lw_p34 : lw_okq (⟨"RootedWordsModel", "clean", "()Z"⟩, 13) := ⟨⟨by decide +kernel, by decide +kernel⟩, List.mem_of_getElem? (i := 440) (by decide +kernel), List.mem_of_getElem? (i := 590) (by decide +kernel), List.mem_of_getElem? (i := 591) (by decide +kernel)⟩
def lw_privs_3 : List (MethodName × Nat) := [(⟨"RootedWordsModel", "mark", "(I)V"⟩, 13), (⟨"RootedWordsModel", "countMarked", "()I"⟩, 13), (⟨"RootedWordsModel", "clean", "()Z"⟩, 13)]
theorem lw_r3 : ∀ q ∈ lw_privs_3, lw_okq q := List.forall_mem_cons.mpr ⟨lw_p32, List.forall_mem_cons.mpr ⟨lw_p33, List.forall_mem_cons.mpr ⟨lw_p34, fun _ h => absurd h List.not_mem_nil⟩⟩⟩
def lw_privs : List (MethodName × Nat) := lw_privs_1 ++ (lw_privs_2 ++ (lw_privs_3))
def lw_tbl : List Cond := k2_sels lw_privs ++ tables_1
theorem lw_privs_ok : ∀ q ∈ lw_privs, lw_okq q := by
  show ∀ q ∈ lw_privs_1 ++ (lw_privs_2 ++ (lw_privs_3)), lw_okq q
  exact List.forall_mem_append.mpr ⟨lw_r1, List.forall_mem_append.mpr ⟨lw_r2, lw_r3⟩⟩
-- end of the pasted part
def R_X : String := "RootedWords"
def F_X : u_T := fun k => match k with
  | 0 => ("RootedWords", "disk", "LRootedWords$Disk;", true)
  | 1 => ("RootedWords", "firsts", "[I", true)
  | 2 => ("RootedWords", "marks", "[I", true)
  | _ => ("RootedWords", "found", "[I", true)
def t_X : Nat → FieldType := fun k => match k with
  | 0 => .object "RootedWords$Disk"
  | 1 => .array .int
  | 2 => .array .int
  | _ => .array .int
theorem n_X : ∀ a, a < 4 → ∀ b, b < 4 → a ≠ b → (F_X a).2.1 ≠ (F_X b).2.1 := by decide +kernel
theorem t_X_ok : ∀ k, k < 4 → parseFieldDescriptor (F_X k).2.2.1 = some (t_X k) := by decide +kernel
theorem i_X : ∀ w ∈ u_ws R_X F_X 4, w ∈ lw_tbl := by decide +kernel
def R_D : String := "RootedWords$Disk"
def F_D : u_T := fun k => match k with
  | 0 => ("RootedWords$Disk", "words", "[I", true)
  | 1 => ("RootedWords$Disk", "planned", "[I", true)
  | 2 => ("RootedWords$Disk", "count", "I", false)
  | 3 => ("RootedWords$Disk", "writesUntilFailure", "I", false)
  | _ => ("RootedWords$Disk", "failed", "Z", false)
def t_D : Nat → FieldType := fun k => match k with
  | 0 => .array .int
  | 1 => .array .int
  | 2 => .int
  | 3 => .int
  | _ => .boolean
theorem n_D : ∀ a, a < 5 → ∀ b, b < 5 → a ≠ b → (F_D a).2.1 ≠ (F_D b).2.1 := by decide +kernel
theorem t_D_ok : ∀ k, k < 5 → parseFieldDescriptor (F_D k).2.2.1 = some (t_D k) := by decide +kernel
theorem i_D : ∀ w ∈ u_ws R_D F_D 5, w ∈ lw_tbl := by decide +kernel
def R_M : String := "RootedWordsModel"
def F_M : u_T := fun k => match k with
  | 0 => ("RootedWordsModel", "code", "I", false)
  | 1 => ("RootedWordsModel", "extents", "I", false)
  | 2 => ("RootedWordsModel", "starts", "[I", true)
  | 3 => ("RootedWordsModel", "lengths", "[I", true)
  | 4 => ("RootedWordsModel", "used", "[Z", true)
  | 5 => ("RootedWordsModel", "pointers", "[I", true)
  | 6 => ("RootedWordsModel", "marked", "[Z", true)
  | 7 => ("RootedWordsModel", "words", "[I", true)
  | 8 => ("RootedWordsModel", "roots", "[I", true)
  | 9 => ("RootedWordsModel", "writes", "I", false)
  | 10 => ("RootedWordsModel", "left", "I", false)
  | 11 => ("RootedWordsModel", "down", "Z", false)
  | _ => ("RootedWordsModel", "pending", "I", false)
def t_M : Nat → FieldType := fun k => match k with
  | 0 => .int
  | 1 => .int
  | 2 => .array .int
  | 3 => .array .int
  | 4 => .array .boolean
  | 5 => .array .int
  | 6 => .array .boolean
  | 7 => .array .int
  | 8 => .array .int
  | 9 => .int
  | 10 => .int
  | 11 => .boolean
  | _ => .int
theorem n_M : ∀ a, a < 13 → ∀ b, b < 13 → a ≠ b → (F_M a).2.1 ≠ (F_M b).2.1 := by decide +kernel
theorem t_M_ok : ∀ k, k < 13 → parseFieldDescriptor (F_M k).2.2.1 = some (t_M k) := by decide +kernel
theorem i_M : ∀ w ∈ u_ws R_M F_M 13, w ∈ lw_tbl := by decide +kernel
abbrev classes : List vw_C := [(R_X, F_X, 4), (R_D, F_D, 5), (R_M, F_M, 13)]
/-- the words that hold for good: what every method asks -/
def gtbl : List Cond := lw_tbl.filter goodWord
end
section
/-! ===== BEGIN words of one list among another's, by their places ===== -/
theorem goodIn_r {big : List Cond} (ws : List Cond) (ps : List Nat) (hp : ws = ps.filterMap (fun i => big[i]?)) (h : ws.all goodWord = true) : GoodIn big ws := by
  intro w hw
  have h1 := List.all_eq_true.mp h w hw
  rw [hp] at hw
  obtain ⟨i, -, hi⟩ := List.mem_filterMap.mp hw
  have hm : w ∈ big := by first | exact List.mem_of_getElem? hi | exact List.getElem?_mem hi
  exact ⟨hm, good_of_word h1⟩
theorem goodIn_app {big a b : List Cond} (ha : GoodIn big a) (hb : GoodIn big b) : GoodIn big (a ++ b) := fun w h => (List.mem_append.mp h).elim (ha w) (hb w)
theorem goodIn_ca {big a b : List Cond} {c : Cond} (ha : GoodIn big (c :: a)) (hb : GoodIn big b) : GoodIn big (c :: (a ++ b)) := fun w h => (List.mem_cons.mp h).elim (fun e => ha w (List.mem_cons.mpr (Or.inl e))) (fun h => (List.mem_append.mp h).elim (fun h => ha w (List.mem_cons.mpr (Or.inr h))) (hb w))
theorem goodIn_sub {big ws : List Cond} (hm : ∀ w ∈ ws, w ∈ big) (h : ws.all goodWord = true) : GoodIn big ws := fun w hw => ⟨hm w hw, good_of_word (List.all_eq_true.mp h w hw)⟩
/-! ===== END ===== -/
/-! ===== BEGIN exceptions that leave a method, and their catching by the caller (launches without stack traces) ===== -/
section VXA
/-! The laws vx_back, vx_callV, vx_callS, vx_callSW, vx_throw0, vx_throwS follow proofs of the library, with one case more: JvmDerived/Free/Laws.lean (Back.of_free), Shelf42/LK1.lean (callV, callS), Shelf/KitTraced.lean (throwNew0V, throwNewS). -/
/-- where a method has thrown q: the class by its name, the cell, what was written, the world -/
def vx_T (XC : String → State → State → Prop) (st : State) (q : Addr) (t : State) (mc ms : Nat) (free : Addr → Prop) : Prop :=
  ∃ (E : String) (ce : Cell) (L : List Loc), XC E st t ∧ t.heap[q]? = some ce ∧ ce.vm = .none ∧ st.vm.findClass E = some ce.cls ∧ st.WarmedH t.vm ∧ st.sameButNew ({ t with vm := st.vm } : State) L mc ms ∧ ∀ z ∈ L, free z.base
def vx_Q (Qc : Array Value → State → Outcome → State → Prop) (XC : String → State → State → Prop) (mc ms : Nat) (free : Addr → Prop) : Array Value → State → Outcome → State → Prop := fun a st o t =>
  (Qc a st o t ∧ ∃ L, FrameEnd st o t L mc ms ∧ ∀ q ∈ L, free q.base) ∨ ∃ q, o = .threw q ∧ vx_T XC st q t mc ms free
/-- a callee that returns or throws -/
def vx_Met (l : Launch) (y : MethodName) (ws : List Cond) (rm : Room) (Pc : Array Value → State → Prop) (Qc : Array Value → State → Outcome → State → Prop) (XC : String → State → State → Prop) (mc ms : Nat) (free : Addr → Prop) : Prop :=
  MetFree l y (headSpec ws rm) Pc (fun _ _ _ _ _ => True) (vx_Q Qc XC mc ms free)
def vx_Post (XC : String → State → State → Prop) (mc ms : Nat) (free : Addr → Prop) : Pt → Array Value → Addr → Pt → Prop := fun A a q B =>
  ∃ (g : JFrame) (mk : MethodId) (t : State) (L : List Loc) (E : String) (ce : Cell), B.U.heap = t.heap ∧ B.U.vm = t.vm ∧ XC E (A.U.calling g mk a) t ∧ t.heap[q]? = some ce ∧ ce.vm = .none ∧ A.U.vm.findClass E = some ce.cls ∧ B.locs = A.locs ++ L ∧ (∀ z ∈ L, free z.base) ∧ B.cells = A.cells + mc ∧ B.slots = A.slots + ms
def vx_Back (l : Launch) (R : Room) (p : Program) (e : Env) (below : List Frame) (s : State) (sargs : Array Value) (y : MethodName) (len W9 : Nat)
    (Pre : Pt → Array Value → Prop) (Post : Pt → Array Value → Option Value → Pt → Prop) (PostX : Pt → Array Value → Addr → Pt → Prop) : Prop :=
  ∀ (m : MethodId) (meth : Method) (c : Code) (A : Pt) (g : JFrame) (ig : Instr) (mk : MethodId) (a : Array Value),
    Stand p l e R s m sargs below meth c A.U A.locs A.cells A.slots → g.method = m → g.locals.size = c.maxLocals → decode c.code g.pc = .ok (ig, len) →
    2 * g.monitorRoom + (g.stack.map fun v => v.category).sum ≤ W9 → A.U.methodNamed? y = some mk → Pre A a →
    (∃ (v : Option Value) (B : Pt), Stand p l e R s m sargs below meth c B.U B.locs B.cells B.slots ∧ Post A a v B ∧
      Steps p.tables e below (doInvoke e (A.U.setTop g) [] mk a).1 (B.U.setTop { g with pc := g.pc + len, stack := v.toList ++ g.stack })) ∨
    (∃ (q : Addr) (B : Pt), Stand p l e R s m sargs below meth c B.U B.locs B.cells B.slots ∧ PostX A a q B ∧
      Steps p.tables e below (doInvoke e (A.U.setTop g) [] mk a).1 ((B.U.setTop g).pushFrame (.throwing q)))
section Payer
variable {l : Launch} {R : Room} {p : Program} {e : Env} {below : List Frame} {s : State} {sargs : Array Value} {y : MethodName} {len W9 : Nat}
theorem vx_back {ws : List Cond} {rm : Room} {Pc : Array Value → State → Prop} {Qc : Array Value → State → Outcome → State → Prop} {XC : String → State → State → Prop} {mc ms : Nat} {free : Addr → Prop} {bytes : ByteArray} {maxL : Nat} {ret : Option FieldType}
    (hM : vx_Met l y ws rm Pc Qc XC mc ms free) (hblind : FrameBlind Pc) (hrc : rm.cells = mc) (hrs : rm.slots = ms)
    (hframes : rm.frames + 1 ≤ R.frames) (hlocals : W9 + (maxL + 11) + rm.locals ≤ R.locals)
    (hws : ∀ w ∈ ws, ∀ a' U, s.WarmedH U.vm → w.before a' U = true) (hcode : Cond.code y bytes maxL ret ∈ ws) (hinit : ∀ a' U, s.WarmedH U.vm → (Cond.initialized y.cls).before a' U = true) :
    vx_Back l R p e below s sargs y len W9 (PreOf R mc ms Pc) (PostOf Qc mc ms free) (vx_Post XC mc ms free) := by
  intro m meth c A g ig mk a X hg hsize hdg hW hn hp
  have h1 : (headSpec ws rm).pre.before a A.U = true := atoms_intro fun w hw => hws w hw _ _ X.warmed
  have h2 : (Cond.code y bytes maxL ret).before a A.U = true := hws _ hcode _ _ X.warmed
  have h3 : (Cond.initialized y.cls).before a A.U = true := hinit _ _ X.warmed
  have h4 : A.cells + (headSpec ws rm).room.cells ≤ R.cells := by rw [show (headSpec ws rm).room.cells = mc from hrc]; exact hp.1
  have h5 : A.slots + (headSpec ws rm).room.slots ≤ R.slots := by rw [show (headSpec ws rm).room.slots = ms from hrs]; exact hp.2.1
  have hPc : Pc a (A.U.calling g mk a) := hblind _ _ _ _ hp.2.2
  obtain ⟨U, Ls, c0, s0⟩ := A
  dsimp only [Pt.U, Pt.locs, Pt.cells, Pt.slots] at h1 h2 h3 h4 h5 X hn hPc ⊢
  obtain ⟨methY, cY, hmY, hcY, -, hlY, -, -, -, -⟩ := Cond.code_spec hn h2
  obtain ⟨kY, hkY, -⟩ := className_of_methodNamed hn
  have hinitY : kY.init = .initialized := Cond.initialized_spec (findClass_of_methodNamed hn) hkY h3
  have h : At U g.method c below := by rw [hg]; exact X.here
  have hlocals9 : W9 + (maxL + 11) + (headSpec ws rm).room.locals ≤ R.locals := hlocals
  have happ : (headSpec ws rm).appliesLoose y e.platform (U.calling g mk a) = true :=
    Spec.appliesLoose_calling (g := g) h hdg hn hkY hinitY
      (X.room_calling (g := g) (R' := (headSpec ws rm).room) hsize hmY hcY hframes (by rw [hlY]; omega) h4 h5) h1
  obtain ⟨mid, hmid⟩ := h.above
  have hfr : (U.setTop g).frames = (.java g :: mid) ++ below := by rw [State.frames_setTop' g h.top, hmid]; rfl
  obtain ⟨o, s₂, hsteps, -, hend, hq⟩ := Steps.callFree hM p X.admits X.cas X.clock (acts := []) hfr happ hPc trivial
  have hq' : vx_Q Qc XC mc ms free a (U.calling g mk a) o s₂ := hq
  rw [State.frames_setTop' g h.top] at hend
  obtain ⟨g₀, hg0⟩ := Option.isSome_iff_exists.mp h.top
  obtain ⟨r, hr⟩ := State.topJava?_eq_some.mp hg0
  have hr' : (({ U with heap := s₂.heap, slotsUsed := s₂.slotsUsed } : State).setVm s₂.vm).frames = .java g₀ :: r := hr
  rcases hq' with ⟨hqc, L, hfe, hL⟩ | ⟨q, rfl, E, ce, L, hx, hce, hcv, hcl, hW₂, hsm, hL⟩
  · obtain ⟨⟨v, rfl⟩, hW₂, e2, q2, q3, q4, q5, q6⟩ := id hfe
    have e3 : s₂ = ({ (U.calling g mk a).setFrames s₂.frames with heap := s₂.heap, slotsUsed := s₂.slotsUsed } : State).setVm s₂.vm := by
      have : s₂ = ({ s₂ with vm := (U.calling g mk a).vm } : State).setVm s₂.vm := rfl
      rw [e2] at this
      exact this
    obtain ⟨c₂, i₂, len₂, hc₂, hd₂, hf₂⟩ := hend
    have hW' : U.WarmedH s₂.vm := hW₂
    have hcc : c₂ = c := by
      have h1 : s₂.code? g.method = U.code? g.method := by
        rw [State.code?_eq, State.code?_eq, hW'.alike.method?]
      exact Option.some.inj (hc₂.symm.trans (h1.trans h.code))
    subst hcc
    have hlen : len₂ = len := by rw [hdg] at hd₂; cases hd₂; rfl
    subst hlen
    have hs₂ : s₂ = (({ U with heap := s₂.heap, slotsUsed := s₂.slotsUsed } : State).setVm s₂.vm).setTop { g with pc := g.pc + len₂, stack := v.toList ++ g.stack } := by
      refine e3.trans ?_
      rw [hf₂, State.calling_eq h.top, State.setFrames_setFrames, State.setTop_of_frames _ hr', hr]
      rfl
    have hsame : U.sameButNew ({ U with heap := s₂.heap, slotsUsed := s₂.slotsUsed } : State) L mc ms := by
      refine ⟨?_, q2, q3, q4, q5, q6⟩
      obtain ⟨t, ht, -⟩ := State.frames_cons hr
      show ({ U with heap := s₂.heap, slotsUsed := s₂.slotsUsed } : State) = { U.setFrames U.frames with heap := s₂.heap, slotsUsed := s₂.slotsUsed }
      rw [State.setFrames_self ht]
    subst hg
    refine Or.inl ⟨v, ⟨(({ U with heap := s₂.heap, slotsUsed := s₂.slotsUsed } : State).setVm s₂.vm), Ls ++ L, c0 + mc, s0 + ms⟩,
      ⟨X.admits, X.cas, X.clock, X.frames, X.room, X.hears, X.method, X.code, (X.here.setHeapUsed s₂.heap s₂.slotsUsed).setVm hW'.alike, X.tail, State.WarmedH.trans X.warmed hW', X.limits, X.bytes, X.same.trans (hsame.setVm s.vm)⟩,
      ⟨g, mk, s₂, L, rfl, rfl, hqc, rfl, hL, rfl, rfl⟩, ?_⟩
    show Steps p.tables e below _ ((({ U with heap := s₂.heap, slotsUsed := s₂.slotsUsed } : State).setVm s₂.vm).setTop { g with pc := g.pc + len₂, stack := v.toList ++ g.stack })
    rw [← hs₂]
    exact hsteps
  · obtain ⟨e2, q2, q3, q4, q5, q6⟩ := id hsm
    have e3 : s₂ = ({ (U.calling g mk a).setFrames s₂.frames with heap := s₂.heap, slotsUsed := s₂.slotsUsed } : State).setVm s₂.vm := by
      have : s₂ = ({ s₂ with vm := (U.calling g mk a).vm } : State).setVm s₂.vm := rfl
      rw [e2] at this
      exact this
    have hf₂ : s₂.frames = .throwing q :: .java g :: U.frames.tail := hend
    have hW' : U.WarmedH s₂.vm := hW₂
    have hs₂ : s₂ = ((({ U with heap := s₂.heap, slotsUsed := s₂.slotsUsed } : State).setVm s₂.vm).setTop g).pushFrame (.throwing q) := by
      refine e3.trans ?_
      rw [hf₂, State.calling_eq h.top, State.setFrames_setFrames, State.pushFrame, State.frames_setTop _ hr', State.setTop_of_frames _ hr', State.setFrames_setFrames, hr]
      rfl
    have hsame : U.sameButNew ({ U with heap := s₂.heap, slotsUsed := s₂.slotsUsed } : State) L mc ms := by
      refine ⟨?_, q2, q3, q4, q5, q6⟩
      obtain ⟨t, ht, -⟩ := State.frames_cons hr
      show ({ U with heap := s₂.heap, slotsUsed := s₂.slotsUsed } : State) = { U.setFrames U.frames with heap := s₂.heap, slotsUsed := s₂.slotsUsed }
      rw [State.setFrames_self ht]
    subst hg
    refine Or.inr ⟨q, ⟨(({ U with heap := s₂.heap, slotsUsed := s₂.slotsUsed } : State).setVm s₂.vm), Ls ++ L, c0 + mc, s0 + ms⟩,
      ⟨X.admits, X.cas, X.clock, X.frames, X.room, X.hears, X.method, X.code, (X.here.setHeapUsed s₂.heap s₂.slotsUsed).setVm hW'.alike, X.tail, State.WarmedH.trans X.warmed hW', X.limits, X.bytes, X.same.trans (hsame.setVm s.vm)⟩,
      ⟨g, mk, s₂, L, E, ce, rfl, rfl, hx, hce, hcv, hcl, rfl, hL, rfl, rfl⟩, ?_⟩
    show Steps p.tables e below _ (((({ U with heap := s₂.heap, slotsUsed := s₂.slotsUsed } : State).setVm s₂.vm).setTop g).pushFrame (.throwing q))
    rw [← hs₂]
    exact hsteps
end Payer
section Calls
variable {p : Program} {l : Launch} {e : Env} {R : Room} {s : State} {m : MethodId} {args : Array Value} {below : List Frame} {meth : Method} {c : Code} {T : State} {locs : List Loc} {cells slots : Nat}
theorem vx_callV (X : Stand p l e R s m args below meth c T locs cells slots) (hexec : p.tables.exec = Jvm.exec) {own C : String} {index : Nat} {y : MethodName} {bytes : ByteArray} {maxL : Nat} {ret : Option FieldType}
    (hown : s.vm.findClass own = some m.cls) (hlink : (Cond.methodLink own index y).before args s = true) (hinst : (Cond.instanceMethod y).before args s = true) (hsel : (Cond.selects C y y).before args s = true)
    (hcode : (Cond.code y bytes maxL ret).before args s = true) (hy : y.cls ≠ "java/lang/invoke/MethodHandle" ∧ y.cls ≠ "java/lang/invoke/VarHandle")
    {W9 : Nat} {Pre : Pt → Array Value → Prop} {Post : Pt → Array Value → Option Value → Pt → Prop} {PostX : Pt → Array Value → Addr → Pt → Prop} (hK : vx_Back l R p e below s args y 3 W9 Pre Post PostX)
    {b : Addr} {cellB : Cell} (hcell : T.heap[b]? = some cellB) (hobj : cellB.vm.isStatics = false) (hcls : s.vm.findClass C = some cellB.cls)
    {g : JFrame} (hg : g.method = m) (hsize : g.locals.size = c.maxLocals) {argsL rest : List Value} (hlen : ∀ sig, parseMethodDescriptor y.desc = some sig → argsL.length = sig.parameters.length)
    (hstack : g.stack = argsL.reverse ++ .ref b :: rest) (hW : 2 * g.monitorRoom + (rest.map fun v => v.category).sum ≤ W9) (hdg : decode c.code g.pc = .ok (.invokevirtual index, 3))
    (hpre : ∀ vm₁, s.WarmedH vm₁ → Pre ⟨T.setVm vm₁, locs, cells, slots⟩ (Value.ref b :: argsL).toArray) :
    (∃ (v : Option Value) (vm₁ : Vm) (B : Pt), s.WarmedH vm₁ ∧ Stand p l e R s m args below meth c B.U B.locs B.cells B.slots ∧ Post ⟨T.setVm vm₁, locs, cells, slots⟩ (Value.ref b :: argsL).toArray v B ∧
      ∀ target, Steps p.tables e below (B.U.setTop { g with pc := g.pc + 3, stack := v.toList ++ rest }) target → Steps p.tables e below (T.setTop g) target) ∨
    (∃ (q : Addr) (vm₁ : Vm) (B : Pt), s.WarmedH vm₁ ∧ Stand p l e R s m args below meth c B.U B.locs B.cells B.slots ∧ PostX ⟨T.setVm vm₁, locs, cells, slots⟩ (Value.ref b :: argsL).toArray q B ∧
      Steps p.tables e below (T.setTop g) ((B.U.setTop { g with stack := rest }).pushFrame (.throwing q))) := by
  obtain ⟨mk, methM, hnamed, hmethM, hstM, habM⟩ := Cond.instanceMethod_spec hinst
  obtain ⟨methM', cM, hmethM', -, -, -, -, -, -, hsigM⟩ := Cond.code_spec hnamed hcode
  cases hmethM.symm.trans hmethM'
  obtain ⟨c2, r2, m2, q1, q2, q3, q4, kP, hkP, hkPi⟩ := Cond.selects_spec hsel
  cases hcls.symm.trans q1
  cases (State.methodFound?_of_named hnamed hy).symm.trans q2
  cases hnamed.symm.trans q3
  have hselP : selectMethod e.platform s.vm cellB.cls mk = .method mk := by rw [Launch.admits_selectMethod X.admits]; exact q4
  obtain ⟨vm₁, X₁, hstep₁⟩ := X.invokevirtual hexec hown hlink hnamed hmethM hstM hkP hkPi hy (a := b) (cell := cellB) hcell
    (fun z h => by rw [h] at hobj; cases hobj) hselP hmethM habM hkP hkPi (g := g) hg (argsL := argsL) (rest := rest) (hlen _ hsigM) hstack hdg
  rcases hK m meth c ⟨T.setVm vm₁, locs, cells, slots⟩ { g with stack := rest } (.invokevirtual index) mk (Value.ref b :: argsL).toArray X₁ hg hsize hdg hW (X₁.named hnamed) (hpre vm₁ X₁.warmed) with ⟨v, B, X', hpost, hsteps⟩ | ⟨q, B, X', hpost, hsteps⟩
  · exact Or.inl ⟨v, vm₁, B, X₁.warmed, X', hpost, fun target h => hstep₁ _ fun acts => by rw [doInvoke_state]; exact hsteps.trans h⟩
  · exact Or.inr ⟨q, vm₁, B, X₁.warmed, X', hpost, hstep₁ _ fun acts => by rw [doInvoke_state]; exact hsteps⟩
theorem vx_callS (X : Stand p l e R s m args below meth c T locs cells slots) (hexec : p.tables.exec = Jvm.exec) {own : String} {index : Nat} {y : MethodName} {bytes : ByteArray} {maxL : Nat} {ret : Option FieldType}
    (hown : s.vm.findClass own = some m.cls) (hlink : (Cond.methodLink own index y).before args s = true) (hstat : (Cond.static y).before args s = true) (hinit : (Cond.initialized y.cls).before args s = true)
    (hcode : (Cond.code y bytes maxL ret).before args s = true) (hy : y.cls ≠ "java/lang/invoke/MethodHandle" ∧ y.cls ≠ "java/lang/invoke/VarHandle")
    {W9 : Nat} {Pre : Pt → Array Value → Prop} {Post : Pt → Array Value → Option Value → Pt → Prop} {PostX : Pt → Array Value → Addr → Pt → Prop} (hK : vx_Back l R p e below s args y 3 W9 Pre Post PostX)
    {g : JFrame} (hg : g.method = m) (hsize : g.locals.size = c.maxLocals) {argsL rest : List Value} (hlen : ∀ sig, parseMethodDescriptor y.desc = some sig → argsL.length = sig.parameters.length)
    (hstack : g.stack = argsL.reverse ++ rest) (hW : 2 * g.monitorRoom + (rest.map fun v => v.category).sum ≤ W9) (hdg : decode c.code g.pc = .ok (.invokestatic index, 3))
    (hpre : ∀ vm₁, s.WarmedH vm₁ → Pre ⟨T.setVm vm₁, locs, cells, slots⟩ argsL.toArray) :
    (∃ (v : Option Value) (vm₁ : Vm) (B : Pt), s.WarmedH vm₁ ∧ Stand p l e R s m args below meth c B.U B.locs B.cells B.slots ∧ Post ⟨T.setVm vm₁, locs, cells, slots⟩ argsL.toArray v B ∧
      ∀ target, Steps p.tables e below (B.U.setTop { g with pc := g.pc + 3, stack := v.toList ++ rest }) target → Steps p.tables e below (T.setTop g) target) ∨
    (∃ (q : Addr) (vm₁ : Vm) (B : Pt), s.WarmedH vm₁ ∧ Stand p l e R s m args below meth c B.U B.locs B.cells B.slots ∧ PostX ⟨T.setVm vm₁, locs, cells, slots⟩ argsL.toArray q B ∧
      Steps p.tables e below (T.setTop g) ((B.U.setTop { g with stack := rest }).pushFrame (.throwing q))) := by
  obtain ⟨mk, hnamed⟩ := Cond.code_named hcode
  obtain ⟨methM, cM, hmethM, -, -, -, -, -, -, hsigM⟩ := Cond.code_spec hnamed hcode
  have hstatic : methM.isStatic = true := Cond.static_spec hnamed hmethM hstat
  obtain ⟨kP, hkP, -⟩ := className_of_methodNamed hnamed
  have hinitP : kP.init = .initialized := Cond.initialized_spec (findClass_of_methodNamed hnamed) hkP hinit
  obtain ⟨vm₁, X₁, hstep₁⟩ := X.invokestatic hexec hown hlink hnamed hmethM hstatic hkP hinitP hy (g := g) hg (argsL := argsL) (rest := rest) (hlen _ hsigM) hstack hdg
  rcases hK m meth c ⟨T.setVm vm₁, locs, cells, slots⟩ { g with stack := rest } (.invokestatic index) mk argsL.toArray X₁ hg hsize hdg hW (X₁.named hnamed) (hpre vm₁ X₁.warmed) with ⟨v, B, X', hpost, hsteps⟩ | ⟨q, B, X', hpost, hsteps⟩
  · exact Or.inl ⟨v, vm₁, B, X₁.warmed, X', hpost, fun target h => hstep₁ _ fun acts => by rw [doInvoke_state]; exact hsteps.trans h⟩
  · exact Or.inr ⟨q, vm₁, B, X₁.warmed, X', hpost, hstep₁ _ fun acts => by rw [doInvoke_state]; exact hsteps⟩
end Calls
theorem vx_cls {s : State} {T : State} {vm₁ : Vm} {E : String} {k : ClassId} (hW : s.WarmedH vm₁) (h : (T.setVm vm₁).vm.findClass E = some k) : s.vm.findClass E = some k := by
  have h1 : vm₁.findClass E = some k := h
  rw [hW.alike.findClass] at h1
  exact h1
/-- the method's frame g, with q thrown over it -/
def vx_W (p : Program) (l : Launch) (e : Env) (R : Room) (s : State) (m : MethodId) (args : Array Value) (below : List Frame) (meth : Method) (c : Code) (H : Heap) (locs : List Loc) (cells slots : Nat) (Q : State → Prop) (g : JFrame) (q : Addr) : Prop :=
  ∀ T : State, T.heap = H → Stand p l e R s m args below meth c T locs cells slots → ∃ t, Steps p.tables e below ((T.setTop g).pushFrame (.throwing q)) t ∧ Q t
def vx_Run (p : Program) (l : Launch) (e : Env) (R : Room) (s : State) (m : MethodId) (args : Array Value) (below : List Frame) (meth : Method) (c : Code) (H : Heap) (locs : List Loc) (cells slots mc ms : Nat) (g : JFrame) (rest : List Value) (Qa : State → Outcome → State → Prop) (XC : String → State → State → Prop) (free : Addr → Prop) : Prop :=
  ∀ T : State, T.heap = H → Stand p l e R s m args below meth c T locs cells slots →
    (∃ (v : Option Value) (st₀ t T' : State) (L : List Loc), st₀.heap = H ∧ Stand p l e R s m args below meth c T' (locs ++ L) (cells + mc) (slots + ms) ∧ (∀ q ∈ L, free q.base) ∧ T'.heap = t.heap ∧ T'.vm = t.vm ∧ Qa st₀ (.returned v) t ∧
      Goes p e below T g T' { g with pc := g.pc + 3, stack := v.toList ++ rest }) ∨
    (∃ (q : Addr) (st₀ t T' : State) (L : List Loc) (E : String) (ce : Cell), st₀.heap = H ∧ Stand p l e R s m args below meth c T' (locs ++ L) (cells + mc) (slots + ms) ∧ (∀ z ∈ L, free z.base) ∧ T'.heap = t.heap ∧ T'.vm = t.vm ∧ XC E st₀ t ∧ t.heap[q]? = some ce ∧ ce.vm = .none ∧ s.vm.findClass E = some ce.cls ∧
      Steps p.tables e below (T.setTop g) ((T'.setTop { g with stack := rest }).pushFrame (.throwing q)))
def vx_X {S : Type} (px : S → Prop) (B : String → S → State → Prop) (A : Nat → Prop) : String → State → State → Prop := fun E st t => ∃ u : S, px u ∧ B E u t ∧ va_F A st t
section Runs
variable {p : Program} {l : Launch} {e : Env} {R : Room} {s : State} {m : MethodId} {args : Array Value} {below : List Frame} {meth : Method} {c : Code} {H : Heap} {locs : List Loc} {cells slots : Nat}
variable {y : MethodName} {bytes cc : ByteArray} {maxL nL mc ms n index : Nat} {ret : Option FieldType} {ws : List Cond} {rm : Room} {Pc : Array Value → State → Prop} {Qc : Array Value → State → Outcome → State → Prop} {XC : String → State → State → Prop} {free : Addr → Prop} {Ts : List Cond} {own C : String} {b : Addr} {As rest : List Value} {g : JFrame}
theorem vx_callBack (cb : CallB R s args own index y bytes maxL ret ws rm mc ms n) (hM : vx_Met l y ws rm Pc Qc XC mc ms free) (hbl : FrameBlind Pc) : vx_Back l R p e below s args y 3 8 (PreOf R mc ms Pc) (PostOf Qc mc ms free) (vx_Post XC mc ms free) := by
  obtain ⟨hrc, hrs, hfr, hlo, hws, hcw, -, hini, -⟩ := cb
  exact vx_back (bytes := bytes) (maxL := maxL) (ret := ret) hM hbl hrc hrs hfr hlo hws hcw (fun a' U hW => word_at hW (Or.inl (by first | rfl | simp [Cond.onTables, Cond.keeps, Cond.steady])) hini)
theorem vx_runV (S : CallFix p m c cc nL s args Ts own) (hM : vx_Met l y ws rm Pc Qc XC mc ms free) (cw : CallW R s args own C index y bytes maxL ret ws rm mc ms n) (hp : PreV s H C b Pc As)
    (hg : g.method = m) (hn : As.length = n) (hsize : g.locals.size = nL) (hstack : g.stack = As.reverse ++ .ref b :: rest) (hW : 2 * g.monitorRoom + (rest.map fun v => v.category).sum ≤ 8) (hdg : decode cc g.pc = .ok (.invokevirtual index, 3)) (hf : cells + mc ≤ R.cells ∧ slots + ms ≤ R.slots) :
    vx_Run p l e R s m args below meth c H locs cells slots mc ms g rest (Qc (Value.ref b :: As).toArray) XC free := by
  have hK : vx_Back l R p e below s args y 3 8 (PreOf R mc ms Pc) (PostOf Qc mc ms free) (vx_Post XC mc ms free) := vx_callBack cw.1 hM hp.1
  obtain ⟨⟨-, -, -, -, -, -, hcode, -, hy, hlen, hl⟩, hin, hse⟩ := cw
  obtain ⟨hx, hb, hml, ho, -⟩ := S
  obtain ⟨-, ⟨cellB, hcB, hoB, hclB⟩, hPc⟩ := hp
  intro T hT X
  rcases vx_callV X hx (C := C) (bytes := bytes) (maxL := maxL) (ret := ret) ho hl hin hse hcode hy hK (by rw [hT]; exact hcB) hoB hclB hg (hsize.trans hml.symm) (argsL := As) (rest := rest) (fun sig h => hn.trans (hlen sig h)) hstack hW (by rw [hb]; exact hdg)
    (fun vm₁ hW₁ => ⟨hf.1, hf.2, hPc (T.setVm vm₁) hT hW₁⟩) with ⟨v, vm₁, ⟨U', l2, c2, s2⟩, hW₁, X', ⟨g', mk, t, L, e1, e2, hq, h1, hL, h2, h3⟩, st⟩ | ⟨q, vm₁, ⟨U', l2, c2, s2⟩, hW₁, X', ⟨g', mk, t, L, E, ce, e1, e2, hq, hce, hcv, hcl, h1, hL, h2, h3⟩, st⟩
  · dsimp only [Pt.U, Pt.locs, Pt.cells, Pt.slots] at X' e1 e2 h1 h2 h3 st
    subst h1; subst h2; subst h3
    exact Or.inl ⟨v, (T.setVm vm₁).calling g' mk (Value.ref b :: As).toArray, t, U', L, hT, X', hL, e1, e2, hq, st⟩
  · dsimp only [Pt.U, Pt.locs, Pt.cells, Pt.slots] at X' e1 e2 h1 h2 h3 st hcl
    subst h1; subst h2; subst h3
    exact Or.inr ⟨q, (T.setVm vm₁).calling g' mk (Value.ref b :: As).toArray, t, U', L, E, ce, hT, X', hL, e1, e2, hq, hce, hcv, vx_cls hW₁ hcl, st⟩
theorem vx_runS (S : CallFix p m c cc nL s args Ts own) (hM : vx_Met l y ws rm Pc Qc XC mc ms free) (cw : CallB R s args own index y bytes maxL ret ws rm mc ms n ∧ (Cond.static y).before args s = true) (hp : PreS s H Pc As)
    (hg : g.method = m) (hn : As.length = n) (hsize : g.locals.size = nL) (hstack : g.stack = As.reverse ++ rest) (hW : 2 * g.monitorRoom + (rest.map fun v => v.category).sum ≤ 8) (hdg : decode cc g.pc = .ok (.invokestatic index, 3)) (hf : cells + mc ≤ R.cells ∧ slots + ms ≤ R.slots) :
    vx_Run p l e R s m args below meth c H locs cells slots mc ms g rest (Qc As.toArray) XC free := by
  have hK : vx_Back l R p e below s args y 3 8 (PreOf R mc ms Pc) (PostOf Qc mc ms free) (vx_Post XC mc ms free) := vx_callBack cw.1 hM hp.1
  obtain ⟨⟨-, -, -, -, -, -, hcode, hini, hy, hlen, hl⟩, hstt⟩ := cw
  obtain ⟨hx, hb, hml, ho, -⟩ := S
  intro T hT X
  rcases vx_callS X hx (bytes := bytes) (maxL := maxL) (ret := ret) ho hl hstt hini hcode hy hK hg (hsize.trans hml.symm) (argsL := As) (rest := rest) (fun sig h => hn.trans (hlen sig h)) hstack hW (by rw [hb]; exact hdg)
    (fun vm₁ hW₁ => ⟨hf.1, hf.2, hp.2 (T.setVm vm₁) hT hW₁⟩) with ⟨v, vm₁, ⟨U', l2, c2, s2⟩, hW₁, X', ⟨g', mk, t, L, e1, e2, hq, h1, hL, h2, h3⟩, st⟩ | ⟨q, vm₁, ⟨U', l2, c2, s2⟩, hW₁, X', ⟨g', mk, t, L, E, ce, e1, e2, hq, hce, hcv, hcl, h1, hL, h2, h3⟩, st⟩
  · dsimp only [Pt.U, Pt.locs, Pt.cells, Pt.slots] at X' e1 e2 h1 h2 h3 st
    subst h1; subst h2; subst h3
    exact Or.inl ⟨v, (T.setVm vm₁).calling g' mk As.toArray, t, U', L, hT, X', hL, e1, e2, hq, st⟩
  · dsimp only [Pt.U, Pt.locs, Pt.cells, Pt.slots] at X' e1 e2 h1 h2 h3 st hcl
    subst h1; subst h2; subst h3
    exact Or.inr ⟨q, (T.setVm vm₁).calling g' mk As.toArray, t, U', L, E, ce, hT, X', hL, e1, e2, hq, hce, hcv, vx_cls hW₁ hcl, st⟩
end Runs
section Rows
variable {p : Program} {l : Launch} {e : Env} {R : Room} {s : State} {m : MethodId} {args : Array Value} {below : List Frame} {meth : Method} {c : Code} {H : Heap} {locs : List Loc} {cells slots : Nat} {Q : State → Prop}
variable {mc ms : Nat} {free : Addr → Prop} {A0 A1 : Nat → Prop} {H0 : Heap} {a : Array Value} {pc : Nat} {ls : Array Slot} {st0 rest : List Value}
theorem vx_keep {st₀ t T' : State} {L : List Loc} (h0 : st₀.heap = H) (e1 : T'.heap = t.heap) (hS : va_S A0 H0 H locs) (hA : ∀ q, q < H.size → A1 q → A0 q) (hf : ∀ q, free q → A0 q) (hL : ∀ q ∈ L, free q.base) (hF : va_F A1 st₀ t) :
    H.size ≤ T'.heap.size ∧ (∀ q : Nat, q < H.size → ¬ A1 q → T'.heap[q]? = H[q]?) ∧ va_S A0 H0 T'.heap (locs ++ L) := by
  obtain ⟨hz, hk⟩ := hF
  rw [h0] at hz hk
  exact ⟨by rw [e1]; exact hz, fun q h1 h2 => by rw [e1]; exact hk q h1 h2,
    ⟨Nat.le_trans hS.1 (by rw [e1]; exact hz), fun q h1 h2 => by rw [e1, hk q (Nat.lt_of_lt_of_le h1 hS.1) (fun z => h2 (hA q (Nat.lt_of_lt_of_le h1 hS.1) z))]; exact hS.2.1 q h1 h2, fun q hq => by
      rcases List.mem_append.mp hq with h | h
      · exact hS.2.2 q h
      · exact hf _ (hL q h)⟩⟩
theorem vx_calli {S SX : Type} {post : Int32 → S → Prop} {px : SX → Prop} {B : S → State → Prop} {BX : String → SX → State → Prop} {AX : Nat → Prop} (hr : vx_Run p l e R s m args below meth c H locs cells slots mc ms (F0 m pc ls st0) rest (va_Qi post B A1 a) (vx_X px BX AX) free) (hS : va_S A0 H0 H locs) (hA : ∀ q, q < H.size → A1 q → A0 q) (hf : ∀ q, free q → A0 q) (hAX : ∀ q, q < H.size → AX q → A0 q)
    (kx : ∀ (E : String) (ce : Cell) (q9 : Addr) (u : SX) (t : State) (H1 : Heap) (locs1 : List Loc), t.heap = H1 → s.vm.Alike t.vm → px u → BX E u t → H.size ≤ H1.size → (∀ q : Nat, q < H.size → ¬ AX q → H1[q]? = H[q]?) → va_S A0 H0 H1 locs1 → H1[q9]? = some ce → ce.vm = .none → s.vm.findClass E = some ce.cls → vx_W p l e R s m args below meth c H1 locs1 (cells + mc) (slots + ms) Q (F0 m pc ls rest) q9)
    (kk : ∀ (r : Int32) (u : S) (t : State) (H1 : Heap) (locs1 : List Loc), t.heap = H1 → s.vm.Alike t.vm → post r u → B u t → H.size ≤ H1.size → (∀ q : Nat, q < H.size → ¬ A1 q → H1[q]? = H[q]?) → va_S A0 H0 H1 locs1 → W p l e R s m args below meth c H1 locs1 (cells + mc) (slots + ms) Q (F0 m (pc + 3) ls (.int r :: rest))) : W p l e R s m args below meth c H locs cells slots Q (F0 m pc ls st0) := by
  intro T hT X
  rcases hr T hT X with ⟨v, st₀, t, T', L, h0, X', hL, e1, e2, ⟨⟨r, u, hv, hp, hb⟩, hF⟩, st⟩ | ⟨q, st₀, t, T', L, E, ce, h0, X', hL, e1, e2, ⟨u, hp, hb, hF⟩, hce, hcv, hcl, st⟩
  · cases hv
    obtain ⟨k1, k2, k3⟩ := vx_keep h0 e1 hS hA hf hL hF
    obtain ⟨t2, a1, b1⟩ := kk r u t T'.heap (locs ++ L) e1.symm (by rw [← e2]; exact X'.warmed.alike) hp hb k1 k2 k3 T' rfl X'
    exact ⟨t2, st t2 a1, b1⟩
  · obtain ⟨k1, k2, k3⟩ := vx_keep h0 e1 hS hAX hf hL hF
    obtain ⟨t2, a1, b1⟩ := kx E ce q u t T'.heap (locs ++ L) e1.symm (by rw [← e2]; exact X'.warmed.alike) hp hb k1 k2 k3 (by rw [e1]; exact hce) hcv hcl T' rfl X'
    exact ⟨t2, st.trans a1, b1⟩
theorem vx_calll {S SX : Type} {post : Int64 → S → Prop} {px : SX → Prop} {B : S → State → Prop} {BX : String → SX → State → Prop} {AX : Nat → Prop} (hr : vx_Run p l e R s m args below meth c H locs cells slots mc ms (F0 m pc ls st0) rest (va_Ql post B A1 a) (vx_X px BX AX) free) (hS : va_S A0 H0 H locs) (hA : ∀ q, q < H.size → A1 q → A0 q) (hf : ∀ q, free q → A0 q) (hAX : ∀ q, q < H.size → AX q → A0 q)
    (kx : ∀ (E : String) (ce : Cell) (q9 : Addr) (u : SX) (t : State) (H1 : Heap) (locs1 : List Loc), t.heap = H1 → s.vm.Alike t.vm → px u → BX E u t → H.size ≤ H1.size → (∀ q : Nat, q < H.size → ¬ AX q → H1[q]? = H[q]?) → va_S A0 H0 H1 locs1 → H1[q9]? = some ce → ce.vm = .none → s.vm.findClass E = some ce.cls → vx_W p l e R s m args below meth c H1 locs1 (cells + mc) (slots + ms) Q (F0 m pc ls rest) q9)
    (kk : ∀ (r : Int64) (u : S) (t : State) (H1 : Heap) (locs1 : List Loc), t.heap = H1 → s.vm.Alike t.vm → post r u → B u t → H.size ≤ H1.size → (∀ q : Nat, q < H.size → ¬ A1 q → H1[q]? = H[q]?) → va_S A0 H0 H1 locs1 → W p l e R s m args below meth c H1 locs1 (cells + mc) (slots + ms) Q (F0 m (pc + 3) ls (.long r :: rest))) : W p l e R s m args below meth c H locs cells slots Q (F0 m pc ls st0) := by
  intro T hT X
  rcases hr T hT X with ⟨v, st₀, t, T', L, h0, X', hL, e1, e2, ⟨⟨r, u, hv, hp, hb⟩, hF⟩, st⟩ | ⟨q, st₀, t, T', L, E, ce, h0, X', hL, e1, e2, ⟨u, hp, hb, hF⟩, hce, hcv, hcl, st⟩
  · cases hv
    obtain ⟨k1, k2, k3⟩ := vx_keep h0 e1 hS hA hf hL hF
    obtain ⟨t2, a1, b1⟩ := kk r u t T'.heap (locs ++ L) e1.symm (by rw [← e2]; exact X'.warmed.alike) hp hb k1 k2 k3 T' rfl X'
    exact ⟨t2, st t2 a1, b1⟩
  · obtain ⟨k1, k2, k3⟩ := vx_keep h0 e1 hS hAX hf hL hF
    obtain ⟨t2, a1, b1⟩ := kx E ce q u t T'.heap (locs ++ L) e1.symm (by rw [← e2]; exact X'.warmed.alike) hp hb k1 k2 k3 (by rw [e1]; exact hce) hcv hcl T' rfl X'
    exact ⟨t2, st.trans a1, b1⟩
theorem vx_callf {S SX : Type} {post : UInt32 → S → Prop} {px : SX → Prop} {B : S → State → Prop} {BX : String → SX → State → Prop} {AX : Nat → Prop} (hr : vx_Run p l e R s m args below meth c H locs cells slots mc ms (F0 m pc ls st0) rest (va_Qf post B A1 a) (vx_X px BX AX) free) (hS : va_S A0 H0 H locs) (hA : ∀ q, q < H.size → A1 q → A0 q) (hf : ∀ q, free q → A0 q) (hAX : ∀ q, q < H.size → AX q → A0 q)
    (kx : ∀ (E : String) (ce : Cell) (q9 : Addr) (u : SX) (t : State) (H1 : Heap) (locs1 : List Loc), t.heap = H1 → s.vm.Alike t.vm → px u → BX E u t → H.size ≤ H1.size → (∀ q : Nat, q < H.size → ¬ AX q → H1[q]? = H[q]?) → va_S A0 H0 H1 locs1 → H1[q9]? = some ce → ce.vm = .none → s.vm.findClass E = some ce.cls → vx_W p l e R s m args below meth c H1 locs1 (cells + mc) (slots + ms) Q (F0 m pc ls rest) q9)
    (kk : ∀ (r : UInt32) (u : S) (t : State) (H1 : Heap) (locs1 : List Loc), t.heap = H1 → s.vm.Alike t.vm → post r u → B u t → H.size ≤ H1.size → (∀ q : Nat, q < H.size → ¬ A1 q → H1[q]? = H[q]?) → va_S A0 H0 H1 locs1 → W p l e R s m args below meth c H1 locs1 (cells + mc) (slots + ms) Q (F0 m (pc + 3) ls (.float r :: rest))) : W p l e R s m args below meth c H locs cells slots Q (F0 m pc ls st0) := by
  intro T hT X
  rcases hr T hT X with ⟨v, st₀, t, T', L, h0, X', hL, e1, e2, ⟨⟨r, u, hv, hp, hb⟩, hF⟩, st⟩ | ⟨q, st₀, t, T', L, E, ce, h0, X', hL, e1, e2, ⟨u, hp, hb, hF⟩, hce, hcv, hcl, st⟩
  · cases hv
    obtain ⟨k1, k2, k3⟩ := vx_keep h0 e1 hS hA hf hL hF
    obtain ⟨t2, a1, b1⟩ := kk r u t T'.heap (locs ++ L) e1.symm (by rw [← e2]; exact X'.warmed.alike) hp hb k1 k2 k3 T' rfl X'
    exact ⟨t2, st t2 a1, b1⟩
  · obtain ⟨k1, k2, k3⟩ := vx_keep h0 e1 hS hAX hf hL hF
    obtain ⟨t2, a1, b1⟩ := kx E ce q u t T'.heap (locs ++ L) e1.symm (by rw [← e2]; exact X'.warmed.alike) hp hb k1 k2 k3 (by rw [e1]; exact hce) hcv hcl T' rfl X'
    exact ⟨t2, st.trans a1, b1⟩
theorem vx_calld {S SX : Type} {post : UInt64 → S → Prop} {px : SX → Prop} {B : S → State → Prop} {BX : String → SX → State → Prop} {AX : Nat → Prop} (hr : vx_Run p l e R s m args below meth c H locs cells slots mc ms (F0 m pc ls st0) rest (va_Qd post B A1 a) (vx_X px BX AX) free) (hS : va_S A0 H0 H locs) (hA : ∀ q, q < H.size → A1 q → A0 q) (hf : ∀ q, free q → A0 q) (hAX : ∀ q, q < H.size → AX q → A0 q)
    (kx : ∀ (E : String) (ce : Cell) (q9 : Addr) (u : SX) (t : State) (H1 : Heap) (locs1 : List Loc), t.heap = H1 → s.vm.Alike t.vm → px u → BX E u t → H.size ≤ H1.size → (∀ q : Nat, q < H.size → ¬ AX q → H1[q]? = H[q]?) → va_S A0 H0 H1 locs1 → H1[q9]? = some ce → ce.vm = .none → s.vm.findClass E = some ce.cls → vx_W p l e R s m args below meth c H1 locs1 (cells + mc) (slots + ms) Q (F0 m pc ls rest) q9)
    (kk : ∀ (r : UInt64) (u : S) (t : State) (H1 : Heap) (locs1 : List Loc), t.heap = H1 → s.vm.Alike t.vm → post r u → B u t → H.size ≤ H1.size → (∀ q : Nat, q < H.size → ¬ A1 q → H1[q]? = H[q]?) → va_S A0 H0 H1 locs1 → W p l e R s m args below meth c H1 locs1 (cells + mc) (slots + ms) Q (F0 m (pc + 3) ls (.double r :: rest))) : W p l e R s m args below meth c H locs cells slots Q (F0 m pc ls st0) := by
  intro T hT X
  rcases hr T hT X with ⟨v, st₀, t, T', L, h0, X', hL, e1, e2, ⟨⟨r, u, hv, hp, hb⟩, hF⟩, st⟩ | ⟨q, st₀, t, T', L, E, ce, h0, X', hL, e1, e2, ⟨u, hp, hb, hF⟩, hce, hcv, hcl, st⟩
  · cases hv
    obtain ⟨k1, k2, k3⟩ := vx_keep h0 e1 hS hA hf hL hF
    obtain ⟨t2, a1, b1⟩ := kk r u t T'.heap (locs ++ L) e1.symm (by rw [← e2]; exact X'.warmed.alike) hp hb k1 k2 k3 T' rfl X'
    exact ⟨t2, st t2 a1, b1⟩
  · obtain ⟨k1, k2, k3⟩ := vx_keep h0 e1 hS hAX hf hL hF
    obtain ⟨t2, a1, b1⟩ := kx E ce q u t T'.heap (locs ++ L) e1.symm (by rw [← e2]; exact X'.warmed.alike) hp hb k1 k2 k3 (by rw [e1]; exact hce) hcv hcl T' rfl X'
    exact ⟨t2, st.trans a1, b1⟩
theorem vx_callv {S SX : Type} {post : S → Prop} {px : SX → Prop} {B : S → State → Prop} {BX : String → SX → State → Prop} {AX : Nat → Prop} (hr : vx_Run p l e R s m args below meth c H locs cells slots mc ms (F0 m pc ls st0) rest (va_Qv post B A1 a) (vx_X px BX AX) free) (hS : va_S A0 H0 H locs) (hA : ∀ q, q < H.size → A1 q → A0 q) (hf : ∀ q, free q → A0 q) (hAX : ∀ q, q < H.size → AX q → A0 q)
    (kx : ∀ (E : String) (ce : Cell) (q9 : Addr) (u : SX) (t : State) (H1 : Heap) (locs1 : List Loc), t.heap = H1 → s.vm.Alike t.vm → px u → BX E u t → H.size ≤ H1.size → (∀ q : Nat, q < H.size → ¬ AX q → H1[q]? = H[q]?) → va_S A0 H0 H1 locs1 → H1[q9]? = some ce → ce.vm = .none → s.vm.findClass E = some ce.cls → vx_W p l e R s m args below meth c H1 locs1 (cells + mc) (slots + ms) Q (F0 m pc ls rest) q9)
    (kk : ∀ (u : S) (t : State) (H1 : Heap) (locs1 : List Loc), t.heap = H1 → s.vm.Alike t.vm → post u → B u t → H.size ≤ H1.size → (∀ q : Nat, q < H.size → ¬ A1 q → H1[q]? = H[q]?) → va_S A0 H0 H1 locs1 → W p l e R s m args below meth c H1 locs1 (cells + mc) (slots + ms) Q (F0 m (pc + 3) ls (rest))) : W p l e R s m args below meth c H locs cells slots Q (F0 m pc ls st0) := by
  intro T hT X
  rcases hr T hT X with ⟨v, st₀, t, T', L, h0, X', hL, e1, e2, ⟨⟨u, hv, hp, hb⟩, hF⟩, st⟩ | ⟨q, st₀, t, T', L, E, ce, h0, X', hL, e1, e2, ⟨u, hp, hb, hF⟩, hce, hcv, hcl, st⟩
  · cases hv
    obtain ⟨k1, k2, k3⟩ := vx_keep h0 e1 hS hA hf hL hF
    obtain ⟨t2, a1, b1⟩ := kk u t T'.heap (locs ++ L) e1.symm (by rw [← e2]; exact X'.warmed.alike) hp hb k1 k2 k3 T' rfl X'
    exact ⟨t2, st t2 a1, b1⟩
  · obtain ⟨k1, k2, k3⟩ := vx_keep h0 e1 hS hAX hf hL hF
    obtain ⟨t2, a1, b1⟩ := kx E ce q u t T'.heap (locs ++ L) e1.symm (by rw [← e2]; exact X'.warmed.alike) hp hb k1 k2 k3 (by rw [e1]; exact hce) hcv hcl T' rfl X'
    exact ⟨t2, st.trans a1, b1⟩
/-- caught by the row x of this method's table; the rows ahead don't take it -/
theorem vx_catch {own name : String} {E : String} {ce : Cell} {q : Addr} (hown : s.vm.findClass own = some m.cls) (pre : List ExceptionTableEntry) (x : ExceptionTableEntry) (suf : List ExceptionTableEntry) (hsplit : c.exceptionTable.toList = pre ++ x :: suf)
    (hpass : ∀ z ∈ pre, covers z pc = false ∨ (z.catchType ≠ 0 ∧ ∃ nm : String, (Cond.classLink own z.catchType nm).before args s = true ∧ va_Nc E nm s)) (hx : covers x pc = true) (h0 : x.catchType ≠ 0)
    (hlink : (Cond.classLink own x.catchType name).before args s = true) (hcast : (Cond.castable E name).before args s = true) (hcell : H[q]? = some ce) (hv : ce.vm = .none) (hcl : s.vm.findClass E = some ce.cls)
    (kk : W p l e R s m args below meth c H locs cells slots Q (F0 m x.handlerPc ls [.ref q])) : vx_W p l e R s m args below meth c H locs cells slots Q (F0 m pc ls rest) q := by
  intro T hT X
  have hpl : e.platform.magicAccessors = ({} : Platform).magicAccessors := by rw [X.admits.platform]
  obtain ⟨c3, c4, hc3, hc4, hasg⟩ := Cond.castable_spec hcast
  cases Option.some.inj (hc3.symm.trans hcl)
  obtain ⟨c5, hc5, hcl5⟩ := Cond.classLink_spec hown hlink e.platform hpl
  cases Option.some.inj (hc4.symm.trans hc5)
  obtain ⟨vm', X', st⟩ := X.thenCaughtThrough q (g := F0 m pc ls rest) rfl (Steps.refl _) (by rw [hT]; exact hcell) (by rw [hv]; rfl) (by obtain ⟨k9, h9, -⟩ := Vm.findClass_spec hcl; exact ⟨k9, h9⟩) pre x suf hsplit
    (fun z hz => by
      rcases hpass z hz with h | ⟨hz0, nm, hl1, hn1⟩
      · exact Or.inl h
      · obtain ⟨c6, hc6, hcl6⟩ := Cond.classLink_spec hown hl1 e.platform hpl
        obtain ⟨a8, b8, h1, h2, h3⟩ := hn1
        cases Option.some.inj (h1.symm.trans hcl)
        cases Option.some.inj (h2.symm.trans hc6)
        exact Or.inr ⟨hz0, _, hcl6, h3⟩) hx (Or.inr ⟨h0, c4, hcl5, hasg⟩)
  obtain ⟨t, a1, b1⟩ := kk (T.setVm vm') hT X'
  exact ⟨t, st.trans a1, b1⟩
end Rows
section Ends
variable {p : Program} {l : Launch} {e : Env} {R : Room} {s : State} {m : MethodId} {args : Array Value} {below : List Frame} {meth : Method} {c : Code} {H : Heap} {locs : List Loc} {cells slots : Nat} {Q : State → Prop}
variable {mc ms : Nat} {free : Addr → Prop} {A0 A1 : Nat → Prop} {H0 : Heap} {a : Array Value} {ls : Array Slot} {st0 rest : List Value}
variable {Qc : Array Value → State → Outcome → State → Prop} {XC : String → State → State → Prop}
/-- what a body that may throw owes at its end -/
def vx_MQ (below : List Frame) (Qc : Array Value → State → Outcome → State → Prop) (XC : String → State → State → Prop) (a : Array Value) (s : State) (mc ms : Nat) (free : Addr → Prop) : State → Prop := fun t =>
  ∃ o, t.status = .running ∧ Ended t below o ∧ vx_Q Qc XC mc ms free a s o t
theorem vx_ret {g : JFrame} {mc ms : Nat} (k : W p l e R s m args below meth c H locs cells slots (MQ below Qc args s mc ms free) g) : W p l e R s m args below meth c H locs cells slots (vx_MQ below Qc XC args s mc ms free) g := by
  intro T hT X
  obtain ⟨t, a1, o, b1, b2, b3, b4⟩ := k T hT X
  exact ⟨t, a1, o, b1, b2, Or.inl ⟨b3, b4⟩⟩
/-- not caught here: it goes on to the caller -/
theorem vx_widen {g : JFrame} {q : Addr} {k n : Nat} (h1 : cells ≤ k) (h2 : slots ≤ n) (kk : vx_W p l e R s m args below meth c H locs k n Q g q) : vx_W p l e R s m args below meth c H locs cells slots Q g q := fun T hT X => kk T hT (stand_widen X h1 h2)
theorem vx_out {pc : Nat} {E : String} {ce : Cell} {q : Addr} {mc ms : Nat} (hout : ∀ x ∈ c.exceptionTable.toList, covers x pc = false) (hlocks : meth.locks = false) (hcell : H[q]? = some ce) (hv : ce.vm = .none) (hcl : s.vm.findClass E = some ce.cls)
    (hx : ∀ t : State, t.heap = H → s.vm.Alike t.vm → XC E s t) (hf : ∀ z ∈ locs, free z.base) (hc : cells ≤ mc) (hs : slots ≤ ms) :
    vx_W p l e R s m args below meth c H locs cells slots (vx_MQ below Qc XC args s mc ms free) (F0 m pc ls rest) q := by
  intro T hT X
  obtain ⟨st1, hrun, hend, hW, hsm⟩ := X.leaveThrown q (g := F0 m pc ls rest) rfl rfl rfl hout hlocks
  have hcell9 : (T.setFrames (.throwing q :: below)).heap[q]? = some ce := by
    show T.heap[q]? = some ce
    rw [hT]; exact hcell
  exact ⟨_, st1, .threw q, hrun, hend, Or.inr ⟨q, rfl, E, ce, locs, hx _ hT hW.alike, hcell9, hv, hcl, hW, hsm.mono hc hs, hf⟩⟩
theorem vx_frame {U : State} {k n : Nat} (h : s.sameButNew ({ U with vm := s.vm } : State) locs k n) : s.heap.size ≤ U.heap.size ∧ ∀ q : Nat, q < s.heap.size → (∀ z ∈ locs, z.base ≠ q) → U.heap[q]? = s.heap[q]? := by
  obtain ⟨-, h2, -, -, -, h6⟩ := h
  refine ⟨h2, fun q hq hz => ?_⟩
  obtain ⟨c9, e1, e2, e3, e4⟩ := h6 q _ (Array.getElem?_eq_getElem hq)
  have hs : c9.slots = (s.heap[q]).slots := Array.ext_getElem? fun i => e4 i fun hm => hz _ hm rfl
  have h9 : c9 = s.heap[q] := by
    rw [hs] at e2
    exact e2
  have e5 : U.heap[q]? = some c9 := e1
  rw [e5, h9, Array.getElem?_eq_getElem hq]
/-- the words of a throw but the four that speak of the heap -/
def vx_no (w : Cond) : Bool := decide (w ≠ .isRef (.static Bundle.tN "UNASSIGNED_STACK" Bundle.steD)) && decide (w ≠ .isRef (.static Bundle.tN "SUPPRESSED_SENTINEL" Bundle.listD)) && decide (w ≠ .laysStatic Bundle.tN "UNASSIGNED_STACK" Bundle.steD) && decide (w ≠ .laysStatic Bundle.tN "SUPPRESSED_SENTINEL" Bundle.listD)
def vx_at0 (own : String) (ic : Nat) (X : String) (names : List String) : List Cond := (Bundle.ownAtoms0 own ic X names).filter vx_no
def vx_atS (own : String) (ic : Nat) (X : String) (names : List String) : List Cond := (Bundle.ownAtoms own ic X names).filter vx_no
/-- a word that the tables alone decide, or a good one -/
def vx_ot (w : Cond) : Bool := w.onTables || goodWord w
theorem vx_ot_at {args a' : Array Value} {s U : State} {w : Cond} (hW : s.WarmedH U.vm) (hvm : s.vm = U.vm) (hg : vx_ot w = true) (h : w.before args s = true) : w.before a' U = true := by
  simp only [vx_ot, Bool.or_eq_true] at hg
  rcases hg with hg | hg
  · exact va_tabs hg hvm h
  · exact word_at hW (good_of_word hg) h
/-- a list's words: the good ones out of the method's own list, the others by premises of their own -/
theorem vx_hat {args : Array Value} {s : State} {L B : List Cond} (h1 : ∀ w ∈ L.filter goodWord, w.before args s = true) (h2 : ∀ w ∈ L.filter (fun w => !goodWord w), w ∈ B) (h3 : ∀ w ∈ B, w.before args s = true) : ∀ w ∈ L, w.before args s = true := by
  intro w hw
  by_cases g : goodWord w = true
  · exact h1 w (List.mem_filter.mpr ⟨hw, g⟩)
  · refine h3 w (h2 w (List.mem_filter.mpr ⟨hw, ?_⟩))
    show (!goodWord w) = true
    cases hgw : goodWord w
    · rfl
    · exact absurd hgw g
theorem vx_c {args : Array Value} {s : State} {w : Cond} {B : List Cond} (h : w.before args s = true) (t : ∀ w ∈ B, w.before args s = true) : ∀ w' ∈ w :: B, w'.before args s = true := fun w' h' => (List.mem_cons.mp h').elim (fun e => by rw [e]; exact h) (t w')
theorem vx_n {args : Array Value} {s : State} : ∀ w ∈ ([] : List Cond), w.before args s = true := fun _ h => nomatch h
theorem vx_own {args : Array Value} {s : State} {L : List Cond} (h1 : ∀ w ∈ L.filter vx_no, w.before args s = true)
    (hU : (Cond.isRef (.static Bundle.tN "UNASSIGNED_STACK" Bundle.steD)).before args s = true) (hN : (Cond.isRef (.static Bundle.tN "SUPPRESSED_SENTINEL" Bundle.listD)).before args s = true)
    (lU : (Cond.laysStatic Bundle.tN "UNASSIGNED_STACK" Bundle.steD).before args s = true) (lN : (Cond.laysStatic Bundle.tN "SUPPRESSED_SENTINEL" Bundle.listD).before args s = true) : ∀ w ∈ L, w.before args s = true := by
  intro w hw
  by_cases e1 : w = .isRef (.static Bundle.tN "UNASSIGNED_STACK" Bundle.steD)
  · rw [e1]; exact hU
  · by_cases e2 : w = .isRef (.static Bundle.tN "SUPPRESSED_SENTINEL" Bundle.listD)
    · rw [e2]; exact hN
    · by_cases e3 : w = .laysStatic Bundle.tN "UNASSIGNED_STACK" Bundle.steD
      · rw [e3]; exact lU
      · by_cases e4 : w = .laysStatic Bundle.tN "SUPPRESSED_SENTINEL" Bundle.listD
        · rw [e4]; exact lN
        · exact h1 w (List.mem_filter.mpr ⟨hw, by unfold vx_no; rw [decide_eq_true e1, decide_eq_true e2, decide_eq_true e3, decide_eq_true e4]; rfl⟩)
/-- where a static field lies, its class's statics cell in H -/
def vx_L (C n d : String) (A : Nat → Prop) (U : State) (H : Heap) : Prop := ∃ (c : ClassId) (k : Class) (i : Nat) (f : Field) (a : Nat) (cell : Cell), U.vm.findClass C = some c ∧ U.fieldFound? C n d = some (c, k, i, f) ∧ f.isStatic = true ∧ k.statics = some a ∧ H[a]? = some cell ∧ cell.vm.isStatics = true ∧ cell.cls = c ∧ f.slot < cell.slots.size ∧ k.staticTypes[f.slot]? = some f.type ∧ ¬ A a
theorem vx_L.moved {C n d : String} {A : Nat → Prop} {u U : State} {H : Heap} (hvm : u.vm.Alike U.vm) (h : vx_L C n d A u H) : vx_L C n d A U H := by
  obtain ⟨c, k, i, f, a, cell, h1, h2, h3, h4, h5, h6, h7, h8, h9, h10⟩ := h
  obtain ⟨k', hi', he⟩ := State.fieldFound?_setVm hvm h2
  exact ⟨c, k', i, f, a, cell, by rw [hvm.findClass]; exact h1, hi', h3, by rw [he]; exact h4, h5, h6, h7, h8, by rw [he]; exact h9, h10⟩
theorem vx_L.kept {C n d : String} {A : Nat → Prop} {U : State} {H H1 : Heap} (h : vx_L C n d A U H) (hq : ∀ a : Nat, a < H.size → ¬ A a → H1[a]? = H[a]?) : vx_L C n d A U H1 := by
  obtain ⟨c, k, i, f, a, cell, h1, h2, h3, h4, h5, h6, h7, h8, h9, h10⟩ := h
  exact ⟨c, k, i, f, a, cell, h1, h2, h3, h4, by rw [hq a (Array.getElem?_eq_some_iff.mp h5).1 h10]; exact h5, h6, h7, h8, h9, h10⟩
theorem vx_L.narrow {C n d : String} {A B : Nat → Prop} {U : State} {H : Heap} (h : vx_L C n d A U H) (hAB : ∀ q, B q → A q) : vx_L C n d B U H := by
  obtain ⟨c, k, i, f, a, cell, h1, h2, h3, h4, h5, h6, h7, h8, h9, h10⟩ := h
  exact ⟨c, k, i, f, a, cell, h1, h2, h3, h4, h5, h6, h7, h8, h9, fun z => h10 (hAB _ z)⟩
theorem vx_L.word {C n d : String} {A : Nat → Prop} {s : State} {args : Array Value} (h : vx_L C n d A s s.heap) : (Cond.laysStatic C n d).before args s = true := by
  obtain ⟨c, k, i, f, a, cell, h1, h2, h3, h4, h5, h6, h7, h8, h9, -⟩ := h
  show (Cond.laysStatic C n d).holds args s none s [] = true
  exact Cond.laysStatic_of h1 h2 h3 h4 h5 h6 h7 h8 h9
/-- .. and what it holds: null or some reference -/
def vx_Zq (C n d : String) (A : Nat → Prop) (U : State) (H : Heap) : Prop := va_Zq C n d A U H ∧ vx_L C n d A U H
theorem vx_Zq.moved {C n d : String} {A : Nat → Prop} {u U : State} {H : Heap} (hvm : u.vm.Alike U.vm) (h : vx_Zq C n d A u H) : vx_Zq C n d A U H := ⟨va_Zq.moved hvm h.1, vx_L.moved hvm h.2⟩
theorem vx_Zq.kept {C n d : String} {A : Nat → Prop} {U : State} {H H1 : Heap} (h : vx_Zq C n d A U H) (hq : ∀ a : Nat, a < H.size → ¬ A a → H1[a]? = H[a]?) : vx_Zq C n d A U H1 := ⟨va_Zq.kept h.1 hq, vx_L.kept h.2 hq⟩
theorem vx_Zq.narrow {C n d : String} {A B : Nat → Prop} {U : State} {H : Heap} (h : vx_Zq C n d A U H) (hAB : ∀ q, B q → A q) : vx_Zq C n d B U H := ⟨va_Zq.narrow h.1 hAB, vx_L.narrow h.2 hAB⟩
theorem vx_Zqof {args : Array Value} {s : State} {C n d : String} {A : Nat → Prop} (hl : (Cond.laysStatic C n d).before args s = true) (hini : (Cond.initialized C).before args s = true) (h : (Cond.isRef (.static C n d)).before args s = true) (hA : ∀ a : Nat, a < s.heap.size → ¬ A a) : vx_Zq C n d A s s.heap := by
  refine ⟨va_Zqof hl hini h hA, ?_⟩
  obtain ⟨c, k, i, f, a, cell, h1, h2, h3, h4, h5, h6, h7, h8, h9⟩ := Cond.laysStatic_spec hl
  exact ⟨c, k, i, f, a, cell, h1, h2, h3, h4, h5, h6, h7, h8, h9, hA a (Array.getElem?_eq_some_iff.mp h5).1⟩
theorem vx_isRef {C n d : String} {v : Value} {A : Nat → Prop} {s : State} {args : Array Value} (h : va_Z C n d v A s s.heap) (hv : v.isRef = true) : (Cond.isRef (.static C n d)).before args s = true := by
  obtain ⟨cf, kf, fi, f, a, cell, h1, h2, h3, h4, h5, h6, h7, -⟩ := h
  have he : (Term.static C n d).eval args s none [] s = some v := by
    simp [Term.eval, State.fieldNamed?, h1, h2, h4, h5, h6, h7]
  simp only [Cond.before, Cond.holds, Cond.value, he]
  cases v <;> simp_all [Value.isRef]
theorem vx_isRefq {C n d : String} {A : Nat → Prop} {s : State} {args : Array Value} (h : va_Zq C n d A s s.heap) : (Cond.isRef (.static C n d)).before args s = true := by
  rcases h with h | ⟨t, h⟩
  · exact vx_isRef h rfl
  · exact vx_isRef h rfl
/-- the same frame, seen from here: as if the method were called anew in this heap -/
theorem vx_rebase {T : State} (X : Stand p l e R s m args below meth c T locs cells slots) {R' : Room} (hf : R'.frames ≤ R.frames) (hl : R'.locals ≤ R.locals) (hc : cells + R'.cells ≤ R.cells) (hs : slots + R'.slots ≤ R.slots) :
    Stand p l e R' ((T.setVm s.vm).setFrames (.invoking m args :: below)) m args below meth c T [] 0 0 := by
  have htop : (T.setVm s.vm).topJava?.isSome := X.here.top
  have hF : ((T.setVm s.vm).setFrames (.invoking m args :: below)).frames = .invoking m args :: below := State.frames_setFrames _ (State.cur_lt_of_top htop)
  obtain ⟨g₀, hg0⟩ := Option.isSome_iff_exists.mp htop
  obtain ⟨r, hr⟩ := State.topJava?_eq_some.mp hg0
  have hl9 : e.platform.stackLimits (T.setVm s.vm).me = e.platform.stackLimits s.me := X.limits
  have hb9 : (T.setVm s.vm).me.stackBytes = s.me.stackBytes := X.bytes
  refine ⟨X.admits, X.cas, X.clock, hF, ?_, X.hears, X.method, X.code, X.here, X.tail, X.warmed, ?_, ?_, ?_⟩
  · have h := X.room
    have hU : ((T.setVm s.vm).setFrames (.invoking m args :: below)).localsInUse = s.localsInUse := by
      rw [State.localsInUse_invoking hF (meth := meth) (c := c) X.method X.code, State.localsInUse_invoking X.frames X.method X.code]
    simp only [State.hasRoom, Bool.and_eq_true, decide_eq_true_eq] at h ⊢
    obtain ⟨⟨⟨⟨h1, h2, h3, h4, h5, h6⟩, h7⟩, h8⟩, h9⟩ := h
    rw [X.frames, List.length_cons] at h2 h3
    have q1 := X.heapSize
    have q2 := X.used
    simp only [hF, hU, List.length_cons, State.stackLimits_setFrames, State.stackBytes_setFrames, hl9, hb9]
    refine ⟨⟨⟨⟨by omega, by omega, by omega, by omega, by omega, h6⟩, ?_⟩, ?_⟩, X.book⟩
    · show T.heap.size + R'.cells ≤ e.platform.maxCells
      omega
    · show T.slotsUsed + R'.slots ≤ e.platform.maxSlots
      omega
  · rw [State.stackLimits_setFrames]; rfl
  · rw [State.stackBytes_setFrames]; rfl
  · refine ⟨?_, Nat.le_refl _, Nat.le_refl _, ?_, ?_, fun a c9 h9 => ⟨c9, h9, rfl, rfl, fun _ _ => rfl⟩⟩
    · obtain ⟨t, ht, -⟩ := State.frames_cons hr
      show T.setVm s.vm = { ((T.setVm s.vm).setFrames (.invoking m args :: below)).setFrames (T.setVm s.vm).frames with heap := T.heap, slotsUsed := T.slotsUsed }
      rw [State.setFrames_setFrames, State.setFrames_self ht]
      rfl
    · show T.slotsUsed = T.slotsUsed + ((T.heap.toList.drop T.heap.size).map (·.slots.size)).sum
      rw [List.drop_eq_nil_of_le (Nat.le_of_eq Array.length_toList)]
      rfl
    · show ((T.heap.toList.drop T.heap.size).map (·.slots.size)).sum ≤ 0
      rw [List.drop_eq_nil_of_le (Nat.le_of_eq Array.length_toList)]
      exact Nat.le_refl _
/-- 'throw new E()': new; dup; invokespecial; athrow -/
theorem vx_throw0 {cc : ByteArray} {pc : Nat} (hexec : p.tables.exec = Jvm.exec) (hb : c.code = cc) (hl : l.stackTraces = false) {own cls : String} {names : List String} {ik ic mc ms : Nat} {A : Nat → Prop}
    (hown : s.vm.findClass own = some m.cls) (hcls : Bundle.fit cls = true) (hnames : ∀ n ∈ names, Bundle.fit n = true)
    (hk : (Cond.classLink own ik cls).before args s = true) (hini : (Cond.initialized cls).before args s = true) (hat : ∀ w ∈ vx_at0 own ic cls names, w.before args s = true)
    (hgood : ∀ w ∈ Cond.classLink own ik cls :: Cond.initialized cls :: vx_at0 own ic cls names, vx_ot w = true)
    (hU : vx_Zq Bundle.tN "UNASSIGNED_STACK" Bundle.steD A s s.heap) (hN : vx_Zq Bundle.tN "SUPPRESSED_SENTINEL" Bundle.listD A s s.heap) (hS : va_S A s.heap H locs) (hsize : ls.size = c.maxLocals)
    (d0 : decode cc pc = .ok (.new ik, 3)) (d3 : decode cc (pc + 3) = .ok (.dup, 1)) (d4 : decode cc (pc + 4) = .ok (.invokespecial ic, 3)) (d7 : decode cc (pc + 7) = .ok (.athrow, 1))
    (hout : ∀ x ∈ c.exceptionTable.toList, covers x (pc + 7) = false)
    (hRframes : names.length + 3 < R.frames) (hRlocals : (rest.map fun v => v.category).sum + (13 * (names.length + 1) + 42) ≤ R.locals) (hRcells : cells + 1 ≤ R.cells) (hRslots : slots + 6 ≤ R.slots) (hlocks : meth.locks = false)
    (hx : ∀ t : State, s.vm.Alike t.vm → H.size ≤ t.heap.size → (∀ q : Nat, q < H.size → t.heap[q]? = H[q]?) → XC cls s t)
    (hf : ∀ z ∈ locs, free z.base) (hc : cells + 1 ≤ mc) (hs : slots + 6 ≤ ms) :
    W p l e R s m args below meth c H locs cells slots (vx_MQ below Qc XC args s mc ms free) (F0 m pc ls rest) := by
  intro T hT X
  have htr : e.platform.stackTraces = false := (show e.platform.stackTraces = l.stackTraces by rw [X.admits.platform]).trans hl
  have Y := vx_rebase X (R' := { frames := R.frames, locals := R.locals, cells := 1, slots := 6 }) (Nat.le_refl _) (Nat.le_refl _) hRcells hRslots
  obtain ⟨s', hA⟩ : ∃ z, z = (T.setVm s.vm).setFrames (.invoking m args :: below) := ⟨_, rfl⟩
  rw [← hA] at Y
  have hvm : s'.vm = s.vm := by rw [hA]; rfl
  have hhp : s'.heap = H := by rw [hA]; exact hT
  have hW0 : s.WarmedH s'.vm := by rw [hvm]; exact State.WarmedH.refl s
  have hat' : ∀ w ∈ vx_at0 own ic cls names, w.before args s' = true := fun w hw => vx_ot_at hW0 hvm.symm (hgood w (List.mem_cons_of_mem _ (List.mem_cons_of_mem _ hw))) (hat w hw)
  have hk' : (Cond.classLink own ik cls).before args s' = true := vx_ot_at hW0 hvm.symm (hgood _ List.mem_cons_self) hk
  have hini' : (Cond.initialized cls).before args s' = true := vx_ot_at hW0 hvm.symm (hgood _ (List.mem_cons_of_mem _ List.mem_cons_self)) hini
  have hU' : vx_Zq Bundle.tN "UNASSIGNED_STACK" Bundle.steD A s' s'.heap := by rw [hhp]; exact vx_Zq.moved hW0.alike (hU.kept hS.2.1)
  have hN' : vx_Zq Bundle.tN "SUPPRESSED_SENTINEL" Bundle.listD A s' s'.heap := by rw [hhp]; exact vx_Zq.moved hW0.alike (hN.kept hS.2.1)
  have h : ∀ w ∈ Bundle.ownAtoms0 own ic cls names, w.before args s' = true := vx_own hat' (vx_isRefq hU'.1) (vx_isRefq hN'.1) hU'.2.word hN'.2.word
  have hown' : s'.vm.findClass own = some m.cls := by rw [hvm]; exact hown
  have hins : (Cond.instantiable cls 6).before args s' = true := h _ (by simp [Bundle.ownAtoms0])
  obtain ⟨vm₁, cX, kX, hfX, hkX, -, -, X₁, st1⟩ := Y.newCold hexec (own := own) (C := cls) (index := ik) (n := 6) hown' hk' hins hini'
    (g := F0 m pc ls rest) rfl (by rw [hb]; exact d0) (Nat.le_refl _) (Nat.le_refl _)
  generalize hT1 : (T.setVm vm₁).pushCell { cls := cX, slots := kX.instanceTypes.map defaultValue, vm := .none } = T1 at X₁ st1
  have hcat : (Value.ref T.heap.size).category = 1 := rfl
  have hcellA : T1.heap[T.heap.size]? = some (freshCell cX kX) := by rw [← hT1]; exact State.heap_pushCell_size _ _
  have d3' : decode c.code (pc + 3) = .ok (.dup, 1) := by rw [hb]; exact d3
  obtain ⟨U, hsteps, hrun, hend, hW, hsame, ce, hce, hO⟩ := X₁.ctorThrow0 hexec htr (own := own) (cls := cls) (names := names) (ic := ic) hown' hcls hnames h (fun x hx => nomatch hx) hfX hkX hcellA (by rw [hhp, hT]; exact Nat.le_refl _)
    (g := { method := m, pc := pc + 4, locals := ls, stack := .ref T.heap.size :: .ref T.heap.size :: rest, locked := none }) rfl hsize rfl rfl (rest := rest) rfl
    (by rw [hb]; exact d4) (by rw [hb]; exact d7) hout hRframes (by simp only [List.map_cons, List.sum_cons, hcat]; omega) hlocks
  obtain ⟨f1, f2⟩ := vx_frame hsame
  rw [hhp] at f1 f2
  have hWs : s.WarmedH U.vm := State.WarmedH.trans hW0 hW
  have hcl : s.vm.findClass cls = some ce.cls := by
    have h9 := hO.cls
    rw [hvm] at h9
    exact h9
  have hall : s.sameButNew ({ U with vm := s.vm } : State) locs mc ms := by
    subst hA
    obtain ⟨e1, e2⟩ := hsame
    rw [State.setFrames_setFrames] at e1
    have h2 : (T.setVm s.vm).sameButNew ({ U with vm := s.vm } : State) [] (0 + 1) (0 + 6) := ⟨e1, e2⟩
    have h3 := X.same.trans h2
    rw [List.append_nil] at h3
    exact h3.mono hc hs
  refine ⟨U, ?_, .threw T.heap.size, hrun, hend, Or.inr ⟨T.heap.size, rfl, cls, ce, locs, hx U hWs.alike f1 (fun q hq => f2 q hq (fun z hz => nomatch hz)), hce, hO.vm, hcl, hWs, hall, hf⟩⟩
  refine st1 _ ?_
  show Steps p.tables e below (T1.setTop { method := m, pc := pc + 3, locals := ls, stack := .ref T.heap.size :: rest, locked := none }) _
  jvm_step X₁.here [X₁.here.top, hexec, d3', Value.category]
  exact hsteps
/-- 'throw new E("text")': new; dup; ldc; invokespecial; athrow -/
theorem vx_throwS {cc : ByteArray} {pc : Nat} (hexec : p.tables.exec = Jvm.exec) (hb : c.code = cc) (hl : l.stackTraces = false) {own cls text : String} {names : List String} {ik is ic mc ms sa : Nat} {A : Nat → Prop}
    (hown : s.vm.findClass own = some m.cls) (hcls : Bundle.fit cls = true) (hnames : ∀ n ∈ names, Bundle.fit n = true)
    (hk : (Cond.classLink own ik cls).before args s = true) (hini : (Cond.initialized cls).before args s = true) (hstr : vk_R own is text sa s) (hat : ∀ w ∈ vx_atS own ic cls names, w.before args s = true)
    (hgood : ∀ w ∈ Cond.classLink own ik cls :: Cond.initialized cls :: vx_atS own ic cls names, vx_ot w = true)
    (hU : vx_Zq Bundle.tN "UNASSIGNED_STACK" Bundle.steD A s s.heap) (hN : vx_Zq Bundle.tN "SUPPRESSED_SENTINEL" Bundle.listD A s s.heap) (hS : va_S A s.heap H locs) (hsize : ls.size = c.maxLocals)
    (d0 : decode cc pc = .ok (.new ik, 3)) (d3 : decode cc (pc + 3) = .ok (.dup, 1)) (d4 : decode cc (pc + 4) = .ok (.ldc is, 2)) (d6 : decode cc (pc + 6) = .ok (.invokespecial ic, 3)) (d9 : decode cc (pc + 9) = .ok (.athrow, 1))
    (hout : ∀ x ∈ c.exceptionTable.toList, covers x (pc + 9) = false)
    (hRframes : names.length + 3 < R.frames) (hRlocals : (rest.map fun v => v.category).sum + (13 * (names.length + 1) + 43) ≤ R.locals) (hRcells : cells + 1 ≤ R.cells) (hRslots : slots + 6 ≤ R.slots) (hlocks : meth.locks = false)
    (hx : ∀ t : State, s.vm.Alike t.vm → H.size ≤ t.heap.size → (∀ q : Nat, q < H.size → t.heap[q]? = H[q]?) → XC cls s t)
    (hf : ∀ z ∈ locs, free z.base) (hc : cells + 1 ≤ mc) (hs : slots + 6 ≤ ms) :
    W p l e R s m args below meth c H locs cells slots (vx_MQ below Qc XC args s mc ms free) (F0 m pc ls rest) := by
  intro T hT X
  have htr : e.platform.stackTraces = false := (show e.platform.stackTraces = l.stackTraces by rw [X.admits.platform]).trans hl
  have Y := vx_rebase X (R' := { frames := R.frames, locals := R.locals, cells := 1, slots := 6 }) (Nat.le_refl _) (Nat.le_refl _) hRcells hRslots
  obtain ⟨s', hA⟩ : ∃ z, z = (T.setVm s.vm).setFrames (.invoking m args :: below) := ⟨_, rfl⟩
  rw [← hA] at Y
  have hvm : s'.vm = s.vm := by rw [hA]; rfl
  have hhp : s'.heap = H := by rw [hA]; exact hT
  have hW0 : s.WarmedH s'.vm := by rw [hvm]; exact State.WarmedH.refl s
  have hat' : ∀ w ∈ vx_atS own ic cls names, w.before args s' = true := fun w hw => vx_ot_at hW0 hvm.symm (hgood w (List.mem_cons_of_mem _ (List.mem_cons_of_mem _ hw))) (hat w hw)
  have hk' : (Cond.classLink own ik cls).before args s' = true := vx_ot_at hW0 hvm.symm (hgood _ List.mem_cons_self) hk
  have hini' : (Cond.initialized cls).before args s' = true := vx_ot_at hW0 hvm.symm (hgood _ (List.mem_cons_of_mem _ List.mem_cons_self)) hini
  have hU' : vx_Zq Bundle.tN "UNASSIGNED_STACK" Bundle.steD A s' s'.heap := by rw [hhp]; exact vx_Zq.moved hW0.alike (hU.kept hS.2.1)
  have hN' : vx_Zq Bundle.tN "SUPPRESSED_SENTINEL" Bundle.listD A s' s'.heap := by rw [hhp]; exact vx_Zq.moved hW0.alike (hN.kept hS.2.1)
  have h : ∀ w ∈ Bundle.ownAtoms own ic cls names, w.before args s' = true := vx_own hat' (vx_isRefq hU'.1) (vx_isRefq hN'.1) hU'.2.word hN'.2.word
  have hown' : s'.vm.findClass own = some m.cls := by rw [hvm]; exact hown
  have hins : (Cond.instantiable cls 6).before args s' = true := h _ (by simp [Bundle.ownAtoms])
  obtain ⟨vm₁, cX, kX, hfX, hkX, -, -, X₁, st1⟩ := Y.newCold hexec (own := own) (C := cls) (index := ik) (n := 6) hown' hk' hins hini'
    (g := F0 m pc ls rest) rfl (by rw [hb]; exact d0) (Nat.le_refl _) (Nat.le_refl _)
  generalize hT1 : (T.setVm vm₁).pushCell { cls := cX, slots := kX.instanceTypes.map defaultValue, vm := .none } = T1 at X₁ st1
  have hcat : (Value.ref T.heap.size).category = 1 := rfl
  have hcellA : T1.heap[T.heap.size]? = some (freshCell cX kX) := by rw [← hT1]; exact State.heap_pushCell_size _ _
  have d3' : decode c.code (pc + 3) = .ok (.dup, 1) := by rw [hb]; exact d3
  have d4' : decode c.code (pc + 4) = .ok (.ldc is, 2) := by rw [hb]; exact d4
  have hstr' : vk_R own is text sa s' := vk_R.warm hW0 hstr
  obtain ⟨U, hsteps, hrun, hend, hW, hsame, ce, hce, hO⟩ := X₁.ctorThrowS hexec htr (own := own) (cls := cls) (names := names) (ic := ic) hown' hcls hnames h (fun x hx => nomatch hx) hfX hkX hcellA (by rw [hhp, hT]; exact Nat.le_refl _) (msg := .ref sa) rfl
    (g := { method := m, pc := pc + 6, locals := ls, stack := .ref sa :: .ref T.heap.size :: .ref T.heap.size :: rest, locked := none }) rfl hsize rfl rfl (rest := rest) rfl
    (by rw [hb]; exact d6) (by rw [hb]; exact d9) hout hRframes (by simp only [List.map_cons, List.sum_cons, hcat]; omega) hlocks
  obtain ⟨f1, f2⟩ := vx_frame hsame
  rw [hhp] at f1 f2
  have hWs : s.WarmedH U.vm := State.WarmedH.trans hW0 hW
  have hcl : s.vm.findClass cls = some ce.cls := by
    have h9 := hO.cls
    rw [hvm] at h9
    exact h9
  have hall : s.sameButNew ({ U with vm := s.vm } : State) locs mc ms := by
    subst hA
    obtain ⟨e1, e2⟩ := hsame
    rw [State.setFrames_setFrames] at e1
    have h2 : (T.setVm s.vm).sameButNew ({ U with vm := s.vm } : State) [] (0 + 1) (0 + 6) := ⟨e1, e2⟩
    have h3 := X.same.trans h2
    rw [List.append_nil] at h3
    exact h3.mono hc hs
  refine ⟨U, ?_, .threw T.heap.size, hrun, hend, Or.inr ⟨T.heap.size, rfl, cls, ce, locs, hx U hWs.alike f1 (fun q hq => f2 q hq (fun z hz => nomatch hz)), hce, hO.vm, hcl, hWs, hall, hf⟩⟩
  refine st1 _ ?_
  show Steps p.tables e below (T1.setTop { method := m, pc := pc + 3, locals := ls, stack := .ref T.heap.size :: rest, locked := none }) _
  jvm_step X₁.here [X₁.here.top, hexec, d3', Value.category]
  exact X₁.ldcString hexec (own := own) (text := text) (index := is) (a := sa) hown' hstr'.1 hstr'.2
    (g := { method := m, pc := pc + 4, locals := ls, stack := .ref T.heap.size :: .ref T.heap.size :: rest, locked := none }) rfl d4' _ hsteps
/-- 'throw new E("text")', the text by a wide index -/
theorem vx_throwSW {cc : ByteArray} {pc : Nat} (hexec : p.tables.exec = Jvm.exec) (hb : c.code = cc) (hl : l.stackTraces = false) {own cls text : String} {names : List String} {ik is ic mc ms sa : Nat} {A : Nat → Prop}
    (hown : s.vm.findClass own = some m.cls) (hcls : Bundle.fit cls = true) (hnames : ∀ n ∈ names, Bundle.fit n = true)
    (hk : (Cond.classLink own ik cls).before args s = true) (hini : (Cond.initialized cls).before args s = true) (hstr : vk_R own is text sa s) (hat : ∀ w ∈ vx_atS own ic cls names, w.before args s = true)
    (hgood : ∀ w ∈ Cond.classLink own ik cls :: Cond.initialized cls :: vx_atS own ic cls names, vx_ot w = true)
    (hU : vx_Zq Bundle.tN "UNASSIGNED_STACK" Bundle.steD A s s.heap) (hN : vx_Zq Bundle.tN "SUPPRESSED_SENTINEL" Bundle.listD A s s.heap) (hS : va_S A s.heap H locs) (hsize : ls.size = c.maxLocals)
    (d0 : decode cc pc = .ok (.new ik, 3)) (d3 : decode cc (pc + 3) = .ok (.dup, 1)) (d4 : decode cc (pc + 4) = .ok (.ldc_w is, 3)) (d7 : decode cc (pc + 7) = .ok (.invokespecial ic, 3)) (d10 : decode cc (pc + 10) = .ok (.athrow, 1))
    (hout : ∀ x ∈ c.exceptionTable.toList, covers x (pc + 10) = false)
    (hRframes : names.length + 3 < R.frames) (hRlocals : (rest.map fun v => v.category).sum + (13 * (names.length + 1) + 43) ≤ R.locals) (hRcells : cells + 1 ≤ R.cells) (hRslots : slots + 6 ≤ R.slots) (hlocks : meth.locks = false)
    (hx : ∀ t : State, s.vm.Alike t.vm → H.size ≤ t.heap.size → (∀ q : Nat, q < H.size → t.heap[q]? = H[q]?) → XC cls s t)
    (hf : ∀ z ∈ locs, free z.base) (hc : cells + 1 ≤ mc) (hs : slots + 6 ≤ ms) :
    W p l e R s m args below meth c H locs cells slots (vx_MQ below Qc XC args s mc ms free) (F0 m pc ls rest) := by
  intro T hT X
  have htr : e.platform.stackTraces = false := (show e.platform.stackTraces = l.stackTraces by rw [X.admits.platform]).trans hl
  have Y := vx_rebase X (R' := { frames := R.frames, locals := R.locals, cells := 1, slots := 6 }) (Nat.le_refl _) (Nat.le_refl _) hRcells hRslots
  obtain ⟨s', hA⟩ : ∃ z, z = (T.setVm s.vm).setFrames (.invoking m args :: below) := ⟨_, rfl⟩
  rw [← hA] at Y
  have hvm : s'.vm = s.vm := by rw [hA]; rfl
  have hhp : s'.heap = H := by rw [hA]; exact hT
  have hW0 : s.WarmedH s'.vm := by rw [hvm]; exact State.WarmedH.refl s
  have hat' : ∀ w ∈ vx_atS own ic cls names, w.before args s' = true := fun w hw => vx_ot_at hW0 hvm.symm (hgood w (List.mem_cons_of_mem _ (List.mem_cons_of_mem _ hw))) (hat w hw)
  have hk' : (Cond.classLink own ik cls).before args s' = true := vx_ot_at hW0 hvm.symm (hgood _ List.mem_cons_self) hk
  have hini' : (Cond.initialized cls).before args s' = true := vx_ot_at hW0 hvm.symm (hgood _ (List.mem_cons_of_mem _ List.mem_cons_self)) hini
  have hU' : vx_Zq Bundle.tN "UNASSIGNED_STACK" Bundle.steD A s' s'.heap := by rw [hhp]; exact vx_Zq.moved hW0.alike (hU.kept hS.2.1)
  have hN' : vx_Zq Bundle.tN "SUPPRESSED_SENTINEL" Bundle.listD A s' s'.heap := by rw [hhp]; exact vx_Zq.moved hW0.alike (hN.kept hS.2.1)
  have h : ∀ w ∈ Bundle.ownAtoms own ic cls names, w.before args s' = true := vx_own hat' (vx_isRefq hU'.1) (vx_isRefq hN'.1) hU'.2.word hN'.2.word
  have hown' : s'.vm.findClass own = some m.cls := by rw [hvm]; exact hown
  have hins : (Cond.instantiable cls 6).before args s' = true := h _ (by simp [Bundle.ownAtoms])
  obtain ⟨vm₁, cX, kX, hfX, hkX, -, -, X₁, st1⟩ := Y.newCold hexec (own := own) (C := cls) (index := ik) (n := 6) hown' hk' hins hini'
    (g := F0 m pc ls rest) rfl (by rw [hb]; exact d0) (Nat.le_refl _) (Nat.le_refl _)
  generalize hT1 : (T.setVm vm₁).pushCell { cls := cX, slots := kX.instanceTypes.map defaultValue, vm := .none } = T1 at X₁ st1
  have hcat : (Value.ref T.heap.size).category = 1 := rfl
  have hcellA : T1.heap[T.heap.size]? = some (freshCell cX kX) := by rw [← hT1]; exact State.heap_pushCell_size _ _
  have d3' : decode c.code (pc + 3) = .ok (.dup, 1) := by rw [hb]; exact d3
  have d4' : decode c.code (pc + 4) = .ok (.ldc_w is, 3) := by rw [hb]; exact d4
  have hstr' : vk_R own is text sa s' := vk_R.warm hW0 hstr
  obtain ⟨U, hsteps, hrun, hend, hW, hsame, ce, hce, hO⟩ := X₁.ctorThrowS hexec htr (own := own) (cls := cls) (names := names) (ic := ic) hown' hcls hnames h (fun x hx => nomatch hx) hfX hkX hcellA (by rw [hhp, hT]; exact Nat.le_refl _) (msg := .ref sa) rfl
    (g := { method := m, pc := pc + 7, locals := ls, stack := .ref sa :: .ref T.heap.size :: .ref T.heap.size :: rest, locked := none }) rfl hsize rfl rfl (rest := rest) rfl
    (by rw [hb]; exact d7) (by rw [hb]; exact d10) hout hRframes (by simp only [List.map_cons, List.sum_cons, hcat]; omega) hlocks
  obtain ⟨f1, f2⟩ := vx_frame hsame
  rw [hhp] at f1 f2
  have hWs : s.WarmedH U.vm := State.WarmedH.trans hW0 hW
  have hcl : s.vm.findClass cls = some ce.cls := by
    have h9 := hO.cls
    rw [hvm] at h9
    exact h9
  have hall : s.sameButNew ({ U with vm := s.vm } : State) locs mc ms := by
    subst hA
    obtain ⟨e1, e2⟩ := hsame
    rw [State.setFrames_setFrames] at e1
    have h2 : (T.setVm s.vm).sameButNew ({ U with vm := s.vm } : State) [] (0 + 1) (0 + 6) := ⟨e1, e2⟩
    have h3 := X.same.trans h2
    rw [List.append_nil] at h3
    exact h3.mono hc hs
  refine ⟨U, ?_, .threw T.heap.size, hrun, hend, Or.inr ⟨T.heap.size, rfl, cls, ce, locs, hx U hWs.alike f1 (fun q hq => f2 q hq (fun z hz => nomatch hz)), hce, hO.vm, hcl, hWs, hall, hf⟩⟩
  refine st1 _ ?_
  show Steps p.tables e below (T1.setTop { method := m, pc := pc + 3, locals := ls, stack := .ref T.heap.size :: rest, locked := none }) _
  jvm_step X₁.here [X₁.here.top, hexec, d3', Value.category]
  exact X₁.ldcStringW hexec (own := own) (text := text) (index := is) (a := sa) hown' hstr'.1 hstr'.2
    (g := { method := m, pc := pc + 4, locals := ls, stack := .ref T.heap.size :: .ref T.heap.size :: rest, locked := none }) rfl d4' _ hsteps
end Ends
section Bodies
variable {l : Launch}
theorem vx_ofW {y : MethodName} {ws ws' : List Cond} {rm : Room} {Pc : Array Value → State → Prop} {Qc : Array Value → State → Outcome → State → Prop} {XC : String → State → State → Prop} {mc ms : Nat} {free : Addr → Prop} {cc : ByteArray} {maxL : Nat} {ret : Option FieldType}
    (hy : plainName y.cls = true) (hw : ws = Cond.code y cc maxL ret :: ws')
    (body : ∀ p e s m args below meth c s₁, BodyLoose p l y (headSpec ws rm) cc maxL ret e s m args below meth c s₁ → c.maxLocals = maxL → (∀ x ∈ c.exceptionTable.toList, False) → Pc args s →
      W p l e (headSpec ws rm).room s m args below meth c s.heap [] 0 0 (vx_MQ below Qc XC args s mc ms free) (entryFrame m args maxL)) : vx_Met l y ws rm Pc Qc XC mc ms free := by
  refine MetFree.of_bodyS (code := cc) (maxLocals := maxL) (ret := ret) hy ?_ ?_
  · intro args s m h hn
    obtain ⟨meth, c, h1, h2, h3, h4, h5, h6, -, -⟩ := Cond.code_spec hn (atoms_spec (ws := ws) h _ (by rw [hw]; exact List.mem_cons_self))
    exact ⟨meth, c, h1, h2, h3, h4, h5, h6⟩
  · intro p e s m args below meth c s₁ B hml hP _
    have hh0 : s₁.heap = s.heap := by rw [B.state]; rfl
    have ht : ∀ x ∈ c.exceptionTable.toList, False := by
      obtain ⟨meth9, c9, h1, h2, -, -, -, -, h7, -⟩ := Cond.code_spec B.named (atoms_spec (ws := ws) B.pre _ (by rw [hw]; exact List.mem_cons_self))
      cases Option.some.inj (h1.symm.trans B.method)
      cases Option.some.inj (h2.symm.trans (Stand.of_body B).code)
      intro x hx
      rw [Array.isEmpty_iff.mp h7] at hx
      cases hx
    obtain ⟨t, a1, o, b1, b2, b3⟩ := body p e s m args below meth c s₁ B hml ht hP s₁ hh0 (Stand.of_body B)
    exact ⟨t, o, a1, b1, b2, b3⟩
/-- the table of a body with handlers -/
theorem vx_table {p : Program} {x y : MethodName} {S : Spec} {cc bytes : ByteArray} {maxL maxL' : Nat} {ret ret' : Option FieldType} {e : Env} {s s₁ : State} {m : MethodId} {args : Array Value} {below : List Frame} {meth : Method} {c : Code} {hh : List (Nat × Nat × Nat × Nat)}
    (B : BodyLoose p l y S cc maxL ret e s m args below meth c s₁) (h : (Cond.codeWith y bytes maxL' ret' hh).before args s = true) : c.exceptionTable.toList = tableOf hh := by
  obtain ⟨m9, meth9, c9, hn9, h1, h2, -, -, h6, -⟩ := Cond.codeWith_spec h
  cases Option.some.inj (hn9.symm.trans B.named)
  cases Option.some.inj (h1.symm.trans B.method)
  cases Option.some.inj (h2.symm.trans (Stand.of_body B).code)
  rw [← h6, table_eq]
end Bodies
end VXA
/-! ===== END ===== -/
/-! ===== BEGIN a static call of a method with an exception table ===== -/
section VXS
variable {p : Program} {l : Launch} {e : Env} {R : Room} {s : State} {m : MethodId} {args : Array Value} {below : List Frame} {meth : Method} {c : Code} {T : State} {H : Heap} {locs : List Loc} {cells slots : Nat}
abbrev vx_CSW (R : Room) (s : State) (args : Array Value) (own : String) (index : Nat) (y : MethodName) (bytes : ByteArray) (maxL : Nat) (ret : Option FieldType) (hh : List (Nat × Nat × Nat × Nat)) (ws : List Cond) (rm : Room) (mc ms n : Nat) : Prop :=
  (rm.cells = mc ∧ rm.slots = ms ∧ rm.frames + 1 ≤ R.frames ∧ 8 + (maxL + 11) + rm.locals ≤ R.locals ∧ (∀ w ∈ ws, ∀ (a' : Array Value) (U : State), s.WarmedH U.vm → w.before a' U = true) ∧ Cond.codeWith y bytes maxL ret hh ∈ ws) ∧
  (Cond.codeWith y bytes maxL ret hh).before args s = true ∧ (Cond.initialized y.cls).before args s = true ∧ (y.cls ≠ "java/lang/invoke/MethodHandle" ∧ y.cls ≠ "java/lang/invoke/VarHandle") ∧
  (∀ sig, parseMethodDescriptor y.desc = some sig → n = sig.parameters.length) ∧ (Cond.methodLink own index y).before args s = true ∧ (Cond.static y).before args s = true
theorem vx_cwSW {own : String} {index maxL mc ms : Nat} {y : MethodName} {bytes : ByteArray} {ret : Option FieldType} {hh : List (Nat × Nat × Nat × Nat)} {Ts ws ws' : List Cond} {rm : Room} (n : Nat) (ht : ∀ w ∈ Ts, w.before args s = true) (hT : GoodIn Ts (va_wsS own index y ws)) (hw : ws = Cond.codeWith y bytes maxL ret hh :: ws') (hrc : rm.cells = mc) (hrs : rm.slots = ms)
    (hd : y.cls ≠ "java/lang/invoke/MethodHandle" ∧ y.cls ≠ "java/lang/invoke/VarHandle" ∧ (parseMethodDescriptor y.desc).map (fun d => d.parameters.length) = some n) (hR : rm.frames + 1 ≤ R.frames ∧ 8 + (maxL + 11) + rm.locals ≤ R.locals) :
    vx_CSW R s args own index y bytes maxL ret hh ws rm mc ms n := by
  have ok : ∀ w ∈ va_wsS own index y ws, w.before args s = true := fun w h => ht w (hT w h).1
  have hG : GoodIn Ts ws := fun w h => hT w (by unfold va_wsS; exact List.mem_append_right _ h)
  have hc : Cond.codeWith y bytes maxL ret hh ∈ ws := by rw [hw]; exact List.mem_cons_self
  refine ⟨⟨hrc, hrs, hR.1, hR.2, pay_in ht hG, hc⟩, ht _ (hG _ hc).1, ok _ (by simp [va_wsS]), ⟨hd.1, hd.2.1⟩, fun sig h => ?_, ok _ (by simp [va_wsS]), ok _ (by simp [va_wsS])⟩
  have h2 := hd.2.2
  rw [h] at h2
  exact (Option.some.inj h2).symm
theorem vx_callSW (X : Stand p l e R s m args below meth c T locs cells slots) (hexec : p.tables.exec = Jvm.exec) {own : String} {index : Nat} {y : MethodName} {bytes : ByteArray} {maxL : Nat} {ret : Option FieldType} {hh : List (Nat × Nat × Nat × Nat)}
    (hown : s.vm.findClass own = some m.cls) (hlink : (Cond.methodLink own index y).before args s = true) (hstat : (Cond.static y).before args s = true) (hinit : (Cond.initialized y.cls).before args s = true)
    (hcode : (Cond.codeWith y bytes maxL ret hh).before args s = true) (hy : y.cls ≠ "java/lang/invoke/MethodHandle" ∧ y.cls ≠ "java/lang/invoke/VarHandle")
    {W9 : Nat} {Pre : Pt → Array Value → Prop} {Post : Pt → Array Value → Option Value → Pt → Prop} (hK : Back l R p e below s args y 3 W9 Pre Post)
    {g : JFrame} (hg : g.method = m) (hsize : g.locals.size = c.maxLocals) {argsL rest : List Value} (hlen : ∀ sig, parseMethodDescriptor y.desc = some sig → argsL.length = sig.parameters.length)
    (hstack : g.stack = argsL.reverse ++ rest) (hW : 2 * g.monitorRoom + (rest.map fun v => v.category).sum ≤ W9) (hdg : decode c.code g.pc = .ok (.invokestatic index, 3))
    (hpre : ∀ vm₁, s.WarmedH vm₁ → Pre ⟨T.setVm vm₁, locs, cells, slots⟩ argsL.toArray) :
    ∃ (v : Option Value) (vm₁ : Vm) (B : Pt), s.WarmedH vm₁ ∧ Stand p l e R s m args below meth c B.U B.locs B.cells B.slots ∧ Post ⟨T.setVm vm₁, locs, cells, slots⟩ argsL.toArray v B ∧
      ∀ target, Steps p.tables e below (B.U.setTop { g with pc := g.pc + 3, stack := v.toList ++ rest }) target → Steps p.tables e below (T.setTop g) target := by
  obtain ⟨mk, methM, cM, hnamed, hmethM, -, -, -, -, -, -, hsigM⟩ := Cond.codeWith_spec hcode
  have hstatic : methM.isStatic = true := Cond.static_spec hnamed hmethM hstat
  obtain ⟨kP, hkP, -⟩ := className_of_methodNamed hnamed
  have hinitP : kP.init = .initialized := Cond.initialized_spec (findClass_of_methodNamed hnamed) hkP hinit
  obtain ⟨vm₁, X₁, hstep₁⟩ := X.invokestatic hexec hown hlink hnamed hmethM hstatic hkP hinitP hy (g := g) hg (argsL := argsL) (rest := rest) (hlen _ hsigM) hstack hdg
  obtain ⟨v, B, X', hpost, hsteps⟩ := hK m meth c ⟨T.setVm vm₁, locs, cells, slots⟩ { g with stack := rest } (.invokestatic index) mk argsL.toArray X₁ hg hsize hdg hW (X₁.named hnamed) (hpre vm₁ X₁.warmed)
  exact ⟨v, vm₁, B, X₁.warmed, X', hpost, fun target h => hstep₁ _ fun acts => by rw [doInvoke_state]; exact hsteps.trans h⟩
theorem vx_runSW {y : MethodName} {bytes cc : ByteArray} {maxL nL mc ms n index : Nat} {ret : Option FieldType} {hh : List (Nat × Nat × Nat × Nat)} {ws : List Cond} {rm : Room} {Pc : Array Value → State → Prop} {Qc : Array Value → State → Outcome → State → Prop} {free : Addr → Prop} {Ts : List Cond} {own : String} {As rest : List Value} {g : JFrame}
    (S : CallFix p m c cc nL s args Ts own) (hM : Met l y ws rm Pc Qc mc ms free) (cw : vx_CSW R s args own index y bytes maxL ret hh ws rm mc ms n) (hp : PreS s H Pc As)
    (hg : g.method = m) (hn : As.length = n) (hsize : g.locals.size = nL) (hstack : g.stack = As.reverse ++ rest) (hW : 2 * g.monitorRoom + (rest.map fun v => v.category).sum ≤ 8) (hdg : decode cc g.pc = .ok (.invokestatic index, 3)) (hf : cells + mc ≤ R.cells ∧ slots + ms ≤ R.slots) :
    va_Run p l e R s m args below meth c H locs cells slots mc ms g rest (Qc As.toArray) (free) := by
  obtain ⟨⟨hrc, hrs, hfr, hlo, hws, hcw⟩, hcode, hini, hy, hlen, hl, hstt⟩ := cw
  have hK : Back l R p e below s args y 3 8 (PreOf R mc ms Pc) (PostOf Qc mc ms free) := va_backW (hh := hh) (bytes := bytes) (maxL := maxL) (ret := ret) hM hp.1 hrc hrs hfr hlo hws hcw (fun a' U hW => word_at hW (Or.inl (by first | rfl | simp [Cond.onTables, Cond.keeps, Cond.steady])) hini)
  obtain ⟨hx, hb, hml, ho, -⟩ := S
  intro T hT X
  obtain ⟨v, vm₁, ⟨U', l2, c2, s2⟩, hW₁, X', ⟨g', mk, t, L, e1, e2, hq, h1, hL, h2, h3⟩, st⟩ := vx_callSW X hx (hh := hh) (bytes := bytes) (maxL := maxL) (ret := ret) ho hl hstt hini hcode hy hK hg (hsize.trans hml.symm) (argsL := As) (rest := rest) (fun sig h => hn.trans (hlen sig h)) hstack hW (by rw [hb]; exact hdg)
    (fun vm₁ hW₁ => ⟨hf.1, hf.2, hp.2 (T.setVm vm₁) hT hW₁⟩)
  dsimp only [Pt.U, Pt.locs, Pt.cells, Pt.slots] at X' e1 e2 h1 h2 h3 st
  subst h1; subst h2; subst h3
  exact ⟨v, (T.setVm vm₁).calling g' mk As.toArray, t, U', L, hT, X', hL, e1, e2, hq, st⟩
/-- not caught here, past rows that name other classes: it goes on to the caller -/
theorem vx_outP {p : Program} {l : Launch} {e : Env} {R : Room} {s : State} {m : MethodId} {args : Array Value} {below : List Frame} {meth : Method} {c : Code} {H : Heap} {locs : List Loc} {cells slots : Nat} {free : Addr → Prop} {ls : Array Slot} {rest : List Value} {Qc : Array Value → State → Outcome → State → Prop} {XC : String → State → State → Prop}
    {pc : Nat} {own E : String} {ce : Cell} {q : Addr} {mc ms : Nat} (hown : s.vm.findClass own = some m.cls) (hlocks : meth.locks = false)
    (hpass : ∀ z ∈ c.exceptionTable.toList, covers z pc = false ∨ (z.catchType ≠ 0 ∧ ∃ nm : String, (Cond.classLink own z.catchType nm).before args s = true ∧ va_Nc E nm s)) (hcell : H[q]? = some ce) (hv : ce.vm = .none) (hcl : s.vm.findClass E = some ce.cls)
    (hx : ∀ t : State, t.heap = H → s.vm.Alike t.vm → XC E s t) (hf : ∀ z ∈ locs, free z.base) (hc : cells ≤ mc) (hs : slots ≤ ms) :
    vx_W p l e R s m args below meth c H locs cells slots (vx_MQ below Qc XC args s mc ms free) (F0 m pc ls rest) q := by
  intro T hT X
  have hpl : e.platform.magicAccessors = ({} : Platform).magicAccessors := by rw [X.admits.platform]
  obtain ⟨vm', hW', X', st⟩ := X.outThrough hlocks q (g := F0 m pc ls rest) rfl rfl rfl (cell := ce) (by rw [hT]; exact hcell) (by rw [hv]; rfl)
    (by obtain ⟨k9, h9, -⟩ := Vm.findClass_spec hcl; exact ⟨k9, h9⟩) (fun z hz => by
      rcases hpass z hz with h | ⟨hz0, nm, hl1, hn1⟩
      · exact Or.inl h
      · obtain ⟨c6, hc6, hcl6⟩ := Cond.classLink_spec hown hl1 e.platform hpl
        obtain ⟨a8, b8, h1, h2, h3⟩ := hn1
        cases Option.some.inj (h1.symm.trans hcl)
        cases Option.some.inj (h2.symm.trans hc6)
        exact Or.inr ⟨hz0, _, hcl6, h3⟩)
  obtain ⟨g₀, hfr⟩ := X'.frames_eq
  have hcell9 : ((T.setVm vm').setFrames (.throwing q :: below)).heap[q]? = some ce := by
    show T.heap[q]? = some ce
    rw [hT]; exact hcell
  have hend : Ended ((T.setVm vm').setFrames (.throwing q :: below)) below (.threw q) := State.frames_setFrames _ (State.cur_lt_of_frames hfr)
  refine ⟨(T.setVm vm').setFrames (.throwing q :: below), ?_, .threw q, X'.here.running, hend, Or.inr ⟨q, rfl, E, ce, locs, hx _ hT (X'.ends _).1.alike, hcell9, hv, hcl, (X'.ends _).1, (X'.ends _).2.mono hc hs, hf⟩⟩
  rw [X.pushThrowing_eq]
  exact st
/-- a thing of a world lies in the heap -/
theorem vx_lt {D : va_G} {cl : List vw_C} {ws : va_W} {H1 : Heap} (h : va_P D cl ws H1) {k : Nat} {q : Nat × va_E} (hk : ws[k]? = some q) : q.1 < H1.size := (h k q hk).lt
end VXS
/-! ===== END ===== -/
end
section
/-! THE SMALL MACHINE: the system's objects lie at fixed numbers, all that changes is one memory of Int32; a method's walk is the
    weakest precondition of its table, computed. Values: an int, an object by its number, a long that is some int made long. -/
abbrev AV : Type := Int32 ⊕ (Nat ⊕ Int32)
abbrev Mem : Type := Nat → Nat → Int32
abbrev OC : Type := (Option AV × Mem) ⊕ (String × Mem)
/-- the base address, the classes, the objects' addresses, the array classes, and int to long (a name of its own: kept closed) -/
abbrev GT : Type := Nat × va_G × (Nat → Nat) × ClassId × ClassId × ClassId × (Int32 → Int64)
def st (σ : Mem) (o k : Nat) (v : Int32) : Mem := fun a => if a = o then upd (σ o) k v else σ a
def gA (g : GT) : Nat → Prop := fun q => g.1 ≤ q
def gil (g : GT) : Int32 → Int64 := g.2.2.2.2.2.2
def gad (g : GT) (k : Nat) : Nat := g.2.2.1 k
def cv (g : GT) : AV → Value := fun v => match v with
  | .inl x => .int x
  | .inr (.inl k) => .ref (gad g k)
  | .inr (.inr x) => .long (gil g x)
def fo (g : GT) (σ : Mem) : Nat → List Value := fun ci => match ci with
  | 0 => [.ref (gad g 1), .ref (gad g 4), .ref (gad g 5), .ref (gad g 6)]
  | 1 => [.ref (gad g 2), .ref (gad g 3), .int (σ 1 2), .int (σ 1 3), .int (σ 1 4)]
  | _ => [.int (σ 7 0), .int (σ 7 1), .ref (gad g 8), .ref (gad g 9), .ref (gad g 10), .ref (gad g 11), .ref (gad g 12), .ref (gad g 13), .ref (gad g 14), .int (σ 7 9), .int (σ 7 10), .int (σ 7 11), .int (σ 7 12)]
def gI (g : GT) : ClassId := g.2.2.2.1
def gB (g : GT) : ClassId := g.2.2.2.2.1
def gL (g : GT) : ClassId := g.2.2.2.2.2.1
def gtys (g : GT) : List (ClassId × FieldType) := [(gI g, .int), (gB g, .boolean), (gL g, .long)]
def ew (g : GT) (σ : Mem) : Nat → va_E := fun o => match o with
  | 0 => .inr (0, fo g σ 0)
  | 1 => .inr (1, fo g σ 1)
  | 2 => .inl (gI g, 274, .inl (σ 2))
  | 3 => .inl (gI g, 8, .inl (σ 3))
  | 4 => .inl (gI g, 86, .inl (σ 4))
  | 5 => .inl (gI g, 258, .inl (σ 5))
  | 6 => .inl (gI g, 257, .inl (σ 6))
  | 7 => .inr (2, fo g σ 2)
  | 8 => .inl (gI g, 86, .inl (σ 8))
  | 9 => .inl (gI g, 86, .inl (σ 9))
  | 10 => .inl (gB g, 86, .inl (σ 10))
  | 11 => .inl (gI g, 86, .inl (σ 11))
  | 12 => .inl (gB g, 86, .inl (σ 12))
  | 13 => .inl (gI g, 257, .inl (σ 13))
  | 14 => .inl (gI g, 8, .inl (σ 14))
  | _ => .inl (gL g, 1, .inr (.inl (fun j => gil g (σ 15 j))))
def mw (g : GT) (σ : Mem) : va_W := [(gad g 0, ew g σ 0), (gad g 1, ew g σ 1), (gad g 2, ew g σ 2), (gad g 3, ew g σ 3), (gad g 4, ew g σ 4), (gad g 5, ew g σ 5), (gad g 6, ew g σ 6), (gad g 7, ew g σ 7), (gad g 8, ew g σ 8), (gad g 9, ew g σ 9), (gad g 10, ew g σ 10), (gad g 11, ew g σ 11), (gad g 12, ew g σ 12), (gad g 13, ew g σ 13), (gad g 14, ew g σ 14), (gad g 15, ew g σ 15)]
/-- an array's kind (1 int, 2 boolean, 3 long) and length -/
def ak : Nat → Nat × Nat := fun o => match o with
  | 2 => (1, 274) | 3 => (1, 8) | 4 => (1, 86) | 5 => (1, 258) | 6 => (1, 257) | 8 => (1, 86) | 9 => (1, 86) | 10 => (2, 86) | 11 => (1, 86) | 12 => (2, 86) | 13 => (1, 257) | 14 => (1, 8) | 15 => (3, 1) | _ => (0, 0)
theorem mw_int (g : GT) (σ : Mem) (o : Nat) (h : (ak o).1 = 1) : (mw g σ)[o]? = some (gad g o, .inl (gI g, (ak o).2, .inl (σ o))) := by
  match o, h with
  | 2, _ | 3, _ | 4, _ | 5, _ | 6, _ | 8, _ | 9, _ | 11, _ | 13, _ | 14, _ => rfl
  | 0, h | 1, h | 7, h | 10, h | 12, h | 15, h => exact absurd h (by decide)
  | n + 16, h => exact absurd (show (0 : Nat) = 1 from h) (by decide)
theorem mw_bool (g : GT) (σ : Mem) (o : Nat) (h : (ak o).1 = 2) : (mw g σ)[o]? = some (gad g o, .inl (gB g, (ak o).2, .inl (σ o))) := by
  match o, h with
  | 10, _ | 12, _ => rfl
  | 0, h | 1, h | 2, h | 3, h | 4, h | 5, h | 6, h | 7, h | 8, h | 9, h | 11, h | 13, h | 14, h | 15, h => exact absurd h (by decide)
  | n + 16, h => exact absurd (show (0 : Nat) = 2 from h) (by decide)
theorem mw_setInt (g : GT) (σ : Mem) (o k : Nat) (v : Int32) (h : (ak o).1 = 1) : (mw g σ).set o (gad g o, .inl (gI g, (ak o).2, .inl (upd (σ o) k v))) = mw g (st σ o k v) := by
  match o, h with
  | 2, _ | 3, _ | 4, _ | 5, _ | 6, _ | 8, _ | 9, _ | 11, _ | 13, _ | 14, _ => rfl
  | 0, h | 1, h | 7, h | 10, h | 12, h | 15, h => exact absurd h (by decide)
  | n + 16, h => exact absurd (show (0 : Nat) = 1 from h) (by decide)
theorem mw_setBool (g : GT) (σ : Mem) (o k : Nat) (v : Int32) (h : (ak o).1 = 2) : (mw g σ).set o (gad g o, .inl (gB g, (ak o).2, .inl (upd (σ o) k v))) = mw g (st σ o k v) := by
  match o, h with
  | 10, _ | 12, _ => rfl
  | 0, h | 1, h | 2, h | 3, h | 4, h | 5, h | 6, h | 7, h | 8, h | 9, h | 11, h | 13, h | 14, h | 15, h => exact absurd h (by decide)
  | n + 16, h => exact absurd (show (0 : Nat) = 2 from h) (by decide)
theorem st_self (σ : Mem) (o k : Nat) (v : Int32) : (st σ o k v) o = upd (σ o) k v := if_pos rfl
theorem st_ne (σ : Mem) {o a : Nat} (k : Nat) (v : Int32) (h : a ≠ o) : (st σ o k v) a = σ a := if_neg h
theorem mw_setLong (g : GT) (σ : Mem) (k : Nat) (v : Int32) : (mw g σ).set 15 (gad g 15, .inl (gL g, 1, .inr (.inl (vp_updL (fun j => gil g (σ 15 j)) k (gil g v))))) = mw g (st σ 15 k v) := by
  have e : vp_updL (fun j => gil g (σ 15 j)) k (gil g v) = fun j => gil g ((st σ 15 k v) 15 j) := by
    funext j
    rw [st_self]
    unfold vp_updL upd
    by_cases hj : j = k
    · rw [if_pos hj, if_pos hj]
    · rw [if_neg hj, if_neg hj]
  rw [e]; rfl
/-- a class's object, fields, names -/
def ob : Nat → Nat := fun ci => match ci with | 0 => 0 | 1 => 1 | _ => 7
def cR : Nat → String := fun ci => match ci with | 0 => R_X | 1 => R_D | _ => R_M
def cF : Nat → u_T := fun ci => match ci with | 0 => F_X | 1 => F_D | _ => F_M
def cN : Nat → Nat := fun ci => match ci with | 0 => 4 | 1 => 5 | _ => 13
def ct : Nat → Nat → FieldType := fun ci => match ci with | 0 => t_X | 1 => t_D | _ => t_M
def fav (σ : Mem) (ci k : Nat) : Option AV := match ci with
  | 0 => (match k with | 0 => some (.inr (.inl 1)) | 1 => some (.inr (.inl 4)) | 2 => some (.inr (.inl 5)) | 3 => some (.inr (.inl 6)) | _ => none)
  | 1 => (match k with | 0 => some (.inr (.inl 2)) | 1 => some (.inr (.inl 3)) | 2 => some (.inl (σ 1 2)) | 3 => some (.inl (σ 1 3)) | 4 => some (.inl (σ 1 4)) | _ => none)
  | 2 => (match k with | 0 => some (.inl (σ 7 0)) | 1 => some (.inl (σ 7 1)) | 2 => some (.inr (.inl 8)) | 3 => some (.inr (.inl 9)) | 4 => some (.inr (.inl 10)) | 5 => some (.inr (.inl 11)) | 6 => some (.inr (.inl 12)) | 7 => some (.inr (.inl 13)) | 8 => some (.inr (.inl 14)) | 9 => some (.inl (σ 7 9)) | 10 => some (.inl (σ 7 10)) | 11 => some (.inl (σ 7 11)) | 12 => some (.inl (σ 7 12)) | _ => none)
  | _ => none
/-- a field that may be written: 1 an int, 2 a boolean -/
def fw (ci k : Nat) : Nat := match ci with
  | 1 => (match k with | 2 => 1 | 3 => 1 | 4 => 2 | _ => 0)
  | 2 => (match k with | 0 => 1 | 1 => 1 | 9 => 1 | 10 => 1 | 11 => 2 | 12 => 1 | _ => 0)
  | _ => 0
theorem fav_spec (g : GT) (σ : Mem) {ci k : Nat} {v : AV} (h : fav σ ci k = some v) : ci < 3 ∧ k < cN ci ∧ (fo g σ ci)[k]? = some (cv g v) := by
  match ci, k, h with
  | 0, 0, h | 0, 1, h | 0, 2, h | 0, 3, h => cases h; exact ⟨by decide, by decide, rfl⟩
  | 0, n + 4, h => cases h
  | 1, 0, h | 1, 1, h | 1, 2, h | 1, 3, h | 1, 4, h => cases h; exact ⟨by decide, by decide, rfl⟩
  | 1, n + 5, h => cases h
  | 2, 0, h | 2, 1, h | 2, 2, h | 2, 3, h | 2, 4, h | 2, 5, h | 2, 6, h | 2, 7, h | 2, 8, h | 2, 9, h | 2, 10, h | 2, 11, h | 2, 12, h => cases h; exact ⟨by decide, by decide, rfl⟩
  | 2, n + 13, h => cases h
  | n + 3, _, h => cases h
theorem fw_spec (g : GT) (σ : Mem) (v : Int32) {ci k : Nat} (h : fw ci k ≠ 0) : ci < 3 ∧ k < cN ci ∧ k < (fo g σ ci).length ∧ (cF ci k).2.2.2 = false ∧
    (mw g σ).set (ob ci) (gad g (ob ci), .inr (ci, (fo g σ ci).set k (.int v))) = mw g (st σ (ob ci) k v) ∧ parseFieldDescriptor (cF ci k).2.2.1 = some (if fw ci k = 2 then .boolean else .int) := by
  match ci, k, h with
  | 0, _, h => exact absurd rfl h
  | 1, 2, h => exact ⟨by decide, by decide, Nat.le_of_ble_eq_true rfl, rfl, rfl, by decide +kernel⟩
  | 1, 3, h => exact ⟨by decide, by decide, Nat.le_of_ble_eq_true rfl, rfl, rfl, by decide +kernel⟩
  | 1, 4, h => exact ⟨by decide, by decide, Nat.le_of_ble_eq_true rfl, rfl, rfl, by decide +kernel⟩
  | 1, 0, h | 1, 1, h => exact absurd rfl h
  | 1, n + 5, h => exact absurd rfl h
  | 2, 0, h => exact ⟨by decide, by decide, Nat.le_of_ble_eq_true rfl, rfl, rfl, by decide +kernel⟩
  | 2, 1, h => exact ⟨by decide, by decide, Nat.le_of_ble_eq_true rfl, rfl, rfl, by decide +kernel⟩
  | 2, 9, h => exact ⟨by decide, by decide, Nat.le_of_ble_eq_true rfl, rfl, rfl, by decide +kernel⟩
  | 2, 10, h => exact ⟨by decide, by decide, Nat.le_of_ble_eq_true rfl, rfl, rfl, by decide +kernel⟩
  | 2, 11, h => exact ⟨by decide, by decide, Nat.le_of_ble_eq_true rfl, rfl, rfl, by decide +kernel⟩
  | 2, 12, h => exact ⟨by decide, by decide, Nat.le_of_ble_eq_true rfl, rfl, rfl, by decide +kernel⟩
  | 2, 2, h | 2, 3, h | 2, 4, h | 2, 5, h | 2, 6, h | 2, 7, h | 2, 8, h => exact absurd rfl h
  | 2, n + 13, h => exact absurd rfl h
  | n + 3, _, h => exact absurd rfl h
theorem mw_ob (g : GT) (σ : Mem) {ci : Nat} (h : ci < 3) : (mw g σ)[ob ci]? = some (gad g (ob ci), .inr (ci, fo g σ ci)) ∧ classes[ci]? = some (cR ci, cF ci, cN ci) := by
  match ci, h with
  | 0, _ | 1, _ | 2, _ => exact ⟨rfl, rfl⟩
theorem c_in {ci : Nat} (h : ci < 3) : (∀ w ∈ u_ws (cR ci) (cF ci) (cN ci), w ∈ lw_tbl) ∧ (∀ k, k < cN ci → parseFieldDescriptor (cF ci k).2.2.1 = some (ct ci k)) ∧ (∀ a, a < cN ci → ∀ b, b < cN ci → a ≠ b → (cF ci a).2.1 ≠ (cF ci b).2.1) := by
  match ci, h with
  | 0, _ => exact ⟨i_X, t_X_ok, n_X⟩
  | 1, _ => exact ⟨i_D, t_D_ok, n_D⟩
  | 2, _ => exact ⟨i_M, t_M_ok, n_M⟩
theorem u_good (C : String) (T : u_T) (N : Nat) : ∀ w ∈ u_ws C T N, goodWord w = true := by
  intro w hw
  obtain ⟨k, -, rfl⟩ := List.mem_map.mp hw
  unfold u_lay
  split <;> rfl
theorem c_inG {ci : Nat} (h : ci < 3) : ∀ w ∈ u_ws (cR ci) (cF ci) (cN ci), w ∈ gtbl := fun w hw => List.mem_filter.mpr ⟨(c_in h).1 w hw, u_good _ _ _ w hw⟩
end
section
/-! locals and stacks -/
def lg : List (Option AV) → Nat → Option AV
  | [], _ => none
  | x :: _, 0 => x
  | _ :: l, n + 1 => lg l n
def lset : List (Option AV) → Nat → AV → List (Option AV)
  | [], _, _ => []
  | _ :: l, 0, v => some v :: l
  | x :: l, n + 1, v => x :: lset l n v
theorem lset_len : ∀ (L : List (Option AV)) (i : Nat) (v : AV), (lset L i v).length = L.length
  | [], _, _ => rfl
  | _ :: _, 0, _ => rfl
  | _ :: l, n + 1, v => congrArg (· + 1) (lset_len l n v)
theorem lg_lset : ∀ (L : List (Option AV)) (i j : Nat) (v w : AV), lg (lset L i v) j = some w → (j = i ∧ w = v) ∨ (j ≠ i ∧ lg L j = some w)
  | [], _, _, _, _, h => by cases h
  | _ :: _, 0, 0, v, w, h => by cases h; exact Or.inl ⟨rfl, rfl⟩
  | _ :: _, 0, _ + 1, _, _, h => Or.inr ⟨by omega, h⟩
  | _ :: _, _ + 1, 0, _, _, h => Or.inr ⟨by omega, h⟩
  | _ :: l, n + 1, j + 1, v, w, h => by
    rcases lg_lset l n j v w h with ⟨h1, h2⟩ | ⟨h1, h2⟩
    · exact Or.inl ⟨by omega, h2⟩
    · exact Or.inr ⟨by omega, h2⟩
def noL : AV → Prop := fun v => match v with | .inr (.inr _) => False | _ => True
def LH (g : GT) (ls : Array Slot) (nL : Nat) (L : List (Option AV)) : Prop := lv_has ls nL [] ∧ ∀ (i : Nat) (v : AV), lg L i = some v → ls[i]? = some (.val (cv g v)) ∧ noL v
theorem cat1 {g : GT} {v : AV} (h : noL v) : (cv g v).category = 1 := by
  match v, h with
  | .inl _, _ => rfl
  | .inr (.inl _), _ => rfl
  | .inr (.inr _), h => exact h.elim
theorem catle (g : GT) (v : AV) : (cv g v).category ≤ 2 := by
  match v with
  | .inl _ => exact Nat.le_succ 1
  | .inr (.inl _) => exact Nat.le_succ 1
  | .inr (.inr _) => exact Nat.le_refl 2
theorem catsum (g : GT) : ∀ (l : List AV), ((l.map (cv g)).map fun v => v.category).sum ≤ 2 * l.length
  | [] => Nat.le_refl 0
  | v :: l => by
    have h1 := catsum g l
    have h2 := catle g v
    simp only [List.map_cons, List.sum_cons, List.length_cons]
    omega
/-- the listed values: all that L holds -/
def lvl (g : GT) : Nat → List (Option AV) → List (Nat × Value)
  | _, [] => []
  | k, none :: l => lvl g (k + 1) l
  | k, some v :: l => (k, cv g v) :: lvl g (k + 1) l
theorem lvl_mem (g : GT) : ∀ (L : List (Option AV)) (k : Nat) (q : Nat × Value), q ∈ lvl g k L → ∃ v, k ≤ q.1 ∧ lg L (q.1 - k) = some v ∧ q.2 = cv g v
  | [], k, q, h => by cases h
  | none :: l, k, q, h => by
    obtain ⟨v, h1, h2, h3⟩ := lvl_mem g l (k + 1) q h
    refine ⟨v, by omega, ?_, h3⟩
    rw [show q.1 - k = (q.1 - (k + 1)) + 1 by omega]
    exact h2
  | some v :: l, k, q, h => by
    rcases List.mem_cons.mp h with rfl | h
    · exact ⟨v, Nat.le_refl k, by rw [Nat.sub_self]; rfl, rfl⟩
    · obtain ⟨w, h1, h2, h3⟩ := lvl_mem g l (k + 1) q h
      refine ⟨w, by omega, ?_, h3⟩
      rw [show q.1 - k = (q.1 - (k + 1)) + 1 by omega]
      exact h2
theorem lvl_in (g : GT) : ∀ (L : List (Option AV)) (k j : Nat) (v : AV), lg L j = some v → (k + j, cv g v) ∈ lvl g k L
  | [], _, _, _, h => by cases h
  | none :: l, k, 0, v, h => by cases h
  | none :: l, k, j + 1, v, h => by
    have := lvl_in g l (k + 1) j v h
    rw [show k + 1 + j = k + (j + 1) by omega] at this
    exact this
  | some w :: l, k, 0, v, h => by cases h; exact List.mem_cons_self
  | some w :: l, k, j + 1, v, h => by
    have := lvl_in g l (k + 1) j v h
    rw [show k + 1 + j = k + (j + 1) by omega] at this
    exact List.mem_cons_of_mem _ this
theorem LH.list {g : GT} {ls : Array Slot} {nL : Nat} {L : List (Option AV)} (h : LH g ls nL L) : lv_has ls nL (lvl g 0 L) := by
  refine ⟨h.1.1, h.1.2.1, fun q hq => ?_⟩
  obtain ⟨v, -, h2, h3⟩ := lvl_mem g L 0 q hq
  rw [Nat.sub_zero] at h2
  rw [h3]
  exact (h.2 _ v h2).1
theorem LH.back {g : GT} {ls ls' : Array Slot} {nL : Nat} {L : List (Option AV)} {i : Nat} {v : AV} (h : LH g ls nL L) (hv : noL v)
    (h' : lv_has ls' nL ((i, cv g v) :: (lvl g 0 L).filter (fun q => !(q.1 == i) && !(q.1 + 1 == i && q.2.category == 2)))) : LH g ls' nL (lset L i v) := by
  refine ⟨⟨h'.1, h'.2.1, fun q hq => by cases hq⟩, fun j w hw => ?_⟩
  rcases lg_lset L i j v w hw with ⟨rfl, rfl⟩ | ⟨h1, h2⟩
  · exact ⟨h'.2.2 _ List.mem_cons_self, hv⟩
  · have hn := (h.2 j w h2).2
    have hm := lvl_in g L 0 j w h2
    rw [Nat.zero_add] at hm
    refine ⟨h'.2.2 (j, cv g w) (List.mem_cons_of_mem _ (List.mem_filter.mpr ⟨hm, ?_⟩)), hn⟩
    have c1 := cat1 (g := g) hn
    simp [c1, h1]
/-! tables -/
abbrev TE : Type := Instr × Nat × Nat × Int32
abbrev CTy : Type := List AV → Mem → (Option AV → Mem → Prop) → (String → Mem → Prop) → Prop
/-- a method: bytes, locals, class, return type, depth, table, fields by index, callees by index (receiver, 99 where there is none; arguments; contract), throws by place -/
abbrev MI : Type := ByteArray × Nat × String × Option FieldType × Nat × (Nat → Option TE) × List (Nat × (Nat × Nat)) × List (Nat × (Nat × Nat × CTy)) × List (Nat × String)
def m_cc (M : MI) : ByteArray := M.1
def m_nL (M : MI) : Nat := M.2.1
def m_own (M : MI) : String := M.2.2.1
def m_ret (M : MI) : Option FieldType := M.2.2.2.1
def m_d (M : MI) : Nat := M.2.2.2.2.1
def m_tb (M : MI) : Nat → Option TE := M.2.2.2.2.2.1
def m_fl (M : MI) : List (Nat × (Nat × Nat)) := M.2.2.2.2.2.2.1
def m_cal (M : MI) : List (Nat × (Nat × Nat × CTy)) := M.2.2.2.2.2.2.2.1
def m_tr (M : MI) : List (Nat × String) := M.2.2.2.2.2.2.2.2
def lk {β : Type} : List (Nat × β) → Nat → Option β
  | [], _ => none
  | q :: l, i => cond (Nat.beq q.1 i) (some q.2) (lk l i)
theorem lk_mem {β : Type} : ∀ {l : List (Nat × β)} {i : Nat} {b : β}, lk l i = some b → (i, b) ∈ l
  | [], _, _, h => by cases h
  | q :: l, i, b, h => by
    unfold lk at h
    cases e : Nat.beq q.1 i with
    | true =>
      rw [e] at h
      have h1 : some q.2 = some b := h
      cases h1
      rw [← Nat.eq_of_beq_eq_true e]
      exact List.mem_cons_self
    | false =>
      rw [e] at h
      exact List.mem_cons_of_mem _ (lk_mem h)
def nin : Nat → List Nat → Bool
  | _, [] => false
  | a, b :: l => cond (Nat.beq a b) true (nin a l)
def ck2 (nL pc : Nat) (q : TE) : Bool := match q.1 with
  | .iconst n => q.2.1 == pc + 1 && decide (Int32.ofInt n = q.2.2.2)
  | .bipush n => q.2.1 == pc + 2 && decide ((Int8.ofInt n).toInt32 = q.2.2.2)
  | .sipush n => q.2.1 == pc + 3 && decide ((Int16.ofInt n).toInt32 = q.2.2.2)
  | .iload i => q.2.1 == pc + 2 && i == q.2.2.1
  | .aload i => q.2.1 == pc + 2 && i == q.2.2.1
  | .iload_n k => q.2.1 == pc + 1 && k.val == q.2.2.1
  | .aload_n k => q.2.1 == pc + 1 && k.val == q.2.2.1
  | .istore i => q.2.1 == pc + 2 && (i == q.2.2.1 && decide (q.2.2.1 < nL))
  | .astore i => q.2.1 == pc + 2 && (i == q.2.2.1 && decide (q.2.2.1 < nL))
  | .istore_n k => q.2.1 == pc + 1 && (k.val == q.2.2.1 && decide (q.2.2.1 < nL))
  | .astore_n k => q.2.1 == pc + 1 && (k.val == q.2.2.1 && decide (q.2.2.1 < nL))
  | .iinc i n => q.2.1 == pc + 3 && (i == q.2.2.1 && (decide (q.2.2.1 < nL) && decide (Int32.ofInt n = q.2.2.2)))
  | .iadd => q.2.1 == pc + 1
  | .isub => q.2.1 == pc + 1
  | .imul => q.2.1 == pc + 1
  | .ineg => q.2.1 == pc + 1
  | .idiv => q.2.1 == pc + 1
  | .irem => q.2.1 == pc + 1
  | .iand => q.2.1 == pc + 1
  | .dup => q.2.1 == pc + 1
  | .pop => q.2.1 == pc + 1
  | .i2l => q.2.1 == pc + 1
  | .lcmp => q.2.1 == pc + 1
  | .iaload => q.2.1 == pc + 1
  | .baload => q.2.1 == pc + 1
  | .laload => q.2.1 == pc + 1
  | .iastore => q.2.1 == pc + 1
  | .bastore => q.2.1 == pc + 1
  | .lastore => q.2.1 == pc + 1
  | .arraylength => q.2.1 == pc + 1
  | .getfield _ => q.2.1 == pc + 3
  | .putfield _ => q.2.1 == pc + 3
  | .invokevirtual _ => q.2.1 == pc + 3
  | .invokestatic _ => q.2.1 == pc + 3
  | .ireturn => q.2.1 == pc + 1
  | .return_ => q.2.1 == pc + 1
  | .goto off => q.2.1 == pc + 3 && decide ((pc : Int) + off = (q.2.2.1 : Int))
  | .if_icmp _ off => q.2.1 == pc + 3 && decide ((pc : Int) + off = (q.2.2.1 : Int))
  | .ifCond _ off => q.2.1 == pc + 3 && decide ((pc : Int) + off = (q.2.2.1 : Int))
  | _ => true
def chk (cc : ByteArray) (nL pc : Nat) (q : TE) : Bool := decide (decode cc pc = .ok (q.1, q.2.1 - pc)) && ck2 nL pc q
/-- a table by its program: guarded by the code's length -/
def tbl_of (n : Nat) (f : Nat → Option TE) : Nat → Option TE := fun pc => cond (Nat.blt pc n) (f pc) none
theorem tbl_ok {cc : ByteArray} {nL n : Nat} {f : Nat → Option TE} (h : (List.range n).all (fun pc => match f pc with | none => true | some q => chk cc nL pc q) = true) :
    ∀ pc q, tbl_of n f pc = some q → chk cc nL pc q = true := by
  intro pc q hq
  unfold tbl_of at hq
  cases e : Nat.blt pc n with
  | false => rw [e] at hq; cases hq
  | true =>
    rw [e] at hq
    have hq' : f pc = some q := hq
    have h1 := List.all_eq_true.mp h pc (List.mem_range.mpr (Nat.le_of_ble_eq_true e))
    rw [hq'] at h1
    exact h1
/-! the step -/
section STP
def s1 (S : List AV) (f : Int32 → List AV → Prop) : Prop := match S with | .inl y :: r => f y r | _ => False
def s2 (S : List AV) (f : Int32 → Int32 → List AV → Prop) : Prop := match S with | .inl y :: .inl x :: r => f y x r | _ => False
def sr (S : List AV) (f : Nat → List AV → Prop) : Prop := match S with | .inr (.inl o) :: r => f o r | _ => False
def sa2 (S : List AV) (f : Int32 → Nat → List AV → Prop) : Prop := match S with | .inl i :: .inr (.inl o) :: r => f i o r | _ => False
def sa3 (S : List AV) (f : Int32 → Int32 → Nat → List AV → Prop) : Prop := match S with | .inl v :: .inl i :: .inr (.inl o) :: r => f v i o r | _ => False
def sl2 (S : List AV) (f : Int32 → Int32 → List AV → Prop) : Prop := match S with | .inr (.inr y) :: .inr (.inr x) :: r => f y x r | _ => False
def sl3 (S : List AV) (f : Int32 → Int32 → Nat → List AV → Prop) : Prop := match S with | .inr (.inr v) :: .inl i :: .inr (.inl o) :: r => f v i o r | _ => False
def li (x : Option AV) (f : Int32 → Prop) : Prop := match x with | some (.inl y) => f y | _ => False
def lr (x : Option AV) (f : Nat → Prop) : Prop := match x with | some (.inr (.inl o)) => f o | _ => False
theorem s1_el {S : List AV} {f : Int32 → List AV → Prop} (h : s1 S f) : ∃ y r, S = .inl y :: r ∧ f y r := by
  match S, h with
  | .inl y :: r, h => exact ⟨y, r, rfl, h⟩
theorem s2_el {S : List AV} {f : Int32 → Int32 → List AV → Prop} (h : s2 S f) : ∃ y x r, S = .inl y :: .inl x :: r ∧ f y x r := by
  match S, h with
  | .inl y :: .inl x :: r, h => exact ⟨y, x, r, rfl, h⟩
theorem sr_el {S : List AV} {f : Nat → List AV → Prop} (h : sr S f) : ∃ o r, S = .inr (.inl o) :: r ∧ f o r := by
  match S, h with
  | .inr (.inl o) :: r, h => exact ⟨o, r, rfl, h⟩
theorem sa2_el {S : List AV} {f : Int32 → Nat → List AV → Prop} (h : sa2 S f) : ∃ i o r, S = .inl i :: .inr (.inl o) :: r ∧ f i o r := by
  match S, h with
  | .inl i :: .inr (.inl o) :: r, h => exact ⟨i, o, r, rfl, h⟩
theorem sa3_el {S : List AV} {f : Int32 → Int32 → Nat → List AV → Prop} (h : sa3 S f) : ∃ v i o r, S = .inl v :: .inl i :: .inr (.inl o) :: r ∧ f v i o r := by
  match S, h with
  | .inl v :: .inl i :: .inr (.inl o) :: r, h => exact ⟨v, i, o, r, rfl, h⟩
theorem sl2_el {S : List AV} {f : Int32 → Int32 → List AV → Prop} (h : sl2 S f) : ∃ y x r, S = .inr (.inr y) :: .inr (.inr x) :: r ∧ f y x r := by
  match S, h with
  | .inr (.inr y) :: .inr (.inr x) :: r, h => exact ⟨y, x, r, rfl, h⟩
theorem sl3_el {S : List AV} {f : Int32 → Int32 → Nat → List AV → Prop} (h : sl3 S f) : ∃ v i o r, S = .inr (.inr v) :: .inl i :: .inr (.inl o) :: r ∧ f v i o r := by
  match S, h with
  | .inr (.inr v) :: .inl i :: .inr (.inl o) :: r, h => exact ⟨v, i, o, r, rfl, h⟩
theorem li_el {x : Option AV} {f : Int32 → Prop} (h : li x f) : ∃ y, x = some (.inl y) ∧ f y := by
  match x, h with
  | some (.inl y), h => exact ⟨y, rfl, h⟩
theorem lr_el {x : Option AV} {f : Nat → Prop} (h : lr x f) : ∃ o, x = some (.inr (.inl o)) ∧ f o := by
  match x, h with
  | some (.inr (.inl o)), h => exact ⟨o, rfl, h⟩
def om {α : Type} (x : Option α) (f : α → Prop) : Prop := match x with | some y => f y | none => False
def sn (S : List AV) (A : Prop) : Prop := match S with | [] => A | _ => False
theorem om_el {α : Type} {x : Option α} {f : α → Prop} (h : om x f) : ∃ y, x = some y ∧ f y := by
  match x, h with
  | some y, h => exact ⟨y, rfl, h⟩
theorem sn_el {S : List AV} {A : Prop} (h : sn S A) : S = [] ∧ A := by
  match S, h with
  | [], h => exact ⟨rfl, h⟩
def br (c : Jvm.ClassFile.Cond) (x y : Int32) (A B : Prop) : Prop := match c with
  | .eq => (x = y → A) ∧ (¬ x = y → B)
  | .ne => (¬ x = y → A) ∧ (x = y → B)
  | .lt => (x < y → A) ∧ (¬ x < y → B)
  | .ge => (y ≤ x → A) ∧ (¬ y ≤ x → B)
  | .gt => (y < x → A) ∧ (¬ y < x → B)
  | .le => (x ≤ y → A) ∧ (¬ x ≤ y → B)
def akc (o k : Nat) (f : Nat → Prop) : Prop := match ak o with | (k', n) => cond (Nat.beq k' k) (f n) False
theorem akc_el {o k : Nat} {f : Nat → Prop} (h : akc o k f) : (ak o).1 = k ∧ f (ak o).2 := by
  unfold akc at h
  cases e : Nat.beq (ak o).1 k with
  | true =>
    have h' : cond (Nat.beq (ak o).1 k) (f (ak o).2) False := h
    rw [e] at h'
    exact ⟨Nat.eq_of_beq_eq_true e, h'⟩
  | false =>
    have h' : cond (Nat.beq (ak o).1 k) (f (ak o).2) False := h
    rw [e] at h'
    exact h'.elim
def stp (M : MI) (q : TE) (pc : Nat) (L : List (Option AV)) (S : List AV) (σ : Mem) (K : Nat → List (Option AV) → List AV → Mem → Prop) (Rt : Option AV → Mem → Prop) (Th : Nat → String → Mem → Prop) : Prop := match q with | (ig, nx, a, c) => (match ig with
  | .iconst _ => K nx L (.inl c :: S) σ
  | .bipush _ => K nx L (.inl c :: S) σ
  | .sipush _ => K nx L (.inl c :: S) σ
  | .iload _ => li (lg L a) fun x => K nx L (.inl x :: S) σ
  | .iload_n _ => li (lg L a) fun x => K nx L (.inl x :: S) σ
  | .aload _ => lr (lg L a) fun x => K nx L (.inr (.inl x) :: S) σ
  | .aload_n _ => lr (lg L a) fun x => K nx L (.inr (.inl x) :: S) σ
  | .istore _ => s1 S fun x r => K nx (lset L a (.inl x)) r σ
  | .istore_n _ => s1 S fun x r => K nx (lset L a (.inl x)) r σ
  | .astore _ => sr S fun x r => K nx (lset L a (.inr (.inl x))) r σ
  | .astore_n _ => sr S fun x r => K nx (lset L a (.inr (.inl x))) r σ
  | .iinc _ _ => li (lg L a) fun x => K nx (lset L a (.inl (x + c))) S σ
  | .iadd => s2 S fun y x r => K nx L (.inl (x + y) :: r) σ
  | .isub => s2 S fun y x r => K nx L (.inl (x - y) :: r) σ
  | .imul => s2 S fun y x r => K nx L (.inl (x * y) :: r) σ
  | .iand => s2 S fun y x r => K nx L (.inl (x &&& y) :: r) σ
  | .idiv => s2 S fun y x r => ¬ y = 0 ∧ K nx L (.inl (x / y) :: r) σ
  | .irem => s2 S fun y x r => ¬ y = 0 ∧ K nx L (.inl (x - x / y * y) :: r) σ
  | .ineg => s1 S fun x r => K nx L (.inl (-x) :: r) σ
  | .dup => sr S fun o r => K nx L (.inr (.inl o) :: .inr (.inl o) :: r) σ
  | .pop => s1 S fun _ r => K nx L r σ
  | .i2l => s1 S fun x r => K nx L (.inr (.inr x) :: r) σ
  | .lcmp => sl2 S fun y x r => K nx L (.inl (lg_cmp x.toInt64 y.toInt64) :: r) σ
  | .iaload => sa2 S fun i o r => akc o 1 fun n => vp_in i n ∧ K nx L (.inl (σ o i.toNatClampNeg) :: r) σ
  | .baload => sa2 S fun i o r => akc o 2 fun n => vp_in i n ∧ K nx L (.inl (σ o i.toNatClampNeg) :: r) σ
  | .laload => sa2 S fun i o r => cond (Nat.beq o 15) (vp_in i 1 ∧ K nx L (.inr (.inr (σ o i.toNatClampNeg)) :: r) σ) False
  | .iastore => sa3 S fun v i o r => akc o 1 fun n => vp_in i n ∧ K nx L r (st σ o i.toNatClampNeg v)
  | .bastore => sa3 S fun v i o r => akc o 2 fun n => vp_in i n ∧ K nx L r (st σ o i.toNatClampNeg (v &&& 1))
  | .lastore => sl3 S fun v i o r => cond (Nat.beq o 15) (vp_in i 1 ∧ K nx L r (st σ o i.toNatClampNeg v)) False
  | .arraylength => sr S fun o r => akc o 1 fun n => K nx L (.inl (nI n) :: r) σ
  | .getfield ix => sr S fun o r => om (lk (m_fl M) ix) fun z => cond (Nat.beq o (ob z.1)) (om (fav σ z.1 z.2) fun v => K nx L (v :: r) σ) False
  | .putfield ix => sa2 S fun v o r => om (lk (m_fl M) ix) fun z => (match z with | (ci, k) => cond (Nat.beq o (ob ci)) (cond (Nat.beq (fw ci k) 1) (K nx L r (st σ o k v)) (cond (Nat.beq (fw ci k) 2) ((v = 0 ∨ v = 1) ∧ K nx L r (st σ o k v)) False)) False)
  | .goto _ => K a L S σ
  | .if_icmp b _ => s2 S fun y x r => br b x y (K a L r σ) (K nx L r σ)
  | .ifCond b _ => s1 S fun x r => br b x 0 (K a L r σ) (K nx L r σ)
  | .ireturn => s1 S fun x r => sn r (om (m_ret M) fun ty => (match ty with | .int => Rt (some (.inl x)) σ | .boolean => x &&& 1 = x ∧ Rt (some (.inl x)) σ | _ => False))
  | .return_ => sn S (match m_ret M with | none => Rt none σ | some _ => False)
  | .invokevirtual ix => om (lk (m_cal M) ix) fun z => sr (S.drop z.2.1) fun o' r => cond (Nat.beq o' z.1 && (Nat.blt z.1 99 && (Nat.beq (S.take z.2.1).length z.2.1 && Nat.ble r.length 4))) (z.2.2 (S.take z.2.1).reverse σ (fun v σ' => K nx L (v.toList ++ r) σ') (fun E σ' => Th pc E σ')) False
  | .invokestatic ix => om (lk (m_cal M) ix) fun z => cond (Nat.beq z.1 99 && (Nat.beq (S.take z.2.1).length z.2.1 && Nat.ble (S.drop z.2.1).length 4)) (z.2.2 (S.take z.2.1).reverse σ (fun v σ' => K nx L (v.toList ++ S.drop z.2.1) σ') (fun E σ' => Th pc E σ')) False
  | .new _ => sn S (om (lk (m_tr M) pc) fun E => Th pc E σ)
  | _ => False)
/-- up to n steps, the first one always; a step to one of 'stops' ends in K -/
def wpn (M : MI) (stops : List Nat) : Nat → Nat → List (Option AV) → List AV → Mem → (Nat → List (Option AV) → List AV → Mem → Prop) → (Option AV → Mem → Prop) → (Nat → String → Mem → Prop) → Prop
  | 0, pc, L, S, σ, K, _, _ => K pc L S σ
  | n + 1, pc, L, S, σ, K, Rt, Th => om (m_tb M pc) fun q => stp M q pc L S σ (fun pc' L' S' σ' => cond (nin pc' stops) (K pc' L' S' σ') (wpn M stops n pc' L' S' σ' K Rt Th)) Rt Th
end STP
end
section
/-! words that no resolving takes away though they aren't among the good ones -/
def isDC : Jvm.Cond → Bool
  | .castable _ _ => true
  | .declares _ => true
  | _ => false
def dtbl : List Jvm.Cond := lw_tbl.filter isDC
theorem nw_warm {w : Jvm.Cond} (h : isDC w = true) {s U : State} (hW : s.WarmedH U.vm) (hZ : va_Nw w s) : va_Nw w U := by
  cases w <;> first | exact va_Nw.warmC hW hZ | exact va_Nw.warmD hW hZ | exact (Bool.false_ne_true h).elim
theorem nw_tab {w : Jvm.Cond} (h : isDC w = true) : w.onTables = true := by
  cases w <;> first | rfl | exact (Bool.false_ne_true h).elim
/-- the texts of the throws -/
def strs : List (String × Nat × String) := [("RootedWords", 39, "no extent can have so many words"), ("RootedWords", 44, "so many words cannot have so many pointers"), ("RootedWords", 52, "no free extent has so many words"), ("RootedWords", 88, "a pointer is 0 or a used address"), ("RootedWords", 116, "there is no such extent"), ("RootedWords", 146, "the heap is down"), ("RootedWords", 151, "no used extent has this address"), ("RootedWords", 154, "the extent has no such word"), ("RootedWords", 156, "there is no such root"), ("RootedWords$Disk", 38, "the power has failed")]
/-- the classes of exceptions, each apart from the others -/
def eIS : String := "java/lang/IllegalStateException"
def eIA : String := "java/lang/IllegalArgumentException"
def eIO : String := "java/lang/IndexOutOfBoundsException"
def eUO : String := "java/lang/UnsupportedOperationException"
def eNE : String := "java/util/NoSuchElementException"
def ncs : List (String × String) := [(eIA, eIS), (eUO, eIS), (eUO, eIA), (eNE, eIS), (eIO, eIS), (eIO, eNE), (eIA, eNE), (eIA, eIO), (eNE, eIO)]
def KG (g : GT) (U : State) : Prop := va_K g.2.1 classes (gtys g) U ∧ (∀ w ∈ dtbl, va_Nw w U) ∧ (∀ q ∈ strs, ∃ sa, vk_R q.1 q.2.1 q.2.2 sa U) ∧ (∀ q ∈ ncs, va_Nc q.1 q.2 U) ∧
  vx_Zq Bundle.tN "UNASSIGNED_STACK" Bundle.steD (gA g) U U.heap ∧ vx_Zq Bundle.tN "SUPPRESSED_SENTINEL" Bundle.listD (gA g) U U.heap ∧ (∀ σ, va_D (gA g) (mw g σ)) ∧ gil g = Int32.toInt64
/-- the same in a later state whose low cells are as they were -/
theorem KG.go {g : GT} {s U : State} (h : KG g s) (hW : s.WarmedH U.vm) (hq : ∀ q : Nat, q < s.heap.size → ¬ gA g q → U.heap[q]? = s.heap[q]?) : KG g U := by
  obtain ⟨h1, h2, h3, h4, h5, h6, h7, h8⟩ := h
  refine ⟨va_K.moved hW.alike h1, fun w hw => nw_warm (List.mem_filter.mp hw).2 hW (h2 w hw), fun q hq => ?_, fun q hq => va_Nc.moved hW.alike (h4 q hq), vx_Zq.moved hW.alike (h5.kept hq), vx_Zq.moved hW.alike (h6.kept hq), h7, h8⟩
  obtain ⟨sa, h⟩ := h3 q hq
  exact ⟨sa, h.warm hW⟩
theorem KG.blind {g : GT} {U : State} (f : JFrame) (mk : MethodId) (a : Array Value) (h : KG g U) : KG g (U.calling f mk a) := by
  obtain ⟨h1, h2, h3, h4, h5, h6, h7, h8⟩ := h
  refine ⟨va_K.moved (u := U) (U := U.calling f mk a) (Vm.Alike.refl U.vm) h1, fun w hw => va_Nw.same (u := U) (U := U.calling f mk a) (nw_tab (List.mem_filter.mp hw).2) rfl (h2 w hw), fun q hq => ?_, fun q hq => va_Nc.moved (u := U) (U := U.calling f mk a) (Vm.Alike.refl U.vm) (h4 q hq), vx_Zq.moved (u := U) (U := U.calling f mk a) (Vm.Alike.refl U.vm) h5, vx_Zq.moved (u := U) (U := U.calling f mk a) (Vm.Alike.refl U.vm) h6, h7, h8⟩
  obtain ⟨sa, h⟩ := h3 q hq
  exact ⟨sa, h.same rfl⟩
/-! the context of a walk -/
abbrev CT : Type := Program × Launch × Env × Room × State × MethodId × Array Value × List Frame × Method × Code × GT × (State → Prop) × Nat × Nat
def xp (X : CT) : Program := X.1
def xl (X : CT) : Launch := X.2.1
def xe (X : CT) : Env := X.2.2.1
def xR (X : CT) : Room := X.2.2.2.1
def xs (X : CT) : State := X.2.2.2.2.1
def xm (X : CT) : MethodId := X.2.2.2.2.2.1
def xa (X : CT) : Array Value := X.2.2.2.2.2.2.1
def xb (X : CT) : List Frame := X.2.2.2.2.2.2.2.1
def xme (X : CT) : Method := X.2.2.2.2.2.2.2.2.1
def xc (X : CT) : Code := X.2.2.2.2.2.2.2.2.2.1
def xg (X : CT) : GT := X.2.2.2.2.2.2.2.2.2.2.1
def xQ (X : CT) : State → Prop := X.2.2.2.2.2.2.2.2.2.2.2.1
def xk (X : CT) : Nat := X.2.2.2.2.2.2.2.2.2.2.2.2.1
def xn (X : CT) : Nat := X.2.2.2.2.2.2.2.2.2.2.2.2.2
abbrev XW (X : CT) (H : Heap) (locs : List Loc) (gf : JFrame) : Prop := W (xp X) (xl X) (xe X) (xR X) (xs X) (xm X) (xa X) (xb X) (xme X) (xc X) H locs (xk X) (xn X) (xQ X) gf
abbrev wo (X : CT) (σ : Mem) (H : Heap) : Prop := va_P (xg X).2.1 classes (mw (xg X) σ) H
abbrev wS (X : CT) (H : Heap) (locs : List Loc) : Prop := va_S (gA (xg X)) (xs X).heap H locs
def Go (X : CT) (M : MI) (pc : Nat) (L : List (Option AV)) (S : List AV) (σ : Mem) : Prop :=
  ∀ (H : Heap) (locs : List Loc) (ls : Array Slot), wo X σ H → wS X H locs → LH (xg X) ls (m_nL M) L → XW X H locs (F0 (xm X) pc ls (S.map (cv (xg X))))
def RtOK (X : CT) (M : MI) (Rt : Option AV → Mem → Prop) : Prop := ∀ (r : Option AV) (σ : Mem) (pc : Nat) (H : Heap) (locs : List Loc) (ls : Array Slot), Rt r σ → wo X σ H → wS X H locs →
  (match r with | none => m_ret M = none ∧ decode (m_cc M) pc = .ok (.return_, 1) | some v => ∃ (x : Int32) (ty : FieldType), v = .inl x ∧ m_ret M = some ty ∧ narrow ty (.int x) = .int x ∧ decode (m_cc M) pc = .ok (.ireturn, 1)) → XW X H locs (F0 (xm X) pc ls (r.toList.map (cv (xg X))))
def ThOK (X : CT) (M : MI) (Th : Nat → String → Mem → Prop) : Prop := ∀ (pc : Nat) (E : String) (σ : Mem), Th pc E σ → (xk X + 1 ≤ (xR X).cells ∧ xn X + 6 ≤ (xR X).slots) ∧
  ∀ (H : Heap) (locs : List Loc) (ls : Array Slot) (rest : List Value) (q : Addr) (ce : Cell), wo X σ H → wS X H locs → lv_has ls (m_nL M) [] → H[q]? = some ce → ce.vm = .none → (xs X).vm.findClass E = some ce.cls →
    vx_W (xp X) (xl X) (xe X) (xR X) (xs X) (xm X) (xa X) (xb X) (xme X) (xc X) H locs (xk X + 1) (xn X + 6) (xQ X) (F0 (xm X) pc ls rest) q
def TsOK (X : CT) (M : MI) (Th : Nat → String → Mem → Prop) : Prop := ∀ (pc : Nat) (E : String) (σ : Mem), (pc, E) ∈ m_tr M → Th pc E σ → ∀ (H : Heap) (locs : List Loc) (ls : Array Slot), wo X σ H → wS X H locs → ls.size = m_nL M → XW X H locs (F0 (xm X) pc ls [])
def Cx (X : CT) (M : MI) (Rt : Option AV → Mem → Prop) (Th : Nat → String → Mem → Prop) : Prop :=
  ((xp X).tables.exec = Jvm.exec ∧ (xc X).code = m_cc M ∧ (xc X).maxLocals = m_nL M ∧ (xs X).vm.findClass (m_own M) = some (xm X).cls ∧ (∀ w ∈ gtbl, w.before (xa X) (xs X) = true) ∧ KG (xg X) (xs X) ∧ (xg X).1 ≤ (xs X).heap.size) ∧
  (8 + m_d M ≤ (xR X).frames ∧ 100 + 30 * m_d M ≤ (xR X).locals ∧ xk X ≤ (xR X).cells ∧ xn X ≤ (xR X).slots) ∧ RtOK X M Rt ∧ ThOK X M Th ∧ TsOK X M Th ∧ (xl X).stackTraces = false
/-- a callee of a method: what its contract promises it pays -/
def CallGo (M : MI) (ix o : Nat) (as : List AV) (σ : Mem) (oc : OC) : Prop := ∀ (X : CT) (Rt : Option AV → Mem → Prop) (Th : Nat → String → Mem → Prop), Cx X M Rt Th → ∀ (pc : Nat) (L : List (Option AV)) (rest : List AV), rest.length ≤ 4 →
  (match oc with | .inl q => Go X M (pc + 3) L (q.1.toList ++ rest) q.2 | .inr q => Th pc q.1 q.2) →
  (o < 99 → decode (m_cc M) pc = .ok (.invokevirtual ix, 3) → Go X M pc L (as.reverse ++ .inr (.inl o) :: rest) σ) ∧ (o = 99 → decode (m_cc M) pc = .ok (.invokestatic ix, 3) → Go X M pc L (as.reverse ++ rest) σ)
def CallOK (M : MI) (q : Nat × (Nat × Nat × CTy)) : Prop := ∀ (as : List AV) (σ : Mem) (KN : Option AV → Mem → Prop) (KX : String → Mem → Prop), as.length = q.2.2.1 → q.2.2.2 as σ KN KX →
  ∃ oc : OC, (match oc with | .inl z => KN z.1 z.2 | .inr z => KX z.1 z.2) ∧ CallGo M q.1 q.2.1 as σ oc
def FlOK (M : MI) (q : Nat × (Nat × Nat)) : Prop := m_own M = cR q.2.1 ∧ Jvm.Cond.fieldLink (m_own M) q.1 (m_own M) (cF q.2.1 q.2.2).2.1 (cF q.2.1 q.2.2).2.2.1 ∈ gtbl
def MOK (M : MI) : Prop := (∀ pc q, m_tb M pc = some q → chk (m_cc M) (m_nL M) pc q = true) ∧ (∀ q ∈ m_fl M, FlOK M q) ∧ ∀ q ∈ m_cal M, CallOK M q
section SND
variable {X : CT} {M : MI} {Rt : Option AV → Mem → Prop} {Th : Nat → String → Mem → Prop}
theorem c_own {ci k : Nat} (h : ci < 3) (hk : k < cN ci) {s : State} : ∀ x, s.fieldFound? (cF ci k).1 (cF ci k).2.1 (cF ci k).2.2.1 = some x → s.fieldFound? (cR ci) (cF ci k).2.1 (cF ci k).2.2.1 = some x := by
  have e : (cF ci k).1 = cR ci := by
    match ci, h with
    | 0, _ => match k, hk with | 0, _ | 1, _ | 2, _ | 3, _ => rfl
    | 1, _ => match k, hk with | 0, _ | 1, _ | 2, _ | 3, _ | 4, _ => rfl
    | 2, _ => match k, hk with | 0, _ | 1, _ | 2, _ | 3, _ | 4, _ | 5, _ | 6, _ | 7, _ | 8, _ | 9, _ | 10, _ | 11, _ | 12, _ => rfl
  rw [e]
  exact fun _ h => h
theorem vin_of {i : Int32} {n : Nat} (h : vp_in i n) : vp_in i n := h
theorem br_W {c : Jvm.ClassFile.Cond} {x y : Int32} {A B : Prop} (h : br c x y A B) {P : Prop} (heq : c = .eq → (x = y → A) → (¬ x = y → B) → P) (hne : c = .ne → (¬ x = y → A) → (x = y → B) → P) (hlt : c = .lt → (x < y → A) → (¬ x < y → B) → P)
    (hge : c = .ge → (y ≤ x → A) → (¬ y ≤ x → B) → P) (hgt : c = .gt → (y < x → A) → (¬ y < x → B) → P) (hle : c = .le → (x ≤ y → A) → (¬ x ≤ y → B) → P) : P := by
  cases c
  · exact heq rfl h.1 h.2
  · exact hne rfl h.1 h.2
  · exact hlt rfl h.1 h.2
  · exact hge rfl h.1 h.2
  · exact hgt rfl h.1 h.2
  · exact hle rfl h.1 h.2
theorem cond_el {b : Bool} {A : Prop} (h : cond b A False) : b = true ∧ A := by
  cases b
  · exact h.elim
  · exact ⟨rfl, h⟩
set_option maxHeartbeats 4000000 in
theorem stp_sound (hM : MOK M) (hX : Cx X M Rt Th) {pc : Nat} {q : TE} (htb : m_tb M pc = some q) {L : List (Option AV)} {S : List AV} {σ : Mem} {K : Nat → List (Option AV) → List AV → Mem → Prop} (hK : ∀ pc L S σ, K pc L S σ → Go X M pc L S σ)
    (h : stp M q pc L S σ K Rt Th) : Go X M pc L S σ := by
  have hck := hM.1 pc q htb
  obtain ⟨ig, nx, a, c⟩ := q
  simp only [chk, Bool.and_eq_true, decide_eq_true_eq] at hck
  obtain ⟨hd, hk⟩ := hck
  obtain ⟨⟨hx, hb, hml, hown, hts, hKG, hbase⟩, hroom, hRt, hTh, hTs, htr⟩ := id hX
  have hK0 := hKG.1
  have hD := hKG.2.2.2.2.2.2.1
  have hil := hKG.2.2.2.2.2.2.2
  have e1 : ∀ n, pc + n - pc = n := fun n => Nat.add_sub_cancel_left pc n
  cases ig
  case iconst n =>
    simp only [ck2, Bool.and_eq_true, beq_iff_eq, decide_eq_true_eq] at hk
    obtain ⟨rfl, rfl⟩ := hk
    rw [e1] at hd
    intro H locs ls hP hS hl
    exact lv_iconst hx hb hd rfl (hK _ _ _ _ h H locs ls hP hS hl)
  case bipush n =>
    simp only [ck2, Bool.and_eq_true, beq_iff_eq, decide_eq_true_eq] at hk
    obtain ⟨rfl, rfl⟩ := hk
    rw [e1] at hd
    intro H locs ls hP hS hl
    exact lv_bipush hx hb hd rfl (hK _ _ _ _ h H locs ls hP hS hl)
  case sipush n =>
    simp only [ck2, Bool.and_eq_true, beq_iff_eq, decide_eq_true_eq] at hk
    obtain ⟨rfl, rfl⟩ := hk
    rw [e1] at hd
    intro H locs ls hP hS hl
    exact lv_sipush hx hb hd rfl (hK _ _ _ _ h H locs ls hP hS hl)
  case iload i =>
    simp only [ck2, Bool.and_eq_true, beq_iff_eq, decide_eq_true_eq] at hk
    obtain ⟨rfl, rfl⟩ := hk
    rw [e1] at hd
    obtain ⟨x, hx1, h⟩ := li_el h
    intro H locs ls hP hS hl
    exact lv_iload hx hb hd (hl.2 _ _ hx1).1 (hK _ _ _ _ h H locs ls hP hS hl)
  case iload_n i =>
    simp only [ck2, Bool.and_eq_true, beq_iff_eq, decide_eq_true_eq] at hk
    obtain ⟨rfl, hk2⟩ := hk
    rw [e1] at hd
    obtain ⟨x, hx1, h⟩ := li_el h
    intro H locs ls hP hS hl
    exact lv_iload_n hx hb hd hk2 (hl.2 _ _ hx1).1 (hK _ _ _ _ h H locs ls hP hS hl)
  case aload i =>
    simp only [ck2, Bool.and_eq_true, beq_iff_eq, decide_eq_true_eq] at hk
    obtain ⟨rfl, rfl⟩ := hk
    rw [e1] at hd
    obtain ⟨x, hx1, h⟩ := lr_el h
    intro H locs ls hP hS hl
    exact lv_aload hx hb hd (hl.2 _ _ hx1).1 (hK _ _ _ _ h H locs ls hP hS hl)
  case aload_n i =>
    simp only [ck2, Bool.and_eq_true, beq_iff_eq, decide_eq_true_eq] at hk
    obtain ⟨rfl, hk2⟩ := hk
    rw [e1] at hd
    obtain ⟨x, hx1, h⟩ := lr_el h
    intro H locs ls hP hS hl
    exact lv_aload_n hx hb hd hk2 (hl.2 _ _ hx1).1 (hK _ _ _ _ h H locs ls hP hS hl)
  case istore i =>
    simp only [ck2, Bool.and_eq_true, beq_iff_eq, decide_eq_true_eq] at hk
    obtain ⟨rfl, rfl, hk3⟩ := hk
    rw [e1] at hd
    obtain ⟨x, r, rfl, h⟩ := s1_el h
    intro H locs ls hP hS hl
    exact lv_istore hx hb hd hl.list hk3 rfl (fun ls' hl' => hK _ _ _ _ h H locs ls' hP hS (hl.back (v := .inl x) trivial hl'))
  case istore_n i =>
    simp only [ck2, Bool.and_eq_true, beq_iff_eq, decide_eq_true_eq] at hk
    obtain ⟨rfl, hk2, hk3⟩ := hk
    rw [e1] at hd
    obtain ⟨x, r, rfl, h⟩ := s1_el h
    intro H locs ls hP hS hl
    exact lv_istore_n hx hb hd hk2 hl.list hk3 rfl (fun ls' hl' => hK _ _ _ _ h H locs ls' hP hS (hl.back (v := .inl x) trivial hl'))
  case astore i =>
    simp only [ck2, Bool.and_eq_true, beq_iff_eq, decide_eq_true_eq] at hk
    obtain ⟨rfl, rfl, hk3⟩ := hk
    rw [e1] at hd
    obtain ⟨x, r, rfl, h⟩ := sr_el h
    intro H locs ls hP hS hl
    exact lv_astore hx hb hd hl.list hk3 rfl (fun ls' hl' => hK _ _ _ _ h H locs ls' hP hS (hl.back (v := .inr (.inl x)) trivial hl'))
  case astore_n i =>
    simp only [ck2, Bool.and_eq_true, beq_iff_eq, decide_eq_true_eq] at hk
    obtain ⟨rfl, hk2, hk3⟩ := hk
    rw [e1] at hd
    obtain ⟨x, r, rfl, h⟩ := sr_el h
    intro H locs ls hP hS hl
    exact lv_astore_n hx hb hd hk2 hl.list hk3 rfl (fun ls' hl' => hK _ _ _ _ h H locs ls' hP hS (hl.back (v := .inr (.inl x)) trivial hl'))
  case iinc i n =>
    simp only [ck2, Bool.and_eq_true, beq_iff_eq, decide_eq_true_eq] at hk
    obtain ⟨rfl, rfl, hk3, rfl⟩ := hk
    rw [e1] at hd
    obtain ⟨x, hx1, h⟩ := li_el h
    intro H locs ls hP hS hl
    have hm := lvl_in (xg X) L 0 i (.inl x) hx1
    rw [Nat.zero_add] at hm
    obtain ⟨k, hk9⟩ := List.mem_iff_getElem?.mp hm
    exact lv_iinc hx hb hd hl.list hk9 rfl hk3 rfl (fun ls' hl' => hK _ _ _ _ h H locs ls' hP hS (hl.back (v := .inl (x + Int32.ofInt n)) trivial hl'))
  case iadd =>
    simp only [ck2, beq_iff_eq] at hk
    subst hk
    rw [e1] at hd
    obtain ⟨y, x, r, rfl, h⟩ := s2_el h
    intro H locs ls hP hS hl
    exact lv_iadd hx hb hd (hK _ _ _ _ h H locs ls hP hS hl)
  case isub =>
    simp only [ck2, beq_iff_eq] at hk
    subst hk
    rw [e1] at hd
    obtain ⟨y, x, r, rfl, h⟩ := s2_el h
    intro H locs ls hP hS hl
    exact lv_isub hx hb hd (hK _ _ _ _ h H locs ls hP hS hl)
  case imul =>
    simp only [ck2, beq_iff_eq] at hk
    subst hk
    rw [e1] at hd
    obtain ⟨y, x, r, rfl, h⟩ := s2_el h
    intro H locs ls hP hS hl
    exact lv_imul hx hb hd (hK _ _ _ _ h H locs ls hP hS hl)
  case iand =>
    simp only [ck2, beq_iff_eq] at hk
    subst hk
    rw [e1] at hd
    obtain ⟨y, x, r, rfl, h⟩ := s2_el h
    intro H locs ls hP hS hl
    exact lv_iand hx hb hd (hK _ _ _ _ h H locs ls hP hS hl)
  case idiv =>
    simp only [ck2, beq_iff_eq] at hk
    subst hk
    rw [e1] at hd
    obtain ⟨y, x, r, rfl, h0, h⟩ := s2_el h
    intro H locs ls hP hS hl
    exact lv_idiv hx hb hd h0 (hK _ _ _ _ h H locs ls hP hS hl)
  case irem =>
    simp only [ck2, beq_iff_eq] at hk
    subst hk
    rw [e1] at hd
    obtain ⟨y, x, r, rfl, h0, h⟩ := s2_el h
    intro H locs ls hP hS hl
    exact lv_irem hx hb hd h0 (hK _ _ _ _ h H locs ls hP hS hl)
  case ineg =>
    simp only [ck2, beq_iff_eq] at hk
    subst hk
    rw [e1] at hd
    obtain ⟨x, r, rfl, h⟩ := s1_el h
    intro H locs ls hP hS hl
    exact lv_ineg hx hb hd (hK _ _ _ _ h H locs ls hP hS hl)
  case dup =>
    simp only [ck2, beq_iff_eq] at hk
    subst hk
    rw [e1] at hd
    obtain ⟨o, r, rfl, h⟩ := sr_el h
    intro H locs ls hP hS hl
    exact lv_dup hx hb hd rfl (hK _ _ _ _ h H locs ls hP hS hl)
  case pop =>
    simp only [ck2, beq_iff_eq] at hk
    subst hk
    rw [e1] at hd
    obtain ⟨x, r, rfl, h⟩ := s1_el h
    intro H locs ls hP hS hl
    exact lv_pop hx hb hd rfl (hK _ _ _ _ h H locs ls hP hS hl)
  case i2l =>
    simp only [ck2, beq_iff_eq] at hk
    subst hk
    rw [e1] at hd
    obtain ⟨x, r, rfl, h⟩ := s1_el h
    intro H locs ls hP hS hl
    exact lv_i2l hx hb hd (show x.toInt64 = gil (xg X) x by rw [hil]) (hK _ _ _ _ h H locs ls hP hS hl)
  case lcmp =>
    simp only [ck2, beq_iff_eq] at hk
    subst hk
    rw [e1] at hd
    obtain ⟨y, x, r, rfl, h⟩ := sl2_el h
    intro H locs ls hP hS hl
    have h1 := hK _ _ _ _ h H locs ls hP hS hl
    refine W.lcmp hx hb hd ?_
    rw [hil]
    exact h1
  case iaload =>
    simp only [ck2, beq_iff_eq] at hk
    subst hk
    rw [e1] at hd
    obtain ⟨i, o, r, hSS, h7⟩ := sa2_el h
    subst hSS
    obtain ⟨h0, hi, h8⟩ := akc_el h7
    intro H locs ls hP hS hl
    exact va_iald hx hb hK0 hP o 0 (mw_int (xg X) σ o h0) rfl hi hd (hK _ _ _ _ h8 H locs ls hP hS hl)
  case baload =>
    simp only [ck2, beq_iff_eq] at hk
    subst hk
    rw [e1] at hd
    obtain ⟨i, o, r, hSS, h7⟩ := sa2_el h
    subst hSS
    obtain ⟨h0, hi, h8⟩ := akc_el h7
    intro H locs ls hP hS hl
    exact va_zald hx hb hK0 hP o 1 (mw_bool (xg X) σ o h0) rfl hi hd (hK _ _ _ _ h8 H locs ls hP hS hl)
  case laload =>
    simp only [ck2, beq_iff_eq] at hk
    subst hk
    rw [e1] at hd
    obtain ⟨i, o, r, rfl, h⟩ := sa2_el h
    obtain ⟨h0, hi, h⟩ := cond_el h
    obtain rfl : o = 15 := Nat.eq_of_beq_eq_true h0
    intro H locs ls hP hS hl
    exact va_lald hx hb hK0 hP 15 2 (n := 1) (f := fun j => gil (xg X) (σ 15 j)) rfl rfl hi hd (hK _ _ _ _ h H locs ls hP hS hl)
  case iastore =>
    simp only [ck2, beq_iff_eq] at hk
    subst hk
    rw [e1] at hd
    obtain ⟨v, i, o, r, hSS, h7⟩ := sa3_el h
    subst hSS
    obtain ⟨h0, hi, h8⟩ := akc_el h7
    intro H locs ls hP hS hl
    refine va_iast hx hb hK0 hP (hD σ) hS o 0 (mw_int (xg X) σ o h0) rfl hi hd (fun H1 locs1 hP1 hD1 hS1 => ?_)
    rw [mw_setInt (xg X) σ o _ v h0] at hP1
    exact hK _ _ _ _ h8 H1 locs1 ls hP1 hS1 hl
  case bastore =>
    simp only [ck2, beq_iff_eq] at hk
    subst hk
    rw [e1] at hd
    obtain ⟨v, i, o, r, hSS, h7⟩ := sa3_el h
    subst hSS
    obtain ⟨h0, hi, h8⟩ := akc_el h7
    intro H locs ls hP hS hl
    refine va_zast hx hb hK0 hP (hD σ) hS o 1 (mw_bool (xg X) σ o h0) rfl hi hd (fun H1 locs1 hP1 hD1 hS1 => ?_)
    rw [mw_setBool (xg X) σ o _ _ h0] at hP1
    exact hK _ _ _ _ h8 H1 locs1 ls hP1 hS1 hl
  case lastore =>
    simp only [ck2, beq_iff_eq] at hk
    subst hk
    rw [e1] at hd
    obtain ⟨v, i, o, r, rfl, h⟩ := sl3_el h
    obtain ⟨h0, hi, h⟩ := cond_el h
    obtain rfl : o = 15 := Nat.eq_of_beq_eq_true h0
    intro H locs ls hP hS hl
    refine va_last hx hb hK0 hP (hD σ) hS 15 2 (n := 1) (f := fun j => gil (xg X) (σ 15 j)) rfl rfl hi hd (fun H1 locs1 hP1 hD1 hS1 => ?_)
    rw [mw_setLong (xg X) σ _ v] at hP1
    exact hK _ _ _ _ h H1 locs1 ls hP1 hS1 hl
  case arraylength =>
    simp only [ck2, beq_iff_eq] at hk
    subst hk
    rw [e1] at hd
    obtain ⟨o, r, hSS, h7⟩ := sr_el h
    subst hSS
    obtain ⟨h0, h8⟩ := akc_el h7
    intro H locs ls hP hS hl
    exact va_alen hx hb hK0 hP o 0 (mw_int (xg X) σ o h0) rfl rfl hd (hK _ _ _ _ h8 H locs ls hP hS hl)
  case getfield ix =>
    simp only [ck2, beq_iff_eq] at hk
    subst hk
    rw [e1] at hd
    obtain ⟨o, r, rfl, h⟩ := sr_el h
    obtain ⟨⟨ci, k⟩, e2, h⟩ := om_el h
    obtain ⟨h0, h7⟩ := cond_el h
    obtain rfl : o = ob ci := Nat.eq_of_beq_eq_true h0
    obtain ⟨v, e3, h8⟩ := om_el h7
    obtain ⟨h3, h4, h5⟩ := fav_spec (xg X) σ e3
    obtain ⟨f1, f2⟩ := hM.2.1 _ (lk_mem e2)
    intro H locs ls hP hS hl
    exact va_get hx hb hts (c_inG h3) hown hK0 hP (ob ci) (mw_ob (xg X) σ h3).1 (mw_ob (xg X) σ h3).2 k h4 (ref := m_own M) (hts _ f2) (f1 ▸ c_own h3 h4) h5 hd (hK _ _ _ _ h8 H locs ls hP hS hl)
  case putfield ix =>
    simp only [ck2, beq_iff_eq] at hk
    subst hk
    rw [e1] at hd
    obtain ⟨v, o, r, rfl, h⟩ := sa2_el h
    obtain ⟨⟨ci, k⟩, e2, h⟩ := om_el h
    obtain ⟨h0, h⟩ := cond_el h
    obtain rfl : o = ob ci := Nat.eq_of_beq_eq_true h0
    obtain ⟨f1, f2⟩ := hM.2.1 _ (lk_mem e2)
    intro H locs ls hP hS hl
    cases e3 : Nat.beq (fw ci k) 1 with
    | true =>
      have e4 : fw ci k = 1 := Nat.eq_of_beq_eq_true e3
      obtain ⟨g1, g2, g3, g4, g5, g6⟩ := fw_spec (xg X) σ v (ci := ci) (k := k) (by rw [e4]; decide)
      rw [e4] at g6
      try dsimp only at h
      rw [e3] at h
      refine va_put (v := .int v) (ty := .int) hx hb hts (c_inG g1) (ct ci) (c_in g1).2.1 (c_in g1).2.2 hown hK0 hP (hD σ) hS (ob ci) (mw_ob (xg X) σ g1).1 (mw_ob (xg X) σ g1).2 k g2 (ref := m_own M) (hts _ f2) (f1 ▸ c_own g1 g2) g4 g6 rfl rfl g3 hd (fun H1 locs1 hP1 hD1 hS1 => ?_)
      rw [g5] at hP1
      exact hK _ _ _ _ h H1 locs1 ls hP1 hS1 hl
    | false =>
      try dsimp only at h
      rw [e3] at h
      obtain ⟨e5, hv, h⟩ := cond_el h
      have e4 : fw ci k = 2 := Nat.eq_of_beq_eq_true e5
      obtain ⟨g1, g2, g3, g4, g5, g6⟩ := fw_spec (xg X) σ v (ci := ci) (k := k) (by rw [e4]; decide)
      rw [e4] at g6
      have hn : narrow .boolean (.int v) = .int v := by rcases hv with rfl | rfl <;> rfl
      have hf : fits .boolean (.int v) = true := by rcases hv with rfl | rfl <;> rfl
      refine va_put (v := .int v) (ty := .boolean) hx hb hts (c_inG g1) (ct ci) (c_in g1).2.1 (c_in g1).2.2 hown hK0 hP (hD σ) hS (ob ci) (mw_ob (xg X) σ g1).1 (mw_ob (xg X) σ g1).2 k g2 (ref := m_own M) (hts _ f2) (f1 ▸ c_own g1 g2) g4 g6 hn hf g3 hd (fun H1 locs1 hP1 hD1 hS1 => ?_)
      rw [g5] at hP1
      exact hK _ _ _ _ h H1 locs1 ls hP1 hS1 hl
  case goto off =>
    simp only [ck2, Bool.and_eq_true, beq_iff_eq, decide_eq_true_eq] at hk
    obtain ⟨rfl, hk2⟩ := hk
    rw [e1] at hd
    intro H locs ls hP hS hl
    exact lv_goto hx hb hd hk2 (hK _ _ _ _ h H locs ls hP hS hl)
  case if_icmp cn off =>
    simp only [ck2, Bool.and_eq_true, beq_iff_eq, decide_eq_true_eq] at hk
    obtain ⟨rfl, hk2⟩ := hk
    rw [e1] at hd
    obtain ⟨y, x, r, rfl, h⟩ := s2_el h
    intro H locs ls hP hS hl
    refine br_W h ?_ ?_ ?_ ?_ ?_ ?_
    · rintro rfl h1 h2; exact lv_icmp_eq hx hb hd hk2 (fun z => hK _ _ _ _ (h1 z) H locs ls hP hS hl) (fun z => hK _ _ _ _ (h2 z) H locs ls hP hS hl)
    · rintro rfl h1 h2; exact lv_icmp_ne hx hb hd hk2 (fun z => hK _ _ _ _ (h1 z) H locs ls hP hS hl) (fun z => hK _ _ _ _ (h2 z) H locs ls hP hS hl)
    · rintro rfl h1 h2; exact lv_icmp_lt hx hb hd hk2 (fun z => hK _ _ _ _ (h1 z) H locs ls hP hS hl) (fun z => hK _ _ _ _ (h2 z) H locs ls hP hS hl)
    · rintro rfl h1 h2; exact lv_icmp_ge hx hb hd hk2 (fun z => hK _ _ _ _ (h1 z) H locs ls hP hS hl) (fun z => hK _ _ _ _ (h2 z) H locs ls hP hS hl)
    · rintro rfl h1 h2; exact lv_icmp_gt hx hb hd hk2 (fun z => hK _ _ _ _ (h1 z) H locs ls hP hS hl) (fun z => hK _ _ _ _ (h2 z) H locs ls hP hS hl)
    · rintro rfl h1 h2; exact lv_icmp_le hx hb hd hk2 (fun z => hK _ _ _ _ (h1 z) H locs ls hP hS hl) (fun z => hK _ _ _ _ (h2 z) H locs ls hP hS hl)
  case ifCond cn off =>
    simp only [ck2, Bool.and_eq_true, beq_iff_eq, decide_eq_true_eq] at hk
    obtain ⟨rfl, hk2⟩ := hk
    rw [e1] at hd
    obtain ⟨x, r, rfl, h⟩ := s1_el h
    intro H locs ls hP hS hl
    refine br_W h ?_ ?_ ?_ ?_ ?_ ?_
    · rintro rfl h1 h2; exact lv_if_eq hx hb hd hk2 (fun z => hK _ _ _ _ (h1 z) H locs ls hP hS hl) (fun z => hK _ _ _ _ (h2 z) H locs ls hP hS hl)
    · rintro rfl h1 h2; exact lv_if_ne hx hb hd hk2 (fun z => hK _ _ _ _ (h1 z) H locs ls hP hS hl) (fun z => hK _ _ _ _ (h2 z) H locs ls hP hS hl)
    · rintro rfl h1 h2; exact lv_if_lt hx hb hd hk2 (fun z => hK _ _ _ _ (h1 z) H locs ls hP hS hl) (fun z => hK _ _ _ _ (h2 z) H locs ls hP hS hl)
    · rintro rfl h1 h2; exact lv_if_ge hx hb hd hk2 (fun z => hK _ _ _ _ (h1 z) H locs ls hP hS hl) (fun z => hK _ _ _ _ (h2 z) H locs ls hP hS hl)
    · rintro rfl h1 h2; exact lv_if_gt hx hb hd hk2 (fun z => hK _ _ _ _ (h1 z) H locs ls hP hS hl) (fun z => hK _ _ _ _ (h2 z) H locs ls hP hS hl)
    · rintro rfl h1 h2; exact lv_if_le hx hb hd hk2 (fun z => hK _ _ _ _ (h1 z) H locs ls hP hS hl) (fun z => hK _ _ _ _ (h2 z) H locs ls hP hS hl)
  case ireturn =>
    simp only [ck2, beq_iff_eq] at hk
    subst hk
    rw [e1] at hd
    obtain ⟨x, r, rfl, h⟩ := s1_el h
    obtain ⟨rfl, h⟩ := sn_el h
    obtain ⟨ty, e2, h⟩ := om_el h
    intro H locs ls hP hS hl
    cases ty with
    | int => exact hRt (some (.inl x)) σ pc H locs ls h hP hS ⟨x, .int, rfl, e2, rfl, hd⟩
    | boolean => exact hRt (some (.inl x)) σ pc H locs ls h.2 hP hS ⟨x, .boolean, rfl, e2, congrArg Value.int h.1, hd⟩
    | _ => exact False.elim h
  case return_ =>
    simp only [ck2, beq_iff_eq] at hk
    subst hk
    rw [e1] at hd
    obtain ⟨hS0, h7⟩ := sn_el h
    subst hS0
    intro H locs ls hP hS hl
    cases e2 : m_ret M with
    | some ty => rw [e2] at h7; exact False.elim h7
    | none => rw [e2] at h7; exact hRt none σ pc H locs ls h7 hP hS ⟨e2, hd⟩
  case invokevirtual ix =>
    simp only [ck2, beq_iff_eq] at hk
    subst hk
    rw [e1] at hd
    obtain ⟨⟨o, n, f⟩, e2, h⟩ := om_el h
    obtain ⟨o', r, e3, h⟩ := sr_el h
    obtain ⟨h0, h⟩ := cond_el h
    simp only [Bool.and_eq_true] at h0
    obtain rfl : o' = o := Nat.eq_of_beq_eq_true h0.1
    obtain ⟨oc, h1, h2⟩ := hM.2.2 _ (lk_mem e2) _ σ _ _ (by rw [List.length_reverse]; exact Nat.eq_of_beq_eq_true h0.2.2.1) h
    have h3 := (h2 X Rt Th hX pc L r (Nat.le_of_ble_eq_true h0.2.2.2) (by
      match oc, h1 with
      | .inl z, h1 => exact hK _ _ _ _ h1
      | .inr z, h1 => exact h1)).1 (Nat.le_of_ble_eq_true h0.2.1) hd
    dsimp only at h3 e3
    rw [List.reverse_reverse, ← e3, List.take_append_drop] at h3
    exact h3
  case invokestatic ix =>
    simp only [ck2, beq_iff_eq] at hk
    subst hk
    rw [e1] at hd
    obtain ⟨⟨o, n, f⟩, e2, h⟩ := om_el h
    obtain ⟨h0, h⟩ := cond_el h
    simp only [Bool.and_eq_true] at h0
    obtain ⟨oc, h1, h2⟩ := hM.2.2 _ (lk_mem e2) _ σ _ _ (by rw [List.length_reverse]; exact Nat.eq_of_beq_eq_true h0.2.1) h
    have h3 := (h2 X Rt Th hX pc L (S.drop n) (Nat.le_of_ble_eq_true h0.2.2) (by
      match oc, h1 with
      | .inl z, h1 => exact hK _ _ _ _ h1
      | .inr z, h1 => exact h1)).2 (Nat.eq_of_beq_eq_true h0.1) hd
    dsimp only at h3
    rw [List.reverse_reverse, List.take_append_drop] at h3
    exact h3
  case new ix =>
    obtain ⟨rfl, h⟩ := sn_el h
    obtain ⟨E, e2, h⟩ := om_el h
    intro H locs ls hP hS hl
    exact hTs pc E σ (lk_mem e2) h H locs ls hP hS hl.1.1
  all_goals exact False.elim h
theorem wpn_sound (hM : MOK M) (hX : Cx X M Rt Th) {stops : List Nat} {K : Nat → List (Option AV) → List AV → Mem → Prop} (hK : ∀ pc L S σ, K pc L S σ → Go X M pc L S σ) :
    ∀ (n pc : Nat) (L : List (Option AV)) (S : List AV) (σ : Mem), wpn M stops n pc L S σ K Rt Th → Go X M pc L S σ
  | 0, pc, L, S, σ, h => hK _ _ _ _ h
  | n + 1, pc, L, S, σ, h => by
    obtain ⟨q, e, h⟩ := om_el h
    refine stp_sound hM hX e (K := fun pc' L' S' σ' => cond (nin pc' stops) (K pc' L' S' σ') (wpn M stops n pc' L' S' σ' K Rt Th)) (fun pc' L' S' σ' h' => ?_) h
    cases e4 : nin pc' stops with
    | true => rw [e4] at h'; exact hK _ _ _ _ h'
    | false => rw [e4] at h'; exact wpn_sound hM hX hK n pc' L' S' σ' h'
/-- THE WALK: some steps of the table, with all that may end them kept closed -/
theorem Go_run (hM : MOK M) (hX : Cx X M Rt Th) (stops : List Nat) (n : Nat) {pc : Nat} {L : List (Option AV)} {S : List AV} {σ : Mem}
    (h : ∀ (K : Nat → List (Option AV) → List AV → Mem → Prop) (R1 : Option AV → Mem → Prop) (T1 : Nat → String → Mem → Prop), (∀ pc L S σ, Go X M pc L S σ → K pc L S σ) → (∀ r σ, Rt r σ → R1 r σ) → (∀ pc E σ, Th pc E σ → T1 pc E σ) → wpn M stops n pc L S σ K R1 T1) : Go X M pc L S σ :=
  wpn_sound hM hX (fun _ _ _ _ h => h) n pc L S σ (h (Go X M) Rt Th (fun _ _ _ _ h => h) (fun _ _ h => h) (fun _ _ _ h => h))
end SND
end
section
/-! A throw of a class whose constructor calls its superclass's by another place of its pool than the kit's row takes (NoSuchElementException: 13, not 7).
    nx_chain, nx_ctor, nx_throw follow the library's chainS, ctorThrowS and the kit's vx_throwS, with that place and the constructor's bytes as parameters. -/
def nx_chain (X : String) (ix : Nat) (rx : ByteArray) (Y : String) (r : List String) : List Jvm.Cond := Bundle.passSAtoms X Y ix rx ++ Bundle.chainSAtoms Y r
def nx_own (own : String) (ic : Nat) (X : String) (ix : Nat) (rx : ByteArray) (Y : String) (r : List String) : List Jvm.Cond :=
  Bundle.throwableAtoms ++ Bundle.throwableSAtoms ++ nx_chain X ix rx Y r ++
  [.methodLink own ic (Bundle.initS X), .instantiable X 6, .castable X X, .selects X Bundle.tFill0 Bundle.tFill0, .selects X Bundle.tFill Bundle.tFill,
   .lays X Bundle.tN "cause" "Ljava/lang/Throwable;", .lays X Bundle.tN "stackTrace" Bundle.steD, .lays X Bundle.tN "suppressedExceptions" Bundle.listD, .lays X Bundle.tN "detailMessage" "Ljava/lang/String;",
   .isRef (.static Bundle.tN "UNASSIGNED_STACK" Bundle.steD), .isRef (.static Bundle.tN "SUPPRESSED_SENTINEL" Bundle.listD),
   .fieldLink Bundle.tN 198 Bundle.tN "backtrace" "Ljava/lang/Object;", .lays Bundle.tN Bundle.tN "backtrace" "Ljava/lang/Object;", .lays X Bundle.tN "backtrace" "Ljava/lang/Object;"]
def nx_at (own : String) (ic : Nat) (X : String) (ix : Nat) (rx : ByteArray) (Y : String) (r : List String) : List Jvm.Cond := (nx_own own ic X ix rx Y r).filter vx_no
section NX
variable {p : Program} {l : Launch} {e : Env} {R : Room} {s : State} {m₀ : MethodId} {args : Array Value} {below : List Frame} {meth : Method} {c : Code} {W : State} {locs : List Loc} {cells slots : Nat}
set_option maxHeartbeats 2000000 in
theorem nx_ctor (X : Stand p l e R s m₀ args below meth c W locs cells slots) (hexec : p.tables.exec = Jvm.exec) (htr : e.platform.stackTraces = false) {own cls Y0 : String} {names : List String} {ic ix : Nat} {rx : ByteArray}
    (x0 : decode rx 0 = .ok (.aload_n 0, 1)) (x1 : decode rx 1 = .ok (.aload_n 1, 1)) (x2 : decode rx 2 = .ok (.invokespecial ix, 3)) (x5 : decode rx 5 = .ok (.return_, 1))
    (hown : s.vm.findClass own = some m₀.cls) (hcls : Bundle.fit cls = true) (hY0 : Bundle.fit Y0 = true) (hnames : ∀ n ∈ names, Bundle.fit n = true)
    (h : ∀ a ∈ nx_own own ic cls ix rx Y0 names, a.before args s = true)
    (hlocs : ∀ x ∈ locs, ∀ cell, s.heap[x.base]? = some cell → cell.vm.isStatics = false)
    {a : Addr} {cX : ClassId} {kX : Class} (hfoundX : s.vm.findClass cls = some cX) (hkX : s.vm.classes[cX]? = some kX) (hcell : W.heap[a]? = some (freshCell cX kX)) (hnew : s.heap.size ≤ a)
    {msg : Value} (hmsg : msg.isRef = true)
    {g : JFrame} (hg : g.method = m₀) (hsize : g.locals.size = c.maxLocals) (hlocked : g.locked = none) (hentered : g.entered = []) {rest : List Value} (hstack : g.stack = msg :: .ref a :: .ref a :: rest)
    (hd6 : decode c.code g.pc = .ok (.invokespecial ic, 3)) (hd9 : decode c.code (g.pc + 3) = .ok (.athrow, 1)) (hout : ∀ x ∈ c.exceptionTable.toList, covers x (g.pc + 3) = false)
    (hRframes : names.length + 4 < R.frames) (hRlocals : 2 * g.monitorRoom + ((Value.ref a :: rest).map fun v => v.category).sum + (13 * (names.length + 2) + 42) ≤ R.locals) (hlocks : meth.locks = false) :
    ∃ U : State, Steps p.tables e below (W.setTop g) U ∧ U.status = .running ∧ Ended U below (.threw a) ∧ s.WarmedH U.vm ∧ s.sameButNew ({ U with vm := s.vm } : State) locs cells slots ∧
      ∃ ce, U.heap[a]? = some ce ∧ ce.cls = cX ∧ ce.vm = .none := by
  have howns : e.platform.frameOwnsMonitors = true := by rw [X.admits.platform]
  have hfin : e.platform.finalization = false := by rw [X.admits.platform]
  have hpl : e.platform.magicAccessors = ({} : Platform).magicAccessors := by rw [X.admits.platform]
  have a' : ∀ x, x ∈ nx_own own ic cls ix rx Y0 names → x.holds args s none s [] = true := fun x hx => h x hx
  obtain ⟨T, Z0, L, -, Y⟩ := ThrowableC.of_atoms (args := args) howns hfin hpl (fun x hx => h x (by simp [nx_own, hx]))
  obtain ⟨Z, M, LZ, LM, hnZ⟩ := Init0T.ofS_atoms (args := args) hpl L Y (fun x hx => h x (by simp [nx_own, hx]))
  obtain ⟨P1, Ps, hlen, L1, hL, hP1m, hlink1, hlink⟩ : ∃ (P1 : PassC) (Ps : List PassC), Ps.length = names.length + 1 ∧ P1.LinksS e.platform s ∧ (∀ P, P ∈ Ps → P.LinksS e.platform s) ∧ s.methodNamed? (Bundle.initS cls) = some P1.m ∧
        P1.sup = firstOf (Z.m T.toThrowableT) (Ps.map (·.toPassT)) ∧ PassesOn (Z.m T.toThrowableT) (Ps.map (·.toPassT)) := by
    obtain ⟨P, L1, hm, hs⟩ := PassC.ofS_atoms (args := args) (s := s) hpl (X := cls) (Y := Y0) (Bundle.fit_spec hcls).1 (Bundle.fit_spec hY0).2 x0 x1 x2 x5 (fun x hx => h x (by simp [nx_own, nx_chain, hx]))
    obtain ⟨P', Ps, hlen, L', hL, hm', hsup, hpass⟩ := Bundle.chainS (args := args) hpl hnZ names Y0 hY0 hnames (fun x hx => h x (by simp [nx_own, nx_chain, hx]))
    refine ⟨P, P' :: Ps, by simp [hlen], L1, ?_, hm, Option.some.inj (hs.symm.trans hm'), hsup, hpass⟩
    intro Q hQ
    rcases List.mem_cons.mp hQ with rfl | hQ
    · exact L'
    · exact hL Q hQ
  have hfound : s.vm.findClass cls = some P1.m.cls := findClass_of_methodNamed hP1m
  cases Option.some.inj (hfoundX.symm.trans hfound)
  obtain ⟨c1, kX', hc1, hk, hord, -, -, hn6⟩ := Cond.instantiable_spec (a' (.instantiable cls 6) (by simp [nx_own]))
  cases Option.some.inj (hc1.symm.trans hfound)
  cases Option.some.inj (hkX.symm.trans hk)
  have hsel0 : selectMethod e.platform s.vm P1.m.cls T.fill0 = .method T.fill0 := by
    obtain ⟨c2, r2, m2, q1, q2, q3, q4, -⟩ := Cond.selects_spec (a' (.selects cls Bundle.tFill0 Bundle.tFill0) (by simp [nx_own]))
    cases Option.some.inj (q1.symm.trans hfound)
    cases Option.some.inj (q2.symm.trans (State.methodFound?_of_named Y.fill0 (by decide)))
    cases Option.some.inj (q3.symm.trans Y.fill0)
    rw [Launch.admits_selectMethod X.admits]; exact q4
  have hselF : selectMethod e.platform s.vm P1.m.cls T.fill = .method T.fill := by
    obtain ⟨c2, r2, m2, q1, q2, q3, q4, -⟩ := Cond.selects_spec (a' (.selects cls Bundle.tFill Bundle.tFill) (by simp [nx_own]))
    cases Option.some.inj (q1.symm.trans hfound)
    cases Option.some.inj (q2.symm.trans (State.methodFound?_of_named Y.fill (by decide)))
    cases Option.some.inj (q3.symm.trans Y.fill)
    rw [Launch.admits_selectMethod X.admits]; exact q4
  obtain ⟨cellS0, hcS0, hiss⟩ := Y.statics
  obtain ⟨u0, hu0⟩ := Cond.staticRefV Y.unassigned L.unassignedStatic L.statics hcS0 hiss (a' (.isRef (.static Bundle.tN "UNASSIGNED_STACK" Bundle.steD)) (by simp [nx_own]))
  obtain ⟨sen, hsen⟩ := Cond.staticRefV Y.sentinel L.sentinelStatic L.statics hcS0 hiss (a' (.isRef (.static Bundle.tN "SUPPRESSED_SENTINEL" Bundle.listD)) (by simp [nx_own]))
  obtain ⟨ci198, i198, fB, hk198, hg198, ha198, hsB, -, hnB, htB, hffB⟩ := Cond.ownField (t := .object "java/lang/Object") Y.found L.cls (by decide +kernel) (a' (.fieldLink Bundle.tN 198 Bundle.tN "backtrace" "Ljava/lang/Object;") (by simp [nx_own])) (a' (.lays Bundle.tN Bundle.tN "backtrace" "Ljava/lang/Object;") (by simp [nx_own])) e.platform hpl
  obtain ⟨cellS, hcS', heS, -, hkeep⟩ := X.same.2.2.2.2.2 T.aS cellS0 hcS0
  have hcellS : W.heap[T.aS]? = some cellS := hcS'
  have hout' : ∀ i, (⟨T.aS, i⟩ : Loc) ∉ locs := fun i hmem => by
    have := hlocs _ hmem cellS0 hcS0
    rw [hiss] at this; cases this
  have hknownS : cellS.vm ≠ .unknown := by
    rw [heS]; intro hu
    rw [show cellS0.vm = .unknown from hu] at hiss
    cases hiss
  have hneS : T.aS ≠ a := Nat.ne_of_lt (Nat.lt_of_lt_of_le (Array.getElem?_eq_some_iff.mp hcS0).1 hnew)
  obtain ⟨iM, hffM⟩ := Y.msg
  obtain ⟨tyC, dC, hdC, hdnC⟩ := Cond.laysAt hfound hk Y.cause (a' (.lays cls Bundle.tN "cause" "Ljava/lang/Throwable;") (by simp [nx_own]))
  obtain ⟨tyS, dS, hdS, hdnS⟩ := Cond.laysAt hfound hk Y.stack (a' (.lays cls Bundle.tN "stackTrace" Bundle.steD) (by simp [nx_own]))
  obtain ⟨tyP, dP, hdP, hdnP⟩ := Cond.laysAt hfound hk Y.supp (a' (.lays cls Bundle.tN "suppressedExceptions" Bundle.listD) (by simp [nx_own]))
  obtain ⟨tyM, dM, hdM, hdnM⟩ := Cond.laysAt hfound hk hffM (a' (.lays cls Bundle.tN "detailMessage" "Ljava/lang/String;") (by simp [nx_own]))
  obtain ⟨tyB, dB, hdB, hdnB⟩ := Cond.laysAt hfound hk hffB (a' (.lays cls Bundle.tN "backtrace" "Ljava/lang/Object;") (by simp [nx_own]))
  have bC := Cond.laysApart hdB hdC hdnB hdnC (by rw [hnB, Y.causeName]; decide)
  have bS := Cond.laysApart hdB hdS hdnB hdnS (by rw [hnB, Y.stackName]; decide)
  have bP := Cond.laysApart hdB hdP hdnB hdnP (by rw [hnB, Y.suppName]; decide)
  have hskip : SkipFacts T e.platform s (fun u => u) u0 ((preparedCellV T.toThrowableT (freshCell P1.m.cls kX) a u0 sen).withEntry W.cur) :=
    ⟨{ ci198 := ci198, i198 := i198, fBack := fB }, ⟨hk198, hg198, ha198, hsB⟩, by
      have := fresh_default (c := P1.m.cls) tyB
      rw [htB] at this
      simpa [preparedCellV, Cell.setSlot, Cell.withEntry, Array.getElem?_setIfInBounds, bC, bS, bP, bC.symm, bS.symm, bP.symm, defaultValue] using this, fun _ _ => rfl⟩
  obtain ⟨tm, methC, cdC, kC, vm₁, hnC, -, -, -, -, -, -, -, hW₁, st1⟩ := Steps.initColdS (tb := p.tables) (e := e) (below := below) (s := s) (U := W) X.here hexec X.warmed hpl hown (t := Bundle.initS cls) rfl rfl (Bundle.fit_spec hcls).2
    (a' (.methodLink own ic (Bundle.initS cls)) (by simp [nx_own])) (h (.instanceMethod (Bundle.initS cls)) (by simp [nx_own, nx_chain, Bundle.passSAtoms])) (bytes := rx) (maxL := 2) (h (.code (Bundle.initS cls) rx 2 none) (by simp [nx_own, nx_chain, Bundle.passSAtoms]))
    (f := g) hg (a := a) (msg := msg) (rest := .ref a :: rest) hstack hd6
  cases Option.some.inj (hnC.symm.trans hP1m)
  have X₁ := X.noted hW₁
  obtain ⟨vm₂, X₂, st2⟩ := X₁.ctorMessageOffV hexec (g := { g with stack := .ref a :: rest }) hg hsize T L Z LZ M LM (P1 :: Ps)
    (fun P hP => by rcases List.mem_cons.mp hP with rfl | hP; exact L1; exact hL P hP) ⟨hlink1, hlink⟩ (u0 := u0) (sen := sen) (self := a) hmsg (cell := freshCell P1.m.cls kX) (cellS := cellS)
    hcell (fun _ => by simp) (by simp) rfl rfl hsel0 hselF hcellS hneS hknownS (by rw [hkeep _ (hout' _)]; exact hu0) (by rw [hkeep _ (hout' _)]; exact hsen)
    (Takes.of_laid hk hord tyC (by rw [Y.causeType]; rfl)) (Takes.of_laid hk hord tyS (by rw [Y.stackType]; exact fits_refV_array _ u0)) (Takes.of_laid hk hord tyP (by rw [Y.suppType]; exact fits_refV_object _ sen))
    (Takes.of_laid hk hord tyM (by rw [Y.msgType]; exact fits_refV_object _ ⟨msg, hmsg⟩)) Y.objLocals hskip htr [] hd6
    (by simp only [List.length_cons, hlen]; omega) (by simp only [List.length_cons, hlen]; exact hRlocals)
  obtain ⟨hwalk, hrun, hended, hWU, hsame⟩ := X₂.athrowLeaves hexec (g := { g with stack := .ref a :: rest, pc := g.pc + 3 }) hg hlocked hentered hout (a := a) (rest := rest) rfl hd9
  have hlt : a < ((W.setVm vm₁).setVm vm₂).heap.size := (Array.getElem?_eq_some_iff.mp hcell).1
  have hU := heapAt_setCell_self (s := (W.setVm vm₁).setVm vm₂) (plainBareV T.toThrowableT (freshCell P1.m.cls kX) a u0 sen msg) hlt
  refine ⟨_, st1 _ (fun acts => ?_), hrun, hended, hWU, hsame.weaken (fun y hy hlt' => ?_) (Nat.le_refl _) (Nat.le_refl _), _, hU, rfl, rfl⟩
  · rw [doInvoke_state]
    exact st2 _ hwalk
  · rcases List.mem_append.mp hy with h1 | h1
    · exact h1
    · exfalso
      have hb : y.base = a := by
        simp only [List.mem_cons, List.not_mem_nil, or_false] at h1
        rcases h1 with rfl | rfl | rfl | rfl | rfl <;> rfl
      rw [hb] at hlt'
      exact Nat.not_lt.mpr hnew hlt'
end NX
section NXT
variable {p : Program} {l : Launch} {e : Env} {R : Room} {s : State} {m : MethodId} {args : Array Value} {below : List Frame} {meth : Method} {c : Code} {H : Heap} {locs : List Loc} {cells slots : Nat}
variable {ls : Array Slot} {rest : List Value} {Qc : Array Value → State → Outcome → State → Prop} {XC : String → State → State → Prop} {free : Addr → Prop}
theorem nx_throw {cc : ByteArray} {pc : Nat} (hexec : p.tables.exec = Jvm.exec) (hb : c.code = cc) (hl : l.stackTraces = false) {own cls text Y0 : String} {names : List String} {ik is ic ix mc ms sa : Nat} {rx : ByteArray} {A : Nat → Prop}
    (x0 : decode rx 0 = .ok (.aload_n 0, 1)) (x1 : decode rx 1 = .ok (.aload_n 1, 1)) (x2 : decode rx 2 = .ok (.invokespecial ix, 3)) (x5 : decode rx 5 = .ok (.return_, 1))
    (hown : s.vm.findClass own = some m.cls) (hcls : Bundle.fit cls = true) (hY0 : Bundle.fit Y0 = true) (hnames : ∀ n ∈ names, Bundle.fit n = true)
    (hk : (Cond.classLink own ik cls).before args s = true) (hini : (Cond.initialized cls).before args s = true) (hstr : vk_R own is text sa s) (hat : ∀ w ∈ nx_at own ic cls ix rx Y0 names, w.before args s = true)
    (hgood : ∀ w ∈ Cond.classLink own ik cls :: Cond.initialized cls :: nx_at own ic cls ix rx Y0 names, vx_ot w = true)
    (hU : vx_Zq Bundle.tN "UNASSIGNED_STACK" Bundle.steD A s s.heap) (hN : vx_Zq Bundle.tN "SUPPRESSED_SENTINEL" Bundle.listD A s s.heap) (hS : va_S A s.heap H locs) (hsize : ls.size = c.maxLocals)
    (d0 : decode cc pc = .ok (.new ik, 3)) (d3 : decode cc (pc + 3) = .ok (.dup, 1)) (d4 : decode cc (pc + 4) = .ok (.ldc is, 2)) (d6 : decode cc (pc + 6) = .ok (.invokespecial ic, 3)) (d9 : decode cc (pc + 9) = .ok (.athrow, 1))
    (hout : ∀ x ∈ c.exceptionTable.toList, covers x (pc + 9) = false)
    (hRframes : names.length + 4 < R.frames) (hRlocals : (rest.map fun v => v.category).sum + (13 * (names.length + 2) + 43) ≤ R.locals) (hRcells : cells + 1 ≤ R.cells) (hRslots : slots + 6 ≤ R.slots) (hlocks : meth.locks = false)
    (hx : ∀ t : State, s.vm.Alike t.vm → H.size ≤ t.heap.size → (∀ q : Nat, q < H.size → t.heap[q]? = H[q]?) → XC cls s t)
    (hf : ∀ z ∈ locs, free z.base) (hc : cells + 1 ≤ mc) (hs : slots + 6 ≤ ms) :
    W p l e R s m args below meth c H locs cells slots (vx_MQ below Qc XC args s mc ms free) (F0 m pc ls rest) := by
  intro T hT X
  have htr : e.platform.stackTraces = false := (show e.platform.stackTraces = l.stackTraces by rw [X.admits.platform]).trans hl
  have Y := vx_rebase X (R' := { frames := R.frames, locals := R.locals, cells := 1, slots := 6 }) (Nat.le_refl _) (Nat.le_refl _) hRcells hRslots
  obtain ⟨s', hA⟩ : ∃ z, z = (T.setVm s.vm).setFrames (.invoking m args :: below) := ⟨_, rfl⟩
  rw [← hA] at Y
  have hvm : s'.vm = s.vm := by rw [hA]; rfl
  have hhp : s'.heap = H := by rw [hA]; exact hT
  have hW0 : s.WarmedH s'.vm := by rw [hvm]; exact State.WarmedH.refl s
  have hat' : ∀ w ∈ nx_at own ic cls ix rx Y0 names, w.before args s' = true := fun w hw => vx_ot_at hW0 hvm.symm (hgood w (List.mem_cons_of_mem _ (List.mem_cons_of_mem _ hw))) (hat w hw)
  have hk' : (Cond.classLink own ik cls).before args s' = true := vx_ot_at hW0 hvm.symm (hgood _ List.mem_cons_self) hk
  have hini' : (Cond.initialized cls).before args s' = true := vx_ot_at hW0 hvm.symm (hgood _ (List.mem_cons_of_mem _ List.mem_cons_self)) hini
  have hU' : vx_Zq Bundle.tN "UNASSIGNED_STACK" Bundle.steD A s' s'.heap := by rw [hhp]; exact vx_Zq.moved hW0.alike (hU.kept hS.2.1)
  have hN' : vx_Zq Bundle.tN "SUPPRESSED_SENTINEL" Bundle.listD A s' s'.heap := by rw [hhp]; exact vx_Zq.moved hW0.alike (hN.kept hS.2.1)
  have h : ∀ w ∈ nx_own own ic cls ix rx Y0 names, w.before args s' = true := vx_own hat' (vx_isRefq hU'.1) (vx_isRefq hN'.1) hU'.2.word hN'.2.word
  have hown' : s'.vm.findClass own = some m.cls := by rw [hvm]; exact hown
  have hins : (Cond.instantiable cls 6).before args s' = true := h _ (by simp [nx_own])
  obtain ⟨vm₁, cX, kX, hfX, hkX, -, -, X₁, st1⟩ := Y.newCold hexec (own := own) (C := cls) (index := ik) (n := 6) hown' hk' hins hini'
    (g := F0 m pc ls rest) rfl (by rw [hb]; exact d0) (Nat.le_refl _) (Nat.le_refl _)
  generalize hT1 : (T.setVm vm₁).pushCell { cls := cX, slots := kX.instanceTypes.map defaultValue, vm := .none } = T1 at X₁ st1
  have hcat : (Value.ref T.heap.size).category = 1 := rfl
  have hcellA : T1.heap[T.heap.size]? = some (freshCell cX kX) := by rw [← hT1]; exact State.heap_pushCell_size _ _
  have d3' : decode c.code (pc + 3) = .ok (.dup, 1) := by rw [hb]; exact d3
  have d4' : decode c.code (pc + 4) = .ok (.ldc is, 2) := by rw [hb]; exact d4
  have hstr' : vk_R own is text sa s' := vk_R.warm hW0 hstr
  obtain ⟨U, hsteps, hrun, hend, hW, hsame, ce, hce, hcc, hcv⟩ := nx_ctor X₁ hexec htr x0 x1 x2 x5 (own := own) (cls := cls) (Y0 := Y0) (names := names) (ic := ic) hown' hcls hY0 hnames h (fun x hx => nomatch hx) hfX hkX hcellA (by rw [hhp, hT]; exact Nat.le_refl _) (msg := .ref sa) rfl
    (g := { method := m, pc := pc + 6, locals := ls, stack := .ref sa :: .ref T.heap.size :: .ref T.heap.size :: rest, locked := none }) rfl hsize rfl rfl (rest := rest) rfl
    (by rw [hb]; exact d6) (by rw [hb]; exact d9) hout hRframes (by simp only [List.map_cons, List.sum_cons, hcat]; show 2 * 0 + (1 + _) + _ ≤ _; omega) hlocks
  obtain ⟨f1, f2⟩ := vx_frame hsame
  rw [hhp] at f1 f2
  have hWs : s.WarmedH U.vm := State.WarmedH.trans hW0 hW
  have hcl : s.vm.findClass cls = some ce.cls := by
    rw [hcc, ← hvm]
    exact hfX
  have hall : s.sameButNew ({ U with vm := s.vm } : State) locs mc ms := by
    subst hA
    obtain ⟨e1, e2⟩ := hsame
    rw [State.setFrames_setFrames] at e1
    have h2 : (T.setVm s.vm).sameButNew ({ U with vm := s.vm } : State) [] (0 + 1) (0 + 6) := ⟨e1, e2⟩
    have h3 := X.same.trans h2
    rw [List.append_nil] at h3
    exact h3.mono hc hs
  refine ⟨U, ?_, .threw T.heap.size, hrun, hend, Or.inr ⟨T.heap.size, rfl, cls, ce, locs, hx U hWs.alike f1 (fun q hq => f2 q hq (fun z hz => nomatch hz)), hce, hcv, hcl, hWs, hall, hf⟩⟩
  refine st1 _ ?_
  show Steps p.tables e below (T1.setTop { method := m, pc := pc + 3, locals := ls, stack := .ref T.heap.size :: rest, locked := none }) _
  jvm_step X₁.here [X₁.here.top, hexec, d3', Value.category]
  exact X₁.ldcString hexec (own := own) (text := text) (index := is) (a := sa) hown' hstr'.1 hstr'.2
    (g := { method := m, pc := pc + 4, locals := ls, stack := .ref T.heap.size :: .ref T.heap.size :: rest, locked := none }) rfl d4' _ hsteps
end NXT
end
section
/-! contracts of the small machine: one outcome for each start -/
def rmm (d k : Nat) : Room := { frames := 8 + d, cells := k, slots := 6 * k, locals := 100 + 30 * d }
def on (oc : OC) : Nat := match oc with | .inl _ => 0 | .inr _ => 1
def PcG (g : GT) (as : List AV) (σ : Mem) : Array Value → State → Prop := va_Pc (as.map (cv g)) (fun U => g.1 ≤ U.heap.size ∧ va_P g.2.1 classes (mw g σ) U.heap ∧ KG g U)
def OQ (g : GT) (oc : OC) : Array Value → State → Outcome → State → Prop := fun _ s o t => match oc with
  | .inl q => o = .returned (q.1.map (cv g)) ∧ va_P g.2.1 classes (mw g q.2) t.heap ∧ va_F (gA g) s t
  | .inr _ => False
def OX (g : GT) (oc : OC) : String → State → State → Prop := fun E s t => match oc with
  | .inl _ => False
  | .inr q => E = q.1 ∧ va_P g.2.1 classes (mw g q.2) t.heap ∧ va_F (gA g) s t
def wsG (y : MethodName) (M : MI) : List Jvm.Cond := .code y (m_cc M) (m_nL M) (m_ret M) :: gtbl
def MetO (y : MethodName) (M : MI) (as : List AV) (σ : Mem) (oc : OC) : Prop := ∀ (l : Launch) (g : GT), l.stackTraces = false →
  vx_Met l y (wsG y M) (rmm (m_d M) (on oc)) (PcG g as σ) (OQ g oc) (OX g oc) (on oc) (6 * on oc) (gA g)
theorem good_in {ws : List Jvm.Cond} (h : ∀ w ∈ ws, w ∈ gtbl) : GoodIn gtbl ws := fun w hw => ⟨h w hw, good_of_word (List.mem_filter.mp (h w hw)).2⟩
theorem PcG.blind {g : GT} {as : List AV} {σ : Mem} : FrameBlind (PcG g as σ) := fun a U f mk h => ⟨h.1, h.2.1, h.2.2.1, KG.blind f mk a h.2.2.2⟩
section CALL
variable {M M' : MI} {y : MethodName} {ix o : Nat} {as : List AV} {σ : Mem} {oc : OC}
theorem map_out (g : GT) (v : Option AV) (rest : List AV) : (v.toList ++ rest).map (cv g) = (v.map (cv g)).toList ++ rest.map (cv g) := by cases v <;> rfl
/-- what is common to both kinds of calls: from the run of a contract to the caller's next state -/
theorem go_run {X : CT} {Rt : Option AV → Mem → Prop} {Th : Nat → String → Mem → Prop} (hX : Cx X M Rt Th) {pc : Nat} {L : List (Option AV)} {rest : List AV} {st0 : List Value} {a : Array Value} {H : Heap} {locs : List Loc} {ls : Array Slot} (hS : wS X H locs) (hl : LH (xg X) ls (m_nL M) L)
    (hpost : match oc with | .inl q => Go X M (pc + 3) L (q.1.toList ++ rest) q.2 | .inr q => Th pc q.1 q.2)
    (run : vx_Run (xp X) (xl X) (xe X) (xR X) (xs X) (xm X) (xa X) (xb X) (xme X) (xc X) H locs (xk X) (xn X) (on oc) (6 * on oc) (F0 (xm X) pc ls st0) (rest.map (cv (xg X))) (OQ (xg X) oc a) (OX (xg X) oc) (gA (xg X))) : XW X H locs (F0 (xm X) pc ls st0) := by
  intro T hT X1
  match oc, hpost, run with
  | .inl z, hpost, run =>
    rcases run T hT X1 with ⟨v, st₀, t, T', L1, h0, X2, hL, e1, e2, ⟨hv, hP, hF⟩, stp⟩ | ⟨q, st₀, t, T', L1, E, ce, h0, X2, hL, e1, e2, hx, -⟩
    · obtain ⟨k1, k2, k3⟩ := vx_keep h0 e1 hS (fun q _ h => h) (fun q h => h) hL hF
      obtain ⟨t2, a1, b1⟩ := hpost T'.heap (locs ++ L1) ls (by rw [e1]; exact hP) k3 hl T' rfl X2
      refine ⟨t2, stp t2 ?_, b1⟩
      rw [map_out] at a1
      cases hv
      exact a1
    · exact hx.elim
  | .inr z, hpost, run =>
    rcases run T hT X1 with ⟨v, st₀, t, T', L1, h0, X2, hL, e1, e2, hf, -⟩ | ⟨q, st₀, t, T', L1, E, ce, h0, X2, hL, e1, e2, ⟨rfl, hP, hF⟩, hce, hcv, hcl, stp⟩
    · exact hf.elim
    · obtain ⟨k1, k2, k3⟩ := vx_keep h0 e1 hS (fun q _ h => h) (fun q h => h) hL hF
      obtain ⟨t2, a1, b1⟩ := (hX.2.2.2.1 pc z.1 z.2 hpost).2 T'.heap (locs ++ L1) ls (rest.map (cv (xg X))) q ce (by rw [e1]; exact hP) k3 hl.1 (by rw [e1]; exact hce) hcv hcl T' rfl X2
      exact ⟨t2, stp.trans a1, b1⟩
theorem room_of {X : CT} {Rt : Option AV → Mem → Prop} {Th : Nat → String → Mem → Prop} (hX : Cx X M Rt Th) {pc : Nat} {L : List (Option AV)} {rest : List AV} (hpost : match oc with | .inl q => Go X M (pc + 3) L (q.1.toList ++ rest) q.2 | .inr q => Th pc q.1 q.2) :
    xk X + on oc ≤ (xR X).cells ∧ xn X + 6 * on oc ≤ (xR X).slots := by
  match oc, hpost with
  | .inl z, _ => exact ⟨hX.2.1.2.2.1, hX.2.1.2.2.2⟩
  | .inr z, hpost => exact (hX.2.2.2.1 pc z.1 z.2 hpost).1
theorem pre_of {X : CT} {Rt : Option AV → Mem → Prop} {Th : Nat → String → Mem → Prop} (hX : Cx X M Rt Th) {H : Heap} {locs : List Loc} (hP : wo X σ H) (hS : wS X H locs) (bs : List AV) (U : State) (hU : U.heap = H) (hW : (xs X).WarmedH U.vm) : PcG (xg X) bs σ (bs.map (cv (xg X))).toArray U := by
  obtain ⟨⟨hx, hb, hml, hown, hts, hKG, hbase⟩, -⟩ := hX
  refine ⟨rfl, Nat.le_trans hbase (by rw [hU]; exact hS.1), by rw [hU]; exact hP, KG.go hKG hW (fun q h1 h2 => by rw [hU]; exact hS.2.1 q h1 h2)⟩
theorem gcallV (hmet : MetO y M' (.inr (.inl o) :: as) σ oc) {ci : Nat} (hci : ci < 3) (ho : o = ob ci) (hy : y.cls = cR ci) (hd : m_d M' + 1 ≤ m_d M) (hn : m_nL M' ≤ 11)
    (hdesc : y.cls ≠ "java/lang/invoke/MethodHandle" ∧ y.cls ≠ "java/lang/invoke/VarHandle" ∧ (parseMethodDescriptor y.desc).map (fun d => d.parameters.length) = some as.length)
    (h1 : Jvm.Cond.methodLink (m_own M) ix y ∈ gtbl) (h2 : Jvm.Cond.instanceMethod y ∈ gtbl) (h3 : Jvm.Cond.selects y.cls y y ∈ gtbl) (h4 : Jvm.Cond.initialized y.cls ∈ gtbl) (h5 : Jvm.Cond.code y (m_cc M') (m_nL M') (m_ret M') ∈ gtbl) : CallGo M ix o as σ oc := by
  intro X Rt Th hX pc L rest hr hpost
  refine ⟨fun _ hdg H locs ls hP hS hl => ?_, fun h9 => absurd h9 (by rw [ho]; match ci, hci with | 0, _ | 1, _ | 2, _ => decide)⟩
  obtain ⟨⟨hx, hb, hml, hown, hts, hKG, hbase⟩, ⟨hr1, hr2, -, -⟩, hRt, hTh, hTs, htr⟩ := id hX
  have hG : GoodIn gtbl (wsV (m_own M) ix y.cls y (wsG y M')) := good_in (by
    intro w hw
    rcases List.mem_append.mp hw with h | h
    · simp only [List.mem_cons, List.mem_nil_iff, or_false] at h
      rcases h with rfl | rfl | rfl | rfl
      · exact h1
      · exact h2
      · exact h3
      · exact h4
    · rcases List.mem_cons.mp h with rfl | h
      · exact h5
      · exact h)
  have es : (as.reverse ++ .inr (.inl o) :: rest).map (cv (xg X)) = (as.map (cv (xg X))).reverse ++ Value.ref (gad (xg X) o) :: rest.map (cv (xg X)) := by
    rw [List.map_append, List.map_reverse]; rfl
  have hrec := va_recv hKG.1 hP (ci := ci) (q0 := ob ci) (a := gad (xg X) o) (mw_ob (xg X) σ hci).2 (by rw [ho]; exact (mw_ob (xg X) σ hci).1)
  rw [es]
  exact go_run (a := (Value.ref (gad (xg X) o) :: as.map (cv (xg X))).toArray) hX hS hl hpost (vx_runV (As := as.map (cv (xg X))) (rest := rest.map (cv (xg X))) (C := y.cls) ⟨hx, hb, hml, hown, hts⟩ (hmet (xl X) (xg X) htr)
    (cwV as.length hts hG rfl rfl rfl ⟨rfl, hdesc.1, hdesc.2.1, hdesc.2.2⟩ ⟨by show 8 + m_d M' + 1 ≤ _; omega, by show 8 + (m_nL M' + 11) + (100 + 30 * m_d M') ≤ _; omega⟩)
    ⟨PcG.blind, by rw [hy]; exact hrec, fun U hU hW => pre_of hX hP hS (.inr (.inl o) :: as) U hU hW⟩ rfl (by rw [List.length_map]) hl.1.1 rfl (lv_room (Nat.le_trans (catsum (xg X) rest) (by omega))) hdg (room_of hX hpost))
theorem gcallS (hmet : MetO y M' as σ oc) (hy : y.cls = m_own M) (hd : m_d M' + 1 ≤ m_d M) (hn : m_nL M' ≤ 11)
    (hdesc : y.cls ≠ "java/lang/invoke/MethodHandle" ∧ y.cls ≠ "java/lang/invoke/VarHandle" ∧ (parseMethodDescriptor y.desc).map (fun d => d.parameters.length) = some as.length)
    (h1 : Jvm.Cond.methodLink (m_own M) ix y ∈ gtbl) (h2 : Jvm.Cond.static y ∈ gtbl) (h4 : Jvm.Cond.initialized y.cls ∈ gtbl) (h5 : Jvm.Cond.code y (m_cc M') (m_nL M') (m_ret M') ∈ gtbl) : CallGo M ix 99 as σ oc := by
  intro X Rt Th hX pc L rest hr hpost
  refine ⟨fun h9 => absurd h9 (by decide), fun _ hdg H locs ls hP hS hl => ?_⟩
  obtain ⟨⟨hx, hb, hml, hown, hts, hKG, hbase⟩, ⟨hr1, hr2, -, -⟩, hRt, hTh, hTs, htr⟩ := id hX
  have hG : GoodIn gtbl (wsS (m_own M) ix y (wsG y M')) := good_in (by
    intro w hw
    rcases List.mem_append.mp hw with h | h
    · simp only [List.mem_cons, List.mem_nil_iff, or_false] at h
      rcases h with rfl | rfl | rfl
      · exact h1
      · exact h2
      · rw [← hy]; exact h4
    · rcases List.mem_cons.mp h with rfl | h
      · exact h5
      · exact h)
  have es : (as.reverse ++ rest).map (cv (xg X)) = (as.map (cv (xg X))).reverse ++ rest.map (cv (xg X)) := by
    rw [List.map_append, List.map_reverse]
  rw [es]
  exact go_run (a := (as.map (cv (xg X))).toArray) hX hS hl hpost (vx_runS (As := as.map (cv (xg X))) (rest := rest.map (cv (xg X))) ⟨hx, hb, hml, hown, hts⟩ (hmet (xl X) (xg X) htr)
    (cwS as.length hts hG rfl rfl rfl ⟨hy, hdesc.1, hdesc.2.1, hdesc.2.2⟩ ⟨by show 8 + m_d M' + 1 ≤ _; omega, by show 8 + (m_nL M' + 11) + (100 + 30 * m_d M') ≤ _; omega⟩)
    ⟨PcG.blind, fun U hU hW => pre_of hX hP hS as U hU hW⟩ rfl (by rw [List.length_map]) hl.1.1 rfl (lv_room (Nat.le_trans (catsum (xg X) rest) (by omega))) hdg (room_of hX hpost))
/-- Math.max -/
theorem gcallMax {x z : Int32} (h1 : Jvm.Cond.methodLink (m_own M) ix Lib.Math.max.name ∈ gtbl) (h2 : Jvm.Cond.static Lib.Math.max.name ∈ gtbl) (h3 : Jvm.Cond.initialized "java/lang/Math" ∈ gtbl) (h4 : Jvm.Cond.code Lib.Math.max.name Lib.Math.max.code 2 (some .int) ∈ gtbl) :
    CallGo M ix 99 [.inl x, .inl z] σ (.inl (some (.inl (if x < z then z else x)), σ)) := by
  intro X Rt Th hX pc L rest hr hpost
  refine ⟨fun h9 => absurd h9 (by decide), fun _ hdg H locs ls hP hS hl => ?_⟩
  obtain ⟨⟨hx, hb, hml, hown, hts, hKG, hbase⟩, ⟨hr1, hr2, hr3, hr4⟩, hRt, hTh, hTs, htr⟩ := id hX
  have hc := catsum (xg X) rest
  exact va_mmax hx hb (hml.trans hl.1.1.symm) hown (hts _ h1) (hts _ h2) (hts _ h3) (hts _ h4) (by omega) (Nat.le_trans (Nat.add_le_add_right hc 13) (by omega)) hr3 hr4 hdg (hpost H locs ls hP hS hl)
end CALL
/-! a method's body -/
def names2 : List String := ["java/lang/RuntimeException", "java/lang/Exception"]
def ThrW (own : String) (ik ic : Nat) (E : String) : Prop := Jvm.Cond.classLink own ik E ∈ gtbl ∧ Jvm.Cond.initialized E ∈ gtbl ∧ (∀ w ∈ vx_atS own ic E names2, w ∈ gtbl ∨ w ∈ dtbl) ∧ Bundle.fit E = true
/-- .. and the class whose constructor links its superclass's elsewhere -/
def rxN : ByteArray := prog_15_method_4_code
theorem rxN_0 : decode rxN 0 = .ok (.aload_n 0, 1) := by decide +kernel
theorem rxN_1 : decode rxN 1 = .ok (.aload_n 1, 1) := by decide +kernel
theorem rxN_2 : decode rxN 2 = .ok (.invokespecial 13, 3) := by decide +kernel
theorem rxN_5 : decode rxN 5 = .ok (.return_, 1) := by decide +kernel
def atN (own : String) (ic : Nat) (E : String) : List Jvm.Cond := nx_at own ic E 13 rxN "java/lang/RuntimeException" ["java/lang/Exception"]
def ThrN (own : String) (ik ic : Nat) (E : String) : Prop := Jvm.Cond.classLink own ik E ∈ gtbl ∧ Jvm.Cond.initialized E ∈ gtbl ∧ (∀ w ∈ atN own ic E, w ∈ gtbl ∨ w ∈ dtbl) ∧ Bundle.fit E = true
def SiteF (M : MI) (q : Nat × String) : Prop := ∃ (ik is ic : Nat) (text : String), (decode (m_cc M) q.1 = .ok (.new ik, 3) ∧ decode (m_cc M) (q.1 + 3) = .ok (.dup, 1) ∧ decode (m_cc M) (q.1 + 4) = .ok (.ldc is, 2) ∧ decode (m_cc M) (q.1 + 6) = .ok (.invokespecial ic, 3) ∧ decode (m_cc M) (q.1 + 9) = .ok (.athrow, 1)) ∧
  (m_own M, is, text) ∈ strs ∧ (ThrW (m_own M) ik ic q.2 ∨ ThrN (m_own M) ik ic q.2)
def RtO (oc : OC) : Option AV → Mem → Prop := fun r σ => oc = .inl (r, σ)
def ThO (oc : OC) : Nat → String → Mem → Prop := fun _ E σ => oc = .inr (E, σ)
abbrev CxO (X : CT) (M : MI) (oc : OC) : Prop := Cx X M (RtO oc) (ThO oc)
theorem vx_ot_g {w : Jvm.Cond} (h : w ∈ gtbl) : vx_ot w = true := by
  unfold vx_ot
  rw [(List.mem_filter.mp h).2, Bool.or_true]
theorem vx_ot_d {w : Jvm.Cond} (h : w ∈ dtbl) : vx_ot w = true := by
  unfold vx_ot
  rw [nw_tab (List.mem_filter.mp h).2, Bool.true_or]
theorem args_in (g : GT) : ∀ (as : List AV) (k j n : Nat) (v : AV), (∀ v ∈ as, noL v) → lg (as.map some ++ List.replicate n none) j = some v → (k + j, cv g v) ∈ lv_args k (as.map (cv g)) ∧ noL v
  | [], k, j, n, v, _, h => by
    exfalso
    have hr : ∀ (n j : Nat), lg (List.replicate n (none : Option AV)) j = none := by
      intro n
      induction n with
      | zero => intro j; rfl
      | succ n ih =>
        intro j
        cases j with
        | zero => rfl
        | succ j => exact ih j
    rw [show ([] : List AV).map some ++ List.replicate n none = List.replicate n none from rfl, hr] at h
    cases h
  | w :: as, k, 0, n, v, hn, h => by
    cases h
    exact ⟨List.mem_cons_self, hn _ List.mem_cons_self⟩
  | w :: as, k, j + 1, n, v, hn, h => by
    have h1 := args_in g as (k + 1) j n v (fun v hv => hn v (List.mem_cons_of_mem _ hv)) h
    have hc := cat1 (g := g) (hn w List.mem_cons_self)
    refine ⟨?_, h1.2⟩
    show (k + (j + 1), cv g v) ∈ (k, cv g w) :: lv_args (if (cv g w).category = 2 then k + 2 else k + 1) (as.map (cv g))
    rw [if_neg (by omega), show k + (j + 1) = k + 1 + j by omega]
    exact List.mem_cons_of_mem _ h1.1
theorem sl_len (g : GT) : ∀ (as : List AV), (∀ v ∈ as, noL v) → (lg_sl (as.map (cv g))).length = as.length
  | [], _ => rfl
  | w :: as, hn => by
    have h1 := sl_len g as (fun v hv => hn v (List.mem_cons_of_mem _ hv))
    have hc := cat1 (g := g) (hn w List.mem_cons_self)
    unfold lg_sl at h1 ⊢
    rw [List.map_cons, List.flatMap_cons, List.length_append, h1, if_neg (by omega)]
    show 1 + as.length = as.length + 1
    omega
theorem met_of {y : MethodName} {M : MI} {as : List AV} {σ : Mem} {oc : OC} (hy : y.cls = m_own M ∧ plainName y.cls = true) (hs : ∀ q ∈ m_tr M, SiteF M q) (hlen : as.length ≤ m_nL M) (hno : ∀ v ∈ as, noL v)
    (h : ∀ X, CxO X M oc → Go X M 0 (as.map some ++ List.replicate (m_nL M - as.length) none) [] σ) : MetO y M as σ oc := by
  intro l g htr
  refine vx_ofW (cc := m_cc M) (maxL := m_nL M) (ret := m_ret M) hy.2 rfl ?_
  intro p e s m args below meth c s₁ B hml hexc hPc
  obtain ⟨rfl, hbase, hP, hKG⟩ := hPc
  have hts0 := atoms_spec (ws := wsG y M) B.pre
  have hts : ∀ w ∈ gtbl, w.before (as.map (cv g)).toArray s = true := fun w hw => hts0 w (List.mem_cons_of_mem _ hw)
  have hown : s.vm.findClass (m_own M) = some m.cls := hy.1 ▸ findClass_of_methodNamed B.named
  have hlocks := B.notSynchronized
  have hr := B.returns
  have hout : ∀ (pc : Nat), ∀ x ∈ c.exceptionTable.toList, covers x pc = false := fun pc x hx => (hexc x hx).elim
  let X : CT := (p, l, e, rmm (m_d M) (on oc), s, m, (as.map (cv g)).toArray, below, meth, c, g, vx_MQ below (OQ g oc) (OX g oc) (as.map (cv g)).toArray s (on oc) (6 * on oc) (gA g), 0, 0)
  have hX : CxO X M oc := by
    refine ⟨⟨B.exec, B.bytes, hml, hown, hts, hKG, hbase⟩, ⟨Nat.le_refl _, Nat.le_refl _, Nat.zero_le _, Nat.zero_le _⟩, ?_, ?_, ?_, htr⟩
    · intro r σ' pc H locs ls he hP1 hS1 hd
      have he : oc = .inl (r, σ') := he
      subst he
      cases r with
      | none =>
        obtain ⟨h1, h2⟩ := hd
        exact vx_ret (W.vret B.exec B.bytes (hr.trans h1) (fun t ht hW => ⟨rfl, by rw [ht]; exact hP1, hS1.F ht⟩) hS1.2.2 h2 hlocks)
      | some v =>
        obtain ⟨x, ty, rfl, h1, h2, h3⟩ := hd
        exact vx_ret (W.zret B.exec B.bytes (hr.trans h1) h2 (fun t ht hW => ⟨rfl, by rw [ht]; exact hP1, hS1.F ht⟩) hS1.2.2 h3 hlocks)
    · intro pc E σ' he
      have he : oc = .inr (E, σ') := he
      subst he
      refine ⟨⟨Nat.le_refl _, Nat.le_refl _⟩, fun H locs ls rest q ce hP1 hS1 hl hce hcv hcl => ?_⟩
      exact vx_out (hout pc) hlocks hce hcv hcl (fun t ht hA => ⟨rfl, by rw [ht]; exact hP1, hS1.F ht⟩) hS1.2.2 (Nat.le_refl _) (Nat.le_refl _)
    · intro pc E σ' hin he H locs ls hP1 hS1 hsz
      have he : oc = .inr (E, σ') := he
      subst he
      obtain ⟨ik, is, ic, text, ⟨d0, d3, d4, d6, d9⟩, hstr, hcc⟩ := hs _ hin
      obtain ⟨sa, hsa⟩ := hKG.2.2.1 _ hstr
      have hF : ∀ t : State, H.size ≤ t.heap.size → (∀ q : Nat, q < H.size → t.heap[q]? = H[q]?) → va_F (gA g) s t := by
        intro t hz hk
        refine ⟨Nat.le_trans hS1.1 hz, fun q h1 h2 => ?_⟩
        rw [hk q (Nat.lt_of_lt_of_le h1 hS1.1)]
        exact hS1.2.1 q h1 h2
      rcases hcc with ⟨hc1, hc2, hc3, hfit⟩ | ⟨hc1, hc2, hc3, hfit⟩
      · refine vx_throwS (names := names2) B.exec B.bytes htr hown hfit (by decide +kernel) (hts _ hc1) (hts _ hc2) hsa (fun w hw => ?_) (fun w hw => ?_) hKG.2.2.2.2.1 hKG.2.2.2.2.2.1 hS1 (hsz.trans hml.symm) d0 d3 d4 d6 d9 (hout _)
          (by show 2 + 3 < 8 + m_d M; omega) (by show 0 + (13 * (2 + 1) + 43) ≤ 100 + 30 * m_d M; omega) (Nat.le_refl _) (Nat.le_refl _) hlocks (fun t hA hz hk => ⟨rfl, hP1.kept (fun k q hq => hk q.1 (vx_lt hP1 hq)), hF t hz hk⟩) hS1.2.2 (Nat.le_refl _) (Nat.le_refl _)
        · rcases hc3 w hw with h1 | h1
          · exact hts w h1
          · exact va_Nw.use (nw_tab (List.mem_filter.mp h1).2) (hKG.2.1 w h1)
        · rcases List.mem_cons.mp hw with rfl | hw
          · exact vx_ot_g hc1
          · rcases List.mem_cons.mp hw with rfl | hw
            · exact vx_ot_g hc2
            · rcases hc3 w hw with h1 | h1
              · exact vx_ot_g h1
              · exact vx_ot_d h1
      · refine nx_throw (rx := rxN) (ix := 13) (Y0 := "java/lang/RuntimeException") (names := ["java/lang/Exception"]) B.exec B.bytes htr rxN_0 rxN_1 rxN_2 rxN_5 hown hfit (by decide +kernel) (by decide +kernel) (hts _ hc1) (hts _ hc2) hsa (fun w hw => ?_) (fun w hw => ?_) hKG.2.2.2.2.1 hKG.2.2.2.2.2.1 hS1 (hsz.trans hml.symm) d0 d3 d4 d6 d9 (hout _)
          (by show 1 + 4 < 8 + m_d M; omega) (by show 0 + (13 * (1 + 2) + 43) ≤ 100 + 30 * m_d M; omega) (Nat.le_refl _) (Nat.le_refl _) hlocks (fun t hA hz hk => ⟨rfl, hP1.kept (fun k q hq => hk q.1 (vx_lt hP1 hq)), hF t hz hk⟩) hS1.2.2 (Nat.le_refl _) (Nat.le_refl _)
        · rcases hc3 w hw with h1 | h1
          · exact hts w h1
          · exact va_Nw.use (nw_tab (List.mem_filter.mp h1).2) (hKG.2.1 w h1)
        · rcases List.mem_cons.mp hw with rfl | hw
          · exact vx_ot_g hc1
          · rcases List.mem_cons.mp hw with rfl | hw
            · exact vx_ot_g hc2
            · rcases hc3 w hw with h1 | h1
              · exact vx_ot_g h1
              · exact vx_ot_d h1
  have hG := h X hX
  have hl := lv_entry (as.map (cv g)) (n := m_nL M) (by rw [sl_len g as hno]; exact hlen)
  have h9 := hG s.heap [] _ hP va_S.rf ⟨⟨hl.1, hl.2.1, fun q hq => by cases hq⟩, fun i v hv => by
    have h1 := args_in g as 0 i _ v hno hv
    rw [Nat.zero_add] at h1
    exact ⟨hl.2.2 _ h1.1, h1.2⟩⟩
  rw [lg_entry_eq]
  exact h9
/-- words by their places -/
theorem gw {w : Jvm.Cond} (i : Nat) (h : lw_tbl[i]? = some w) (hg : goodWord w = true) : w ∈ gtbl := List.mem_filter.mpr ⟨List.mem_of_getElem? h, hg⟩
/-- what a callee's words are: a method of an object, a static one -/
def CV (y : MethodName) (M' : MI) : Prop := Jvm.Cond.instanceMethod y ∈ gtbl ∧ Jvm.Cond.selects y.cls y y ∈ gtbl ∧ Jvm.Cond.initialized y.cls ∈ gtbl ∧ Jvm.Cond.code y (m_cc M') (m_nL M') (m_ret M') ∈ gtbl
def CS (y : MethodName) (M' : MI) : Prop := Jvm.Cond.static y ∈ gtbl ∧ Jvm.Cond.initialized y.cls ∈ gtbl ∧ Jvm.Cond.code y (m_cc M') (m_nL M') (m_ret M') ∈ gtbl
def Snd (y : MethodName) (M' : MI) (o n : Nat) (f : CTy) : Prop := ∀ (as : List AV) (σ : Mem) (KN : Option AV → Mem → Prop) (KX : String → Mem → Prop), as.length = n → f as σ KN KX →
  ∃ oc : OC, (match oc with | .inl z => KN z.1 z.2 | .inr z => KX z.1 z.2) ∧ MetO y M' (.inr (.inl o) :: as) σ oc
def SndS (y : MethodName) (M' : MI) (n : Nat) (f : CTy) : Prop := ∀ (as : List AV) (σ : Mem) (KN : Option AV → Mem → Prop) (KX : String → Mem → Prop), as.length = n → f as σ KN KX →
  ∃ oc : OC, (match oc with | .inl z => KN z.1 z.2 | .inr z => KX z.1 z.2) ∧ MetO y M' as σ oc
theorem okV {M M' : MI} {y : MethodName} {ix n : Nat} {f : CTy} (ci : Nat) (hci : ci < 3) (hs : Snd y M' (ob ci) n f) (hy : y.cls = cR ci) (hd : m_d M' + 1 ≤ m_d M) (hn : m_nL M' ≤ 11)
    (hdesc : y.cls ≠ "java/lang/invoke/MethodHandle" ∧ y.cls ≠ "java/lang/invoke/VarHandle" ∧ (parseMethodDescriptor y.desc).map (fun d => d.parameters.length) = some n) (h1 : Jvm.Cond.methodLink (m_own M) ix y ∈ gtbl) (h2 : CV y M') : CallOK M (ix, (ob ci, n, f)) := by
  intro as σ KN KX hl hf
  obtain ⟨oc, h3, h4⟩ := hs as σ KN KX hl hf
  have hl : as.length = n := hl
  subst hl
  exact ⟨oc, h3, gcallV h4 hci rfl hy hd hn hdesc h1 h2.1 h2.2.1 h2.2.2.1 h2.2.2.2⟩
theorem okS {M M' : MI} {y : MethodName} {ix n : Nat} {f : CTy} (hs : SndS y M' n f) (hy : y.cls = m_own M) (hd : m_d M' + 1 ≤ m_d M) (hn : m_nL M' ≤ 11)
    (hdesc : y.cls ≠ "java/lang/invoke/MethodHandle" ∧ y.cls ≠ "java/lang/invoke/VarHandle" ∧ (parseMethodDescriptor y.desc).map (fun d => d.parameters.length) = some n) (h1 : Jvm.Cond.methodLink (m_own M) ix y ∈ gtbl) (h2 : CS y M') : CallOK M (ix, (99, n, f)) := by
  intro as σ KN KX hl hf
  obtain ⟨oc, h3, h4⟩ := hs as σ KN KX hl hf
  have hl : as.length = n := hl
  subst hl
  exact ⟨oc, h3, gcallS h4 hy hd hn hdesc h1 h2.1 h2.2.1 h2.2.2⟩
def ct_max : CTy := fun as σ KN _ => match as with
  | [.inl x, .inl z] => KN (some (.inl (if x < z then z else x))) σ
  | _ => False
theorem okMax {M : MI} {ix : Nat} (h1 : Jvm.Cond.methodLink (m_own M) ix Lib.Math.max.name ∈ gtbl) (h2 : Jvm.Cond.static Lib.Math.max.name ∈ gtbl) (h3 : Jvm.Cond.initialized "java/lang/Math" ∈ gtbl) (h4 : Jvm.Cond.code Lib.Math.max.name Lib.Math.max.code 2 (some .int) ∈ gtbl) : CallOK M (ix, (99, 2, ct_max)) := by
  intro as σ KN KX hl hf
  match as, hf with
  | [.inl x, .inl z], hf => exact ⟨.inl (some (.inl (if x < z then z else x)), σ), hf, gcallMax h1 h2 h3 h4⟩
end
section
/-! names, bytes, tables: printed by a program out of the listing, checked by the kernel -/
abbrev b_X_take : ByteArray := prog_1_method_2_code
def y_X_take : MethodName := ⟨"RootedWords", "take", "(II)I"⟩
def f_X_take : Nat → Option TE := fun pc => cond (Nat.ble pc 91) (cond (Nat.ble pc 50) (cond (Nat.ble pc 16) (cond (Nat.ble pc 5) (cond (Nat.ble pc 1) (cond (Nat.ble pc 0) (cond (Nat.beq pc 0) (some (.aload_n 0, 1, 0, 0)) none) (cond (Nat.beq pc 1) (some (.invokevirtual 34, 4, 0, 0)) none)) (cond (Nat.ble pc 4) (cond (Nat.beq pc 4) (some (.iload_n 1, 5, 1, 0)) none) (cond (Nat.beq pc 5) (some (.iconst 1, 6, 0, nI 1)) none))) (cond (Nat.ble pc 9) (cond (Nat.ble pc 6) (cond (Nat.beq pc 6) (some (.if_icmp .lt 10, 9, 16, 0)) none) (cond (Nat.beq pc 9) (some (.iload_n 1, 10, 1, 0)) none)) (cond (Nat.ble pc 10) (cond (Nat.beq pc 10) (some (.sipush 254, 13, 0, nI 254)) none) (cond (Nat.ble pc 13) (cond (Nat.beq pc 13) (some (.if_icmp .le 13, 16, 26, 0)) none) (cond (Nat.beq pc 16) (some (.new 37, 19, 0, 0)) none))))) (cond (Nat.ble pc 32) (cond (Nat.ble pc 27) (cond (Nat.ble pc 26) (cond (Nat.beq pc 26) (some (.iload_n 2, 27, 2, 0)) none) (cond (Nat.beq pc 27) (some (.ifCond .lt 8, 30, 35, 0)) none)) (cond (Nat.ble pc 30) (cond (Nat.beq pc 30) (some (.iload_n 2, 31, 2, 0)) none) (cond (Nat.ble pc 31) (cond (Nat.beq pc 31) (some (.iload_n 1, 32, 1, 0)) none) (cond (Nat.beq pc 32) (some (.if_icmp .le 13, 35, 45, 0)) none)))) (cond (Nat.ble pc 45) (cond (Nat.ble pc 35) (cond (Nat.beq pc 35) (some (.new 37, 38, 0, 0)) none) (cond (Nat.beq pc 45) (some (.aload_n 0, 46, 0, 0)) none)) (cond (Nat.ble pc 46) (cond (Nat.beq pc 46) (some (.iload_n 1, 47, 1, 0)) none) (cond (Nat.ble pc 47) (cond (Nat.beq pc 47) (some (.invokevirtual 46, 50, 0, 0)) none) (cond (Nat.beq pc 50) (some (.istore_n 3, 51, 3, 0)) none)))))) (cond (Nat.ble pc 75) (cond (Nat.ble pc 66) (cond (Nat.ble pc 52) (cond (Nat.ble pc 51) (cond (Nat.beq pc 51) (some (.iload_n 3, 52, 3, 0)) none) (cond (Nat.beq pc 52) (some (.iconst (-1), 53, 0, -1)) none)) (cond (Nat.ble pc 53) (cond (Nat.beq pc 53) (some (.if_icmp .ne 13, 56, 66, 0)) none) (cond (Nat.ble pc 56) (cond (Nat.beq pc 56) (some (.new 50, 59, 0, 0)) none) (cond (Nat.beq pc 66) (some (.aload_n 0, 67, 0, 0)) none)))) (cond (Nat.ble pc 68) (cond (Nat.ble pc 67) (cond (Nat.beq pc 67) (some (.iload_n 3, 68, 3, 0)) none) (cond (Nat.beq pc 68) (some (.invokevirtual 55, 71, 0, 0)) none)) (cond (Nat.ble pc 71) (cond (Nat.beq pc 71) (some (.istore 4, 73, 4, 0)) none) (cond (Nat.ble pc 73) (cond (Nat.beq pc 73) (some (.iload 4, 75, 4, 0)) none) (cond (Nat.beq pc 75) (some (.iconst 2, 76, 0, nI 2)) none))))) (cond (Nat.ble pc 81) (cond (Nat.ble pc 77) (cond (Nat.ble pc 76) (cond (Nat.beq pc 76) (some (.isub, 77, 0, 0)) none) (cond (Nat.beq pc 77) (some (.iload_n 1, 78, 1, 0)) none)) (cond (Nat.ble pc 78) (cond (Nat.beq pc 78) (some (.isub, 79, 0, 0)) none) (cond (Nat.ble pc 79) (cond (Nat.beq pc 79) (some (.istore 5, 81, 5, 0)) none) (cond (Nat.beq pc 81) (some (.iload 5, 83, 5, 0)) none)))) (cond (Nat.ble pc 84) (cond (Nat.ble pc 83) (cond (Nat.beq pc 83) (some (.iconst 3, 84, 0, nI 3)) none) (cond (Nat.beq pc 84) (some (.if_icmp .lt 11, 87, 95, 0)) none)) (cond (Nat.ble pc 87) (cond (Nat.beq pc 87) (some (.iload 4, 89, 4, 0)) none) (cond (Nat.ble pc 89) (cond (Nat.beq pc 89) (some (.iload 5, 91, 5, 0)) none) (cond (Nat.beq pc 91) (some (.isub, 92, 0, 0)) none))))))) (cond (Nat.ble pc 124) (cond (Nat.ble pc 107) (cond (Nat.ble pc 99) (cond (Nat.ble pc 95) (cond (Nat.ble pc 92) (cond (Nat.beq pc 92) (some (.goto 5, 95, 97, 0)) none) (cond (Nat.beq pc 95) (some (.iload 4, 97, 4, 0)) none)) (cond (Nat.ble pc 97) (cond (Nat.beq pc 97) (some (.istore 6, 99, 6, 0)) none) (cond (Nat.beq pc 99) (some (.aload_n 0, 100, 0, 0)) none))) (cond (Nat.ble pc 101) (cond (Nat.ble pc 100) (cond (Nat.beq pc 100) (some (.iload_n 3, 101, 3, 0)) none) (cond (Nat.beq pc 101) (some (.iload 6, 103, 6, 0)) none)) (cond (Nat.ble pc 103) (cond (Nat.beq pc 103) (some (.invokevirtual 58, 106, 0, 0)) none) (cond (Nat.ble pc 106) (cond (Nat.beq pc 106) (some (.aload_n 0, 107, 0, 0)) none) (cond (Nat.beq pc 107) (some (.iconst 0, 108, 0, nI 0)) none))))) (cond (Nat.ble pc 113) (cond (Nat.ble pc 109) (cond (Nat.ble pc 108) (cond (Nat.beq pc 108) (some (.iload_n 3, 109, 3, 0)) none) (cond (Nat.beq pc 109) (some (.iload 6, 111, 6, 0)) none)) (cond (Nat.ble pc 111) (cond (Nat.beq pc 111) (some (.iconst 1, 112, 0, nI 1)) none) (cond (Nat.ble pc 112) (cond (Nat.beq pc 112) (some (.iload_n 2, 113, 2, 0)) none) (cond (Nat.beq pc 113) (some (.iadd, 114, 0, 0)) none)))) (cond (Nat.ble pc 117) (cond (Nat.ble pc 114) (cond (Nat.beq pc 114) (some (.invokevirtual 61, 117, 0, 0)) none) (cond (Nat.beq pc 117) (some (.iload 6, 119, 6, 0)) none)) (cond (Nat.ble pc 119) (cond (Nat.beq pc 119) (some (.iload 4, 121, 4, 0)) none) (cond (Nat.ble pc 121) (cond (Nat.beq pc 121) (some (.if_icmp .ge 26, 124, 147, 0)) none) (cond (Nat.beq pc 124) (some (.aload_n 0, 125, 0, 0)) none)))))) (cond (Nat.ble pc 140) (cond (Nat.ble pc 130) (cond (Nat.ble pc 126) (cond (Nat.ble pc 125) (cond (Nat.beq pc 125) (some (.iconst 1, 126, 0, nI 1)) none) (cond (Nat.beq pc 126) (some (.iload_n 3, 127, 3, 0)) none)) (cond (Nat.ble pc 127) (cond (Nat.beq pc 127) (some (.iload 6, 129, 6, 0)) none) (cond (Nat.ble pc 129) (cond (Nat.beq pc 129) (some (.iadd, 130, 0, 0)) none) (cond (Nat.beq pc 130) (some (.iload 5, 132, 5, 0)) none)))) (cond (Nat.ble pc 133) (cond (Nat.ble pc 132) (cond (Nat.beq pc 132) (some (.iconst 0, 133, 0, nI 0)) none) (cond (Nat.beq pc 133) (some (.invokevirtual 61, 136, 0, 0)) none)) (cond (Nat.ble pc 136) (cond (Nat.beq pc 136) (some (.aload_n 0, 137, 0, 0)) none) (cond (Nat.ble pc 137) (cond (Nat.beq pc 137) (some (.getfield 12, 140, 0, 0)) none) (cond (Nat.beq pc 140) (some (.iconst 4, 141, 0, nI 4)) none))))) (cond (Nat.ble pc 151) (cond (Nat.ble pc 144) (cond (Nat.ble pc 141) (cond (Nat.beq pc 141) (some (.invokevirtual 65, 144, 0, 0)) none) (cond (Nat.beq pc 144) (some (.goto 11, 147, 155, 0)) none)) (cond (Nat.ble pc 147) (cond (Nat.beq pc 147) (some (.aload_n 0, 148, 0, 0)) none) (cond (Nat.ble pc 148) (cond (Nat.beq pc 148) (some (.getfield 12, 151, 0, 0)) none) (cond (Nat.beq pc 151) (some (.iconst 2, 152, 0, nI 2)) none)))) (cond (Nat.ble pc 155) (cond (Nat.ble pc 152) (cond (Nat.beq pc 152) (some (.invokevirtual 65, 155, 0, 0)) none) (cond (Nat.beq pc 155) (some (.iload_n 3, 156, 3, 0)) none)) (cond (Nat.ble pc 156) (cond (Nat.beq pc 156) (some (.iconst 1, 157, 0, nI 1)) none) (cond (Nat.ble pc 157) (cond (Nat.beq pc 157) (some (.iadd, 158, 0, 0)) none) (cond (Nat.beq pc 158) (some (.ireturn, 159, 0, 0)) none)))))))
set_option maxRecDepth 100000 in
theorem k_X_take : (List.range 159).all (fun pc => match f_X_take pc with | none => true | some q => chk b_X_take 7 pc q) = true := by decide +kernel
abbrev b_X_give : ByteArray := prog_1_method_3_code
def y_X_give : MethodName := ⟨"RootedWords", "give", "(I)I"⟩
def f_X_give : Nat → Option TE := fun pc => cond (Nat.ble pc 42) (cond (Nat.ble pc 16) (cond (Nat.ble pc 9) (cond (Nat.ble pc 4) (cond (Nat.ble pc 0) (cond (Nat.beq pc 0) (some (.aload_n 0, 1, 0, 0)) none) (cond (Nat.ble pc 1) (cond (Nat.beq pc 1) (some (.invokevirtual 34, 4, 0, 0)) none) (cond (Nat.beq pc 4) (some (.aload_n 0, 5, 0, 0)) none))) (cond (Nat.ble pc 5) (cond (Nat.beq pc 5) (some (.iload_n 1, 6, 1, 0)) none) (cond (Nat.ble pc 6) (cond (Nat.beq pc 6) (some (.invokevirtual 69, 9, 0, 0)) none) (cond (Nat.beq pc 9) (some (.iload_n 1, 10, 1, 0)) none)))) (cond (Nat.ble pc 12) (cond (Nat.ble pc 10) (cond (Nat.beq pc 10) (some (.iconst 1, 11, 0, nI 1)) none) (cond (Nat.ble pc 11) (cond (Nat.beq pc 11) (some (.isub, 12, 0, 0)) none) (cond (Nat.beq pc 12) (some (.istore_n 2, 13, 2, 0)) none))) (cond (Nat.ble pc 14) (cond (Nat.ble pc 13) (cond (Nat.beq pc 13) (some (.iload_n 2, 14, 2, 0)) none) (cond (Nat.beq pc 14) (some (.aload_n 0, 15, 0, 0)) none)) (cond (Nat.ble pc 15) (cond (Nat.beq pc 15) (some (.iload_n 2, 16, 2, 0)) none) (cond (Nat.beq pc 16) (some (.invokevirtual 55, 19, 0, 0)) none))))) (cond (Nat.ble pc 29) (cond (Nat.ble pc 21) (cond (Nat.ble pc 19) (cond (Nat.beq pc 19) (some (.iadd, 20, 0, 0)) none) (cond (Nat.ble pc 20) (cond (Nat.beq pc 20) (some (.istore_n 3, 21, 3, 0)) none) (cond (Nat.beq pc 21) (some (.iload_n 3, 22, 3, 0)) none))) (cond (Nat.ble pc 25) (cond (Nat.ble pc 22) (cond (Nat.beq pc 22) (some (.sipush 256, 25, 0, nI 256)) none) (cond (Nat.beq pc 25) (some (.if_icmp .gt 19, 28, 44, 0)) none)) (cond (Nat.ble pc 28) (cond (Nat.beq pc 28) (some (.aload_n 0, 29, 0, 0)) none) (cond (Nat.beq pc 29) (some (.iload_n 3, 30, 3, 0)) none)))) (cond (Nat.ble pc 36) (cond (Nat.ble pc 30) (cond (Nat.beq pc 30) (some (.invokevirtual 72, 33, 0, 0)) none) (cond (Nat.ble pc 33) (cond (Nat.beq pc 33) (some (.ifCond .eq 11, 36, 44, 0)) none) (cond (Nat.beq pc 36) (some (.iload_n 3, 37, 3, 0)) none))) (cond (Nat.ble pc 38) (cond (Nat.ble pc 37) (cond (Nat.beq pc 37) (some (.aload_n 0, 38, 0, 0)) none) (cond (Nat.beq pc 38) (some (.iload_n 3, 39, 3, 0)) none)) (cond (Nat.ble pc 39) (cond (Nat.beq pc 39) (some (.invokevirtual 55, 42, 0, 0)) none) (cond (Nat.beq pc 42) (some (.iadd, 43, 0, 0)) none)))))) (cond (Nat.ble pc 62) (cond (Nat.ble pc 51) (cond (Nat.ble pc 45) (cond (Nat.ble pc 43) (cond (Nat.beq pc 43) (some (.istore_n 3, 44, 3, 0)) none) (cond (Nat.ble pc 44) (cond (Nat.beq pc 44) (some (.iload_n 2, 45, 2, 0)) none) (cond (Nat.beq pc 45) (some (.iconst 1, 46, 0, nI 1)) none))) (cond (Nat.ble pc 49) (cond (Nat.ble pc 46) (cond (Nat.beq pc 46) (some (.if_icmp .le 23, 49, 69, 0)) none) (cond (Nat.beq pc 49) (some (.aload_n 0, 50, 0, 0)) none)) (cond (Nat.ble pc 50) (cond (Nat.beq pc 50) (some (.iload_n 2, 51, 2, 0)) none) (cond (Nat.beq pc 51) (some (.iconst 1, 52, 0, nI 1)) none)))) (cond (Nat.ble pc 56) (cond (Nat.ble pc 52) (cond (Nat.beq pc 52) (some (.isub, 53, 0, 0)) none) (cond (Nat.ble pc 53) (cond (Nat.beq pc 53) (some (.invokevirtual 72, 56, 0, 0)) none) (cond (Nat.beq pc 56) (some (.ifCond .eq 13, 59, 69, 0)) none))) (cond (Nat.ble pc 60) (cond (Nat.ble pc 59) (cond (Nat.beq pc 59) (some (.iload_n 2, 60, 2, 0)) none) (cond (Nat.beq pc 60) (some (.aload_n 0, 61, 0, 0)) none)) (cond (Nat.ble pc 61) (cond (Nat.beq pc 61) (some (.iload_n 2, 62, 2, 0)) none) (cond (Nat.beq pc 62) (some (.iconst 1, 63, 0, nI 1)) none))))) (cond (Nat.ble pc 71) (cond (Nat.ble pc 67) (cond (Nat.ble pc 63) (cond (Nat.beq pc 63) (some (.isub, 64, 0, 0)) none) (cond (Nat.ble pc 64) (cond (Nat.beq pc 64) (some (.invokevirtual 55, 67, 0, 0)) none) (cond (Nat.beq pc 67) (some (.isub, 68, 0, 0)) none))) (cond (Nat.ble pc 69) (cond (Nat.ble pc 68) (cond (Nat.beq pc 68) (some (.istore_n 2, 69, 2, 0)) none) (cond (Nat.beq pc 69) (some (.aload_n 0, 70, 0, 0)) none)) (cond (Nat.ble pc 70) (cond (Nat.beq pc 70) (some (.iload_n 2, 71, 2, 0)) none) (cond (Nat.beq pc 71) (some (.iload_n 3, 72, 3, 0)) none)))) (cond (Nat.ble pc 74) (cond (Nat.ble pc 72) (cond (Nat.beq pc 72) (some (.iload_n 2, 73, 2, 0)) none) (cond (Nat.ble pc 73) (cond (Nat.beq pc 73) (some (.isub, 74, 0, 0)) none) (cond (Nat.beq pc 74) (some (.invokevirtual 76, 77, 0, 0)) none))) (cond (Nat.ble pc 78) (cond (Nat.ble pc 77) (cond (Nat.beq pc 77) (some (.iload_n 2, 78, 2, 0)) none) (cond (Nat.beq pc 78) (some (.iconst 1, 79, 0, nI 1)) none)) (cond (Nat.ble pc 79) (cond (Nat.beq pc 79) (some (.iadd, 80, 0, 0)) none) (cond (Nat.beq pc 80) (some (.ireturn, 81, 0, 0)) none))))))
set_option maxRecDepth 100000 in
theorem k_X_give : (List.range 81).all (fun pc => match f_X_give pc with | none => true | some q => chk b_X_give 4 pc q) = true := by decide +kernel
abbrev b_X_store : ByteArray := prog_1_method_4_code
def y_X_store : MethodName := ⟨"RootedWords", "store", "(III)I"⟩
def f_X_store : Nat → Option TE := fun pc => cond (Nat.ble pc 30) (cond (Nat.ble pc 12) (cond (Nat.ble pc 5) (cond (Nat.ble pc 1) (cond (Nat.ble pc 0) (cond (Nat.beq pc 0) (some (.aload_n 0, 1, 0, 0)) none) (cond (Nat.beq pc 1) (some (.invokevirtual 34, 4, 0, 0)) none)) (cond (Nat.ble pc 4) (cond (Nat.beq pc 4) (some (.aload_n 0, 5, 0, 0)) none) (cond (Nat.beq pc 5) (some (.iload_n 1, 6, 1, 0)) none))) (cond (Nat.ble pc 9) (cond (Nat.ble pc 6) (cond (Nat.beq pc 6) (some (.invokevirtual 69, 9, 0, 0)) none) (cond (Nat.beq pc 9) (some (.aload_n 0, 10, 0, 0)) none)) (cond (Nat.ble pc 10) (cond (Nat.beq pc 10) (some (.iload_n 1, 11, 1, 0)) none) (cond (Nat.ble pc 11) (cond (Nat.beq pc 11) (some (.iload_n 2, 12, 2, 0)) none) (cond (Nat.beq pc 12) (some (.invokevirtual 79, 15, 0, 0)) none))))) (cond (Nat.ble pc 19) (cond (Nat.ble pc 16) (cond (Nat.ble pc 15) (cond (Nat.beq pc 15) (some (.iload_n 2, 16, 2, 0)) none) (cond (Nat.beq pc 16) (some (.aload_n 0, 17, 0, 0)) none)) (cond (Nat.ble pc 17) (cond (Nat.beq pc 17) (some (.iload_n 1, 18, 1, 0)) none) (cond (Nat.ble pc 18) (cond (Nat.beq pc 18) (some (.iconst 1, 19, 0, nI 1)) none) (cond (Nat.beq pc 19) (some (.isub, 20, 0, 0)) none)))) (cond (Nat.ble pc 23) (cond (Nat.ble pc 20) (cond (Nat.beq pc 20) (some (.invokevirtual 82, 23, 0, 0)) none) (cond (Nat.beq pc 23) (some (.if_icmp .ge 25, 26, 48, 0)) none)) (cond (Nat.ble pc 26) (cond (Nat.beq pc 26) (some (.iload_n 3, 27, 3, 0)) none) (cond (Nat.ble pc 27) (cond (Nat.beq pc 27) (some (.ifCond .eq 21, 30, 48, 0)) none) (cond (Nat.beq pc 30) (some (.aload_n 0, 31, 0, 0)) none)))))) (cond (Nat.ble pc 54) (cond (Nat.ble pc 38) (cond (Nat.ble pc 32) (cond (Nat.ble pc 31) (cond (Nat.beq pc 31) (some (.iload_n 3, 32, 3, 0)) none) (cond (Nat.beq pc 32) (some (.invokevirtual 85, 35, 0, 0)) none)) (cond (Nat.ble pc 35) (cond (Nat.beq pc 35) (some (.ifCond .ne 13, 38, 48, 0)) none) (cond (Nat.beq pc 38) (some (.new 37, 41, 0, 0)) none))) (cond (Nat.ble pc 49) (cond (Nat.ble pc 48) (cond (Nat.beq pc 48) (some (.aload_n 0, 49, 0, 0)) none) (cond (Nat.beq pc 49) (some (.getfield 12, 52, 0, 0)) none)) (cond (Nat.ble pc 52) (cond (Nat.beq pc 52) (some (.iload_n 1, 53, 1, 0)) none) (cond (Nat.ble pc 53) (cond (Nat.beq pc 53) (some (.iload_n 2, 54, 2, 0)) none) (cond (Nat.beq pc 54) (some (.iadd, 55, 0, 0)) none))))) (cond (Nat.ble pc 62) (cond (Nat.ble pc 58) (cond (Nat.ble pc 55) (cond (Nat.beq pc 55) (some (.invokevirtual 90, 58, 0, 0)) none) (cond (Nat.beq pc 58) (some (.istore 4, 60, 4, 0)) none)) (cond (Nat.ble pc 60) (cond (Nat.beq pc 60) (some (.aload_n 0, 61, 0, 0)) none) (cond (Nat.ble pc 61) (cond (Nat.beq pc 61) (some (.iload_n 1, 62, 1, 0)) none) (cond (Nat.beq pc 62) (some (.iload_n 2, 63, 2, 0)) none)))) (cond (Nat.ble pc 64) (cond (Nat.ble pc 63) (cond (Nat.beq pc 63) (some (.iadd, 64, 0, 0)) none) (cond (Nat.beq pc 64) (some (.iload_n 3, 65, 3, 0)) none)) (cond (Nat.ble pc 65) (cond (Nat.beq pc 65) (some (.invokevirtual 93, 68, 0, 0)) none) (cond (Nat.ble pc 68) (cond (Nat.beq pc 68) (some (.iload 4, 70, 4, 0)) none) (cond (Nat.beq pc 70) (some (.ireturn, 71, 0, 0)) none))))))
set_option maxRecDepth 100000 in
theorem k_X_store : (List.range 71).all (fun pc => match f_X_store pc with | none => true | some q => chk b_X_store 5 pc q) = true := by decide +kernel
abbrev b_X_load : ByteArray := prog_1_method_5_code
def y_X_load : MethodName := ⟨"RootedWords", "load", "(II)I"⟩
def f_X_load : Nat → Option TE := fun pc => cond (Nat.ble pc 11) (cond (Nat.ble pc 5) (cond (Nat.ble pc 1) (cond (Nat.ble pc 0) (cond (Nat.beq pc 0) (some (.aload_n 0, 1, 0, 0)) none) (cond (Nat.beq pc 1) (some (.invokevirtual 34, 4, 0, 0)) none)) (cond (Nat.ble pc 4) (cond (Nat.beq pc 4) (some (.aload_n 0, 5, 0, 0)) none) (cond (Nat.beq pc 5) (some (.iload_n 1, 6, 1, 0)) none))) (cond (Nat.ble pc 9) (cond (Nat.ble pc 6) (cond (Nat.beq pc 6) (some (.invokevirtual 69, 9, 0, 0)) none) (cond (Nat.beq pc 9) (some (.aload_n 0, 10, 0, 0)) none)) (cond (Nat.ble pc 10) (cond (Nat.beq pc 10) (some (.iload_n 1, 11, 1, 0)) none) (cond (Nat.beq pc 11) (some (.iload_n 2, 12, 2, 0)) none)))) (cond (Nat.ble pc 19) (cond (Nat.ble pc 15) (cond (Nat.ble pc 12) (cond (Nat.beq pc 12) (some (.invokevirtual 79, 15, 0, 0)) none) (cond (Nat.beq pc 15) (some (.aload_n 0, 16, 0, 0)) none)) (cond (Nat.ble pc 16) (cond (Nat.beq pc 16) (some (.getfield 12, 19, 0, 0)) none) (cond (Nat.beq pc 19) (some (.iload_n 1, 20, 1, 0)) none))) (cond (Nat.ble pc 21) (cond (Nat.ble pc 20) (cond (Nat.beq pc 20) (some (.iload_n 2, 21, 2, 0)) none) (cond (Nat.beq pc 21) (some (.iadd, 22, 0, 0)) none)) (cond (Nat.ble pc 22) (cond (Nat.beq pc 22) (some (.invokevirtual 90, 25, 0, 0)) none) (cond (Nat.beq pc 25) (some (.ireturn, 26, 0, 0)) none))))
set_option maxRecDepth 100000 in
theorem k_X_load : (List.range 26).all (fun pc => match f_X_load pc with | none => true | some q => chk b_X_load 3 pc q) = true := by decide +kernel
abbrev b_X_size : ByteArray := prog_1_method_6_code
def y_X_size : MethodName := ⟨"RootedWords", "size", "(II)I"⟩
def f_X_size : Nat → Option TE := fun pc => cond (Nat.ble pc 14) (cond (Nat.ble pc 5) (cond (Nat.ble pc 1) (cond (Nat.ble pc 0) (cond (Nat.beq pc 0) (some (.aload_n 0, 1, 0, 0)) none) (cond (Nat.beq pc 1) (some (.invokevirtual 34, 4, 0, 0)) none)) (cond (Nat.ble pc 4) (cond (Nat.beq pc 4) (some (.aload_n 0, 5, 0, 0)) none) (cond (Nat.beq pc 5) (some (.iload_n 1, 6, 1, 0)) none))) (cond (Nat.ble pc 9) (cond (Nat.ble pc 6) (cond (Nat.beq pc 6) (some (.invokevirtual 69, 9, 0, 0)) none) (cond (Nat.beq pc 9) (some (.iload_n 2, 10, 2, 0)) none)) (cond (Nat.ble pc 10) (cond (Nat.beq pc 10) (some (.ifCond .ne 13, 13, 23, 0)) none) (cond (Nat.ble pc 13) (cond (Nat.beq pc 13) (some (.aload_n 0, 14, 0, 0)) none) (cond (Nat.beq pc 14) (some (.iload_n 1, 15, 1, 0)) none))))) (cond (Nat.ble pc 23) (cond (Nat.ble pc 16) (cond (Nat.ble pc 15) (cond (Nat.beq pc 15) (some (.iconst 1, 16, 0, nI 1)) none) (cond (Nat.beq pc 16) (some (.isub, 17, 0, 0)) none)) (cond (Nat.ble pc 17) (cond (Nat.beq pc 17) (some (.invokevirtual 96, 20, 0, 0)) none) (cond (Nat.ble pc 20) (cond (Nat.beq pc 20) (some (.goto 10, 23, 30, 0)) none) (cond (Nat.beq pc 23) (some (.aload_n 0, 24, 0, 0)) none)))) (cond (Nat.ble pc 25) (cond (Nat.ble pc 24) (cond (Nat.beq pc 24) (some (.iload_n 1, 25, 1, 0)) none) (cond (Nat.beq pc 25) (some (.iconst 1, 26, 0, nI 1)) none)) (cond (Nat.ble pc 26) (cond (Nat.beq pc 26) (some (.isub, 27, 0, 0)) none) (cond (Nat.ble pc 27) (cond (Nat.beq pc 27) (some (.invokevirtual 82, 30, 0, 0)) none) (cond (Nat.beq pc 30) (some (.ireturn, 31, 0, 0)) none)))))
set_option maxRecDepth 100000 in
theorem k_X_size : (List.range 31).all (fun pc => match f_X_size pc with | none => true | some q => chk b_X_size 3 pc q) = true := by decide +kernel
abbrev b_X_setRoot : ByteArray := prog_1_method_7_code
def y_X_setRoot : MethodName := ⟨"RootedWords", "setRoot", "(II)I"⟩
def f_X_setRoot : Nat → Option TE := fun pc => cond (Nat.ble pc 18) (cond (Nat.ble pc 6) (cond (Nat.ble pc 1) (cond (Nat.ble pc 0) (cond (Nat.beq pc 0) (some (.aload_n 0, 1, 0, 0)) none) (cond (Nat.beq pc 1) (some (.invokevirtual 34, 4, 0, 0)) none)) (cond (Nat.ble pc 4) (cond (Nat.beq pc 4) (some (.aload_n 0, 5, 0, 0)) none) (cond (Nat.ble pc 5) (cond (Nat.beq pc 5) (some (.iload_n 1, 6, 1, 0)) none) (cond (Nat.beq pc 6) (some (.invokevirtual 99, 9, 0, 0)) none)))) (cond (Nat.ble pc 13) (cond (Nat.ble pc 9) (cond (Nat.beq pc 9) (some (.iload_n 2, 10, 2, 0)) none) (cond (Nat.ble pc 10) (cond (Nat.beq pc 10) (some (.ifCond .eq 8, 13, 18, 0)) none) (cond (Nat.beq pc 13) (some (.aload_n 0, 14, 0, 0)) none))) (cond (Nat.ble pc 14) (cond (Nat.beq pc 14) (some (.iload_n 2, 15, 2, 0)) none) (cond (Nat.ble pc 15) (cond (Nat.beq pc 15) (some (.invokevirtual 69, 18, 0, 0)) none) (cond (Nat.beq pc 18) (some (.aload_n 0, 19, 0, 0)) none))))) (cond (Nat.ble pc 25) (cond (Nat.ble pc 20) (cond (Nat.ble pc 19) (cond (Nat.beq pc 19) (some (.iload_n 1, 20, 1, 0)) none) (cond (Nat.beq pc 20) (some (.invokevirtual 102, 23, 0, 0)) none)) (cond (Nat.ble pc 23) (cond (Nat.beq pc 23) (some (.istore_n 3, 24, 3, 0)) none) (cond (Nat.ble pc 24) (cond (Nat.beq pc 24) (some (.aload_n 0, 25, 0, 0)) none) (cond (Nat.beq pc 25) (some (.sipush 257, 28, 0, nI 257)) none)))) (cond (Nat.ble pc 30) (cond (Nat.ble pc 28) (cond (Nat.beq pc 28) (some (.iload_n 1, 29, 1, 0)) none) (cond (Nat.ble pc 29) (cond (Nat.beq pc 29) (some (.iadd, 30, 0, 0)) none) (cond (Nat.beq pc 30) (some (.iload_n 2, 31, 2, 0)) none))) (cond (Nat.ble pc 31) (cond (Nat.beq pc 31) (some (.invokevirtual 93, 34, 0, 0)) none) (cond (Nat.ble pc 34) (cond (Nat.beq pc 34) (some (.iload_n 3, 35, 3, 0)) none) (cond (Nat.beq pc 35) (some (.ireturn, 36, 0, 0)) none)))))
set_option maxRecDepth 100000 in
theorem k_X_setRoot : (List.range 36).all (fun pc => match f_X_setRoot pc with | none => true | some q => chk b_X_setRoot 4 pc q) = true := by decide +kernel
abbrev b_X_root : ByteArray := prog_1_method_8_code
def y_X_root : MethodName := ⟨"RootedWords", "root", "(I)I"⟩
def f_X_root : Nat → Option TE := fun pc => cond (Nat.ble pc 5) (cond (Nat.ble pc 1) (cond (Nat.ble pc 0) (cond (Nat.beq pc 0) (some (.aload_n 0, 1, 0, 0)) none) (cond (Nat.beq pc 1) (some (.invokevirtual 34, 4, 0, 0)) none)) (cond (Nat.ble pc 4) (cond (Nat.beq pc 4) (some (.aload_n 0, 5, 0, 0)) none) (cond (Nat.beq pc 5) (some (.iload_n 1, 6, 1, 0)) none))) (cond (Nat.ble pc 9) (cond (Nat.ble pc 6) (cond (Nat.beq pc 6) (some (.invokevirtual 99, 9, 0, 0)) none) (cond (Nat.beq pc 9) (some (.aload_n 0, 10, 0, 0)) none)) (cond (Nat.ble pc 10) (cond (Nat.beq pc 10) (some (.iload_n 1, 11, 1, 0)) none) (cond (Nat.ble pc 11) (cond (Nat.beq pc 11) (some (.invokevirtual 102, 14, 0, 0)) none) (cond (Nat.beq pc 14) (some (.ireturn, 15, 0, 0)) none))))
set_option maxRecDepth 100000 in
theorem k_X_root : (List.range 15).all (fun pc => match f_X_root pc with | none => true | some q => chk b_X_root 2 pc q) = true := by decide +kernel
abbrev b_X_freeWords : ByteArray := prog_1_method_9_code
def y_X_freeWords : MethodName := ⟨"RootedWords", "freeWords", "()I"⟩
def f_X_freeWords : Nat → Option TE := fun pc => cond (Nat.ble pc 23) (cond (Nat.ble pc 11) (cond (Nat.ble pc 5) (cond (Nat.ble pc 1) (cond (Nat.ble pc 0) (cond (Nat.beq pc 0) (some (.aload_n 0, 1, 0, 0)) none) (cond (Nat.beq pc 1) (some (.invokevirtual 34, 4, 0, 0)) none)) (cond (Nat.ble pc 4) (cond (Nat.beq pc 4) (some (.aload_n 0, 5, 0, 0)) none) (cond (Nat.beq pc 5) (some (.invokevirtual 105, 8, 0, 0)) none))) (cond (Nat.ble pc 9) (cond (Nat.ble pc 8) (cond (Nat.beq pc 8) (some (.istore_n 1, 9, 1, 0)) none) (cond (Nat.beq pc 9) (some (.iconst 0, 10, 0, nI 0)) none)) (cond (Nat.ble pc 10) (cond (Nat.beq pc 10) (some (.istore_n 2, 11, 2, 0)) none) (cond (Nat.beq pc 11) (some (.iconst 0, 12, 0, nI 0)) none)))) (cond (Nat.ble pc 15) (cond (Nat.ble pc 13) (cond (Nat.ble pc 12) (cond (Nat.beq pc 12) (some (.istore_n 3, 13, 3, 0)) none) (cond (Nat.beq pc 13) (some (.iload_n 3, 14, 3, 0)) none)) (cond (Nat.ble pc 14) (cond (Nat.beq pc 14) (some (.iload_n 1, 15, 1, 0)) none) (cond (Nat.beq pc 15) (some (.if_icmp .ge 35, 18, 50, 0)) none))) (cond (Nat.ble pc 19) (cond (Nat.ble pc 18) (cond (Nat.beq pc 18) (some (.aload_n 0, 19, 0, 0)) none) (cond (Nat.beq pc 19) (some (.aload_n 0, 20, 0, 0)) none)) (cond (Nat.ble pc 20) (cond (Nat.beq pc 20) (some (.getfield 16, 23, 0, 0)) none) (cond (Nat.beq pc 23) (some (.iload_n 3, 24, 3, 0)) none))))) (cond (Nat.ble pc 37) (cond (Nat.ble pc 31) (cond (Nat.ble pc 25) (cond (Nat.ble pc 24) (cond (Nat.beq pc 24) (some (.iaload, 25, 0, 0)) none) (cond (Nat.beq pc 25) (some (.invokevirtual 72, 28, 0, 0)) none)) (cond (Nat.ble pc 28) (cond (Nat.beq pc 28) (some (.ifCond .eq 16, 31, 44, 0)) none) (cond (Nat.beq pc 31) (some (.iload_n 2, 32, 2, 0)) none))) (cond (Nat.ble pc 33) (cond (Nat.ble pc 32) (cond (Nat.beq pc 32) (some (.aload_n 0, 33, 0, 0)) none) (cond (Nat.beq pc 33) (some (.aload_n 0, 34, 0, 0)) none)) (cond (Nat.ble pc 34) (cond (Nat.beq pc 34) (some (.getfield 16, 37, 0, 0)) none) (cond (Nat.beq pc 37) (some (.iload_n 3, 38, 3, 0)) none)))) (cond (Nat.ble pc 43) (cond (Nat.ble pc 39) (cond (Nat.ble pc 38) (cond (Nat.beq pc 38) (some (.iaload, 39, 0, 0)) none) (cond (Nat.beq pc 39) (some (.invokevirtual 96, 42, 0, 0)) none)) (cond (Nat.ble pc 42) (cond (Nat.beq pc 42) (some (.iadd, 43, 0, 0)) none) (cond (Nat.beq pc 43) (some (.istore_n 2, 44, 2, 0)) none))) (cond (Nat.ble pc 47) (cond (Nat.ble pc 44) (cond (Nat.beq pc 44) (some (.iinc 3 1, 47, 3, nI 1)) none) (cond (Nat.beq pc 47) (some (.goto (-34), 50, 13, 0)) none)) (cond (Nat.ble pc 50) (cond (Nat.beq pc 50) (some (.iload_n 2, 51, 2, 0)) none) (cond (Nat.beq pc 51) (some (.ireturn, 52, 0, 0)) none)))))
set_option maxRecDepth 100000 in
theorem k_X_freeWords : (List.range 52).all (fun pc => match f_X_freeWords pc with | none => true | some q => chk b_X_freeWords 4 pc q) = true := by decide +kernel
abbrev b_X_largestFree : ByteArray := prog_1_method_10_code
def y_X_largestFree : MethodName := ⟨"RootedWords", "largestFree", "()I"⟩
def f_X_largestFree : Nat → Option TE := fun pc => cond (Nat.ble pc 23) (cond (Nat.ble pc 11) (cond (Nat.ble pc 5) (cond (Nat.ble pc 1) (cond (Nat.ble pc 0) (cond (Nat.beq pc 0) (some (.aload_n 0, 1, 0, 0)) none) (cond (Nat.beq pc 1) (some (.invokevirtual 34, 4, 0, 0)) none)) (cond (Nat.ble pc 4) (cond (Nat.beq pc 4) (some (.aload_n 0, 5, 0, 0)) none) (cond (Nat.beq pc 5) (some (.invokevirtual 105, 8, 0, 0)) none))) (cond (Nat.ble pc 9) (cond (Nat.ble pc 8) (cond (Nat.beq pc 8) (some (.istore_n 1, 9, 1, 0)) none) (cond (Nat.beq pc 9) (some (.iconst 0, 10, 0, nI 0)) none)) (cond (Nat.ble pc 10) (cond (Nat.beq pc 10) (some (.istore_n 2, 11, 2, 0)) none) (cond (Nat.beq pc 11) (some (.iconst 0, 12, 0, nI 0)) none)))) (cond (Nat.ble pc 15) (cond (Nat.ble pc 13) (cond (Nat.ble pc 12) (cond (Nat.beq pc 12) (some (.istore_n 3, 13, 3, 0)) none) (cond (Nat.beq pc 13) (some (.iload_n 3, 14, 3, 0)) none)) (cond (Nat.ble pc 14) (cond (Nat.beq pc 14) (some (.iload_n 1, 15, 1, 0)) none) (cond (Nat.beq pc 15) (some (.if_icmp .ge 37, 18, 52, 0)) none))) (cond (Nat.ble pc 19) (cond (Nat.ble pc 18) (cond (Nat.beq pc 18) (some (.aload_n 0, 19, 0, 0)) none) (cond (Nat.beq pc 19) (some (.aload_n 0, 20, 0, 0)) none)) (cond (Nat.ble pc 20) (cond (Nat.beq pc 20) (some (.getfield 16, 23, 0, 0)) none) (cond (Nat.beq pc 23) (some (.iload_n 3, 24, 3, 0)) none))))) (cond (Nat.ble pc 37) (cond (Nat.ble pc 31) (cond (Nat.ble pc 25) (cond (Nat.ble pc 24) (cond (Nat.beq pc 24) (some (.iaload, 25, 0, 0)) none) (cond (Nat.beq pc 25) (some (.invokevirtual 72, 28, 0, 0)) none)) (cond (Nat.ble pc 28) (cond (Nat.beq pc 28) (some (.ifCond .eq 18, 31, 46, 0)) none) (cond (Nat.beq pc 31) (some (.iload_n 2, 32, 2, 0)) none))) (cond (Nat.ble pc 33) (cond (Nat.ble pc 32) (cond (Nat.beq pc 32) (some (.aload_n 0, 33, 0, 0)) none) (cond (Nat.beq pc 33) (some (.aload_n 0, 34, 0, 0)) none)) (cond (Nat.ble pc 34) (cond (Nat.beq pc 34) (some (.getfield 16, 37, 0, 0)) none) (cond (Nat.beq pc 37) (some (.iload_n 3, 38, 3, 0)) none)))) (cond (Nat.ble pc 45) (cond (Nat.ble pc 39) (cond (Nat.ble pc 38) (cond (Nat.beq pc 38) (some (.iaload, 39, 0, 0)) none) (cond (Nat.beq pc 39) (some (.invokevirtual 96, 42, 0, 0)) none)) (cond (Nat.ble pc 42) (cond (Nat.beq pc 42) (some (.invokestatic 109, 45, 0, 0)) none) (cond (Nat.beq pc 45) (some (.istore_n 2, 46, 2, 0)) none))) (cond (Nat.ble pc 49) (cond (Nat.ble pc 46) (cond (Nat.beq pc 46) (some (.iinc 3 1, 49, 3, nI 1)) none) (cond (Nat.beq pc 49) (some (.goto (-36), 52, 13, 0)) none)) (cond (Nat.ble pc 52) (cond (Nat.beq pc 52) (some (.iload_n 2, 53, 2, 0)) none) (cond (Nat.beq pc 53) (some (.ireturn, 54, 0, 0)) none)))))
set_option maxRecDepth 100000 in
theorem k_X_largestFree : (List.range 54).all (fun pc => match f_X_largestFree pc with | none => true | some q => chk b_X_largestFree 4 pc q) = true := by decide +kernel
abbrev b_X_extent : ByteArray := prog_1_method_11_code
def y_X_extent : MethodName := ⟨"RootedWords", "extent", "(I)I"⟩
def f_X_extent : Nat → Option TE := fun pc => cond (Nat.ble pc 32) (cond (Nat.ble pc 10) (cond (Nat.ble pc 4) (cond (Nat.ble pc 0) (cond (Nat.beq pc 0) (some (.aload_n 0, 1, 0, 0)) none) (cond (Nat.ble pc 1) (cond (Nat.beq pc 1) (some (.invokevirtual 34, 4, 0, 0)) none) (cond (Nat.beq pc 4) (some (.iload_n 1, 5, 1, 0)) none))) (cond (Nat.ble pc 8) (cond (Nat.ble pc 5) (cond (Nat.beq pc 5) (some (.ifCond .lt 11, 8, 16, 0)) none) (cond (Nat.beq pc 8) (some (.iload_n 1, 9, 1, 0)) none)) (cond (Nat.ble pc 9) (cond (Nat.beq pc 9) (some (.aload_n 0, 10, 0, 0)) none) (cond (Nat.beq pc 10) (some (.invokevirtual 105, 13, 0, 0)) none)))) (cond (Nat.ble pc 26) (cond (Nat.ble pc 13) (cond (Nat.beq pc 13) (some (.if_icmp .lt 13, 16, 26, 0)) none) (cond (Nat.ble pc 16) (cond (Nat.beq pc 16) (some (.new 114, 19, 0, 0)) none) (cond (Nat.beq pc 26) (some (.aload_n 0, 27, 0, 0)) none))) (cond (Nat.ble pc 30) (cond (Nat.ble pc 27) (cond (Nat.beq pc 27) (some (.getfield 16, 30, 0, 0)) none) (cond (Nat.beq pc 30) (some (.iload_n 1, 31, 1, 0)) none)) (cond (Nat.ble pc 31) (cond (Nat.beq pc 31) (some (.iaload, 32, 0, 0)) none) (cond (Nat.beq pc 32) (some (.iconst 1, 33, 0, nI 1)) none))))) (cond (Nat.ble pc 41) (cond (Nat.ble pc 35) (cond (Nat.ble pc 33) (cond (Nat.beq pc 33) (some (.iadd, 34, 0, 0)) none) (cond (Nat.ble pc 34) (cond (Nat.beq pc 34) (some (.istore_n 2, 35, 2, 0)) none) (cond (Nat.beq pc 35) (some (.aload_n 0, 36, 0, 0)) none))) (cond (Nat.ble pc 37) (cond (Nat.ble pc 36) (cond (Nat.beq pc 36) (some (.aload_n 0, 37, 0, 0)) none) (cond (Nat.beq pc 37) (some (.getfield 16, 40, 0, 0)) none)) (cond (Nat.ble pc 40) (cond (Nat.beq pc 40) (some (.iload_n 1, 41, 1, 0)) none) (cond (Nat.beq pc 41) (some (.iaload, 42, 0, 0)) none)))) (cond (Nat.ble pc 48) (cond (Nat.ble pc 42) (cond (Nat.beq pc 42) (some (.invokevirtual 72, 45, 0, 0)) none) (cond (Nat.ble pc 45) (cond (Nat.beq pc 45) (some (.ifCond .eq 8, 48, 53, 0)) none) (cond (Nat.beq pc 48) (some (.iload_n 2, 49, 2, 0)) none))) (cond (Nat.ble pc 50) (cond (Nat.ble pc 49) (cond (Nat.beq pc 49) (some (.ineg, 50, 0, 0)) none) (cond (Nat.beq pc 50) (some (.goto 4, 53, 54, 0)) none)) (cond (Nat.ble pc 53) (cond (Nat.beq pc 53) (some (.iload_n 2, 54, 2, 0)) none) (cond (Nat.beq pc 54) (some (.ireturn, 55, 0, 0)) none)))))
set_option maxRecDepth 100000 in
theorem k_X_extent : (List.range 55).all (fun pc => match f_X_extent pc with | none => true | some q => chk b_X_extent 3 pc q) = true := by decide +kernel
abbrev b_X_reached : ByteArray := prog_1_method_12_code
def y_X_reached : MethodName := ⟨"RootedWords", "reached", "()I"⟩
def f_X_reached : Nat → Option TE := fun pc => cond (Nat.ble pc 1) (cond (Nat.ble pc 0) (cond (Nat.beq pc 0) (some (.aload_n 0, 1, 0, 0)) none) (cond (Nat.beq pc 1) (some (.invokevirtual 34, 4, 0, 0)) none)) (cond (Nat.ble pc 4) (cond (Nat.beq pc 4) (some (.aload_n 0, 5, 0, 0)) none) (cond (Nat.ble pc 5) (cond (Nat.beq pc 5) (some (.invokevirtual 119, 8, 0, 0)) none) (cond (Nat.beq pc 8) (some (.ireturn, 9, 0, 0)) none)))
set_option maxRecDepth 100000 in
theorem k_X_reached : (List.range 9).all (fun pc => match f_X_reached pc with | none => true | some q => chk b_X_reached 1 pc q) = true := by decide +kernel
abbrev b_X_order : ByteArray := prog_1_method_13_code
def y_X_order : MethodName := ⟨"RootedWords", "order", "(I)Z"⟩
def f_X_order : Nat → Option TE := fun pc => cond (Nat.ble pc 11) (cond (Nat.ble pc 4) (cond (Nat.ble pc 0) (cond (Nat.beq pc 0) (some (.iload_n 1, 1, 1, 0)) none) (cond (Nat.ble pc 1) (cond (Nat.beq pc 1) (some (.ifCond .lt 10, 4, 11, 0)) none) (cond (Nat.beq pc 4) (some (.iload_n 1, 5, 1, 0)) none))) (cond (Nat.ble pc 5) (cond (Nat.beq pc 5) (some (.sipush 1000, 8, 0, nI 1000)) none) (cond (Nat.ble pc 8) (cond (Nat.beq pc 8) (some (.if_icmp .le 5, 11, 13, 0)) none) (cond (Nat.beq pc 11) (some (.iconst 0, 12, 0, nI 0)) none)))) (cond (Nat.ble pc 14) (cond (Nat.ble pc 12) (cond (Nat.beq pc 12) (some (.ireturn, 13, 0, 0)) none) (cond (Nat.ble pc 13) (cond (Nat.beq pc 13) (some (.aload_n 0, 14, 0, 0)) none) (cond (Nat.beq pc 14) (some (.getfield 12, 17, 0, 0)) none))) (cond (Nat.ble pc 18) (cond (Nat.ble pc 17) (cond (Nat.beq pc 17) (some (.iload_n 1, 18, 1, 0)) none) (cond (Nat.beq pc 18) (some (.invokevirtual 122, 21, 0, 0)) none)) (cond (Nat.ble pc 21) (cond (Nat.beq pc 21) (some (.iconst 1, 22, 0, nI 1)) none) (cond (Nat.beq pc 22) (some (.ireturn, 23, 0, 0)) none))))
set_option maxRecDepth 100000 in
theorem k_X_order : (List.range 23).all (fun pc => match f_X_order pc with | none => true | some q => chk b_X_order 2 pc q) = true := by decide +kernel
abbrev b_X_recover : ByteArray := prog_1_method_14_code
def y_X_recover : MethodName := ⟨"RootedWords", "recover", "()I"⟩
def f_X_recover : Nat → Option TE := fun pc => cond (Nat.ble pc 22) (cond (Nat.ble pc 10) (cond (Nat.ble pc 1) (cond (Nat.ble pc 0) (cond (Nat.beq pc 0) (some (.aload_n 0, 1, 0, 0)) none) (cond (Nat.beq pc 1) (some (.getfield 12, 4, 0, 0)) none)) (cond (Nat.ble pc 4) (cond (Nat.beq pc 4) (some (.invokevirtual 125, 7, 0, 0)) none) (cond (Nat.ble pc 7) (cond (Nat.beq pc 7) (some (.ifCond .ne 5, 10, 12, 0)) none) (cond (Nat.beq pc 10) (some (.iconst (-1), 11, 0, -1)) none)))) (cond (Nat.ble pc 13) (cond (Nat.ble pc 11) (cond (Nat.beq pc 11) (some (.ireturn, 12, 0, 0)) none) (cond (Nat.ble pc 12) (cond (Nat.beq pc 12) (some (.aload_n 0, 13, 0, 0)) none) (cond (Nat.beq pc 13) (some (.getfield 12, 16, 0, 0)) none))) (cond (Nat.ble pc 16) (cond (Nat.beq pc 16) (some (.invokevirtual 129, 19, 0, 0)) none) (cond (Nat.ble pc 19) (cond (Nat.beq pc 19) (some (.ifCond .eq 10, 22, 29, 0)) none) (cond (Nat.beq pc 22) (some (.aload_n 0, 23, 0, 0)) none))))) (cond (Nat.ble pc 34) (cond (Nat.ble pc 29) (cond (Nat.ble pc 23) (cond (Nat.beq pc 23) (some (.getfield 12, 26, 0, 0)) none) (cond (Nat.ble pc 26) (cond (Nat.beq pc 26) (some (.invokevirtual 132, 29, 0, 0)) none) (cond (Nat.beq pc 29) (some (.aload_n 0, 30, 0, 0)) none))) (cond (Nat.ble pc 30) (cond (Nat.beq pc 30) (some (.invokevirtual 119, 33, 0, 0)) none) (cond (Nat.ble pc 33) (cond (Nat.beq pc 33) (some (.istore_n 1, 34, 1, 0)) none) (cond (Nat.beq pc 34) (some (.aload_n 0, 35, 0, 0)) none)))) (cond (Nat.ble pc 39) (cond (Nat.ble pc 35) (cond (Nat.beq pc 35) (some (.invokevirtual 135, 38, 0, 0)) none) (cond (Nat.ble pc 38) (cond (Nat.beq pc 38) (some (.aload_n 0, 39, 0, 0)) none) (cond (Nat.beq pc 39) (some (.getfield 12, 42, 0, 0)) none))) (cond (Nat.ble pc 42) (cond (Nat.beq pc 42) (some (.invokevirtual 138, 45, 0, 0)) none) (cond (Nat.ble pc 45) (cond (Nat.beq pc 45) (some (.iload_n 1, 46, 1, 0)) none) (cond (Nat.beq pc 46) (some (.ireturn, 47, 0, 0)) none)))))
set_option maxRecDepth 100000 in
theorem k_X_recover : (List.range 47).all (fun pc => match f_X_recover pc with | none => true | some q => chk b_X_recover 2 pc q) = true := by decide +kernel
abbrev b_X_writes : ByteArray := prog_1_method_15_code
def y_X_writes : MethodName := ⟨"RootedWords", "writes", "()I"⟩
def f_X_writes : Nat → Option TE := fun pc => cond (Nat.ble pc 1) (cond (Nat.ble pc 0) (cond (Nat.beq pc 0) (some (.aload_n 0, 1, 0, 0)) none) (cond (Nat.beq pc 1) (some (.getfield 12, 4, 0, 0)) none)) (cond (Nat.ble pc 4) (cond (Nat.beq pc 4) (some (.invokevirtual 141, 7, 0, 0)) none) (cond (Nat.beq pc 7) (some (.ireturn, 8, 0, 0)) none))
set_option maxRecDepth 100000 in
theorem k_X_writes : (List.range 8).all (fun pc => match f_X_writes pc with | none => true | some q => chk b_X_writes 1 pc q) = true := by decide +kernel
abbrev b_X_down : ByteArray := prog_1_method_16_code
def y_X_down : MethodName := ⟨"RootedWords", "down", "()Z"⟩
def f_X_down : Nat → Option TE := fun pc => cond (Nat.ble pc 1) (cond (Nat.ble pc 0) (cond (Nat.beq pc 0) (some (.aload_n 0, 1, 0, 0)) none) (cond (Nat.beq pc 1) (some (.getfield 12, 4, 0, 0)) none)) (cond (Nat.ble pc 4) (cond (Nat.beq pc 4) (some (.invokevirtual 125, 7, 0, 0)) none) (cond (Nat.beq pc 7) (some (.ireturn, 8, 0, 0)) none))
set_option maxRecDepth 100000 in
theorem k_X_down : (List.range 8).all (fun pc => match f_X_down pc with | none => true | some q => chk b_X_down 1 pc q) = true := by decide +kernel
abbrev b_X_refuseWhenDown : ByteArray := prog_1_method_17_code
def y_X_refuseWhenDown : MethodName := ⟨"RootedWords", "refuseWhenDown", "()V"⟩
def f_X_refuseWhenDown : Nat → Option TE := fun pc => cond (Nat.ble pc 4) (cond (Nat.ble pc 0) (cond (Nat.beq pc 0) (some (.aload_n 0, 1, 0, 0)) none) (cond (Nat.ble pc 1) (cond (Nat.beq pc 1) (some (.getfield 12, 4, 0, 0)) none) (cond (Nat.beq pc 4) (some (.invokevirtual 125, 7, 0, 0)) none))) (cond (Nat.ble pc 7) (cond (Nat.beq pc 7) (some (.ifCond .eq 13, 10, 20, 0)) none) (cond (Nat.ble pc 10) (cond (Nat.beq pc 10) (some (.new 144, 13, 0, 0)) none) (cond (Nat.beq pc 20) (some (.return_, 21, 0, 0)) none)))
set_option maxRecDepth 100000 in
theorem k_X_refuseWhenDown : (List.range 21).all (fun pc => match f_X_refuseWhenDown pc with | none => true | some q => chk b_X_refuseWhenDown 1 pc q) = true := by decide +kernel
abbrev b_X_refuseUnlessUsed : ByteArray := prog_1_method_18_code
def y_X_refuseUnlessUsed : MethodName := ⟨"RootedWords", "refuseUnlessUsed", "(I)V"⟩
def f_X_refuseUnlessUsed : Nat → Option TE := fun pc => cond (Nat.ble pc 2) (cond (Nat.ble pc 0) (cond (Nat.beq pc 0) (some (.aload_n 0, 1, 0, 0)) none) (cond (Nat.ble pc 1) (cond (Nat.beq pc 1) (some (.iload_n 1, 2, 1, 0)) none) (cond (Nat.beq pc 2) (some (.invokevirtual 85, 5, 0, 0)) none))) (cond (Nat.ble pc 5) (cond (Nat.beq pc 5) (some (.ifCond .ne 13, 8, 18, 0)) none) (cond (Nat.ble pc 8) (cond (Nat.beq pc 8) (some (.new 149, 11, 0, 0)) none) (cond (Nat.beq pc 18) (some (.return_, 19, 0, 0)) none)))
set_option maxRecDepth 100000 in
theorem k_X_refuseUnlessUsed : (List.range 19).all (fun pc => match f_X_refuseUnlessUsed pc with | none => true | some q => chk b_X_refuseUnlessUsed 2 pc q) = true := by decide +kernel
abbrev b_X_refuseUnlessWord : ByteArray := prog_1_method_19_code
def y_X_refuseUnlessWord : MethodName := ⟨"RootedWords", "refuseUnlessWord", "(II)V"⟩
def f_X_refuseUnlessWord : Nat → Option TE := fun pc => cond (Nat.ble pc 6) (cond (Nat.ble pc 1) (cond (Nat.ble pc 0) (cond (Nat.beq pc 0) (some (.iload_n 2, 1, 2, 0)) none) (cond (Nat.beq pc 1) (some (.ifCond .lt 14, 4, 15, 0)) none)) (cond (Nat.ble pc 4) (cond (Nat.beq pc 4) (some (.iload_n 2, 5, 2, 0)) none) (cond (Nat.ble pc 5) (cond (Nat.beq pc 5) (some (.aload_n 0, 6, 0, 0)) none) (cond (Nat.beq pc 6) (some (.iload_n 1, 7, 1, 0)) none)))) (cond (Nat.ble pc 9) (cond (Nat.ble pc 7) (cond (Nat.beq pc 7) (some (.iconst 1, 8, 0, nI 1)) none) (cond (Nat.ble pc 8) (cond (Nat.beq pc 8) (some (.isub, 9, 0, 0)) none) (cond (Nat.beq pc 9) (some (.invokevirtual 96, 12, 0, 0)) none))) (cond (Nat.ble pc 12) (cond (Nat.beq pc 12) (some (.if_icmp .lt 13, 15, 25, 0)) none) (cond (Nat.ble pc 15) (cond (Nat.beq pc 15) (some (.new 114, 18, 0, 0)) none) (cond (Nat.beq pc 25) (some (.return_, 26, 0, 0)) none))))
set_option maxRecDepth 100000 in
theorem k_X_refuseUnlessWord : (List.range 26).all (fun pc => match f_X_refuseUnlessWord pc with | none => true | some q => chk b_X_refuseUnlessWord 3 pc q) = true := by decide +kernel
abbrev b_X_refuseUnlessRoot : ByteArray := prog_1_method_20_code
def y_X_refuseUnlessRoot : MethodName := ⟨"RootedWords", "refuseUnlessRoot", "(I)V"⟩
def f_X_refuseUnlessRoot : Nat → Option TE := fun pc => cond (Nat.ble pc 4) (cond (Nat.ble pc 0) (cond (Nat.beq pc 0) (some (.iload_n 1, 1, 1, 0)) none) (cond (Nat.ble pc 1) (cond (Nat.beq pc 1) (some (.ifCond .lt 9, 4, 10, 0)) none) (cond (Nat.beq pc 4) (some (.iload_n 1, 5, 1, 0)) none))) (cond (Nat.ble pc 7) (cond (Nat.ble pc 5) (cond (Nat.beq pc 5) (some (.bipush 8, 7, 0, nI 8)) none) (cond (Nat.beq pc 7) (some (.if_icmp .lt 13, 10, 20, 0)) none)) (cond (Nat.ble pc 10) (cond (Nat.beq pc 10) (some (.new 114, 13, 0, 0)) none) (cond (Nat.beq pc 20) (some (.return_, 21, 0, 0)) none)))
set_option maxRecDepth 100000 in
theorem k_X_refuseUnlessRoot : (List.range 21).all (fun pc => match f_X_refuseUnlessRoot pc with | none => true | some q => chk b_X_refuseUnlessRoot 2 pc q) = true := by decide +kernel
abbrev b_X_tag : ByteArray := prog_1_method_21_code
def y_X_tag : MethodName := ⟨"RootedWords", "tag", "(II)I"⟩
def f_X_tag : Nat → Option TE := fun pc => cond (Nat.ble pc 4) (cond (Nat.ble pc 0) (cond (Nat.beq pc 0) (some (.iload_n 0, 1, 0, 0)) none) (cond (Nat.ble pc 1) (cond (Nat.beq pc 1) (some (.sipush 256, 4, 0, nI 256)) none) (cond (Nat.beq pc 4) (some (.imul, 5, 0, 0)) none))) (cond (Nat.ble pc 5) (cond (Nat.beq pc 5) (some (.iload_n 1, 6, 1, 0)) none) (cond (Nat.ble pc 6) (cond (Nat.beq pc 6) (some (.iadd, 7, 0, 0)) none) (cond (Nat.beq pc 7) (some (.ireturn, 8, 0, 0)) none)))
set_option maxRecDepth 100000 in
theorem k_X_tag : (List.range 8).all (fun pc => match f_X_tag pc with | none => true | some q => chk b_X_tag 2 pc q) = true := by decide +kernel
abbrev b_X_lengthAt : ByteArray := prog_1_method_22_code
def y_X_lengthAt : MethodName := ⟨"RootedWords", "lengthAt", "(I)I"⟩
def f_X_lengthAt : Nat → Option TE := fun pc => cond (Nat.ble pc 4) (cond (Nat.ble pc 0) (cond (Nat.beq pc 0) (some (.aload_n 0, 1, 0, 0)) none) (cond (Nat.ble pc 1) (cond (Nat.beq pc 1) (some (.getfield 12, 4, 0, 0)) none) (cond (Nat.beq pc 4) (some (.iload_n 1, 5, 1, 0)) none))) (cond (Nat.ble pc 8) (cond (Nat.ble pc 5) (cond (Nat.beq pc 5) (some (.invokevirtual 90, 8, 0, 0)) none) (cond (Nat.beq pc 8) (some (.sipush 256, 11, 0, nI 256)) none)) (cond (Nat.ble pc 11) (cond (Nat.beq pc 11) (some (.idiv, 12, 0, 0)) none) (cond (Nat.beq pc 12) (some (.ireturn, 13, 0, 0)) none)))
set_option maxRecDepth 100000 in
theorem k_X_lengthAt : (List.range 13).all (fun pc => match f_X_lengthAt pc with | none => true | some q => chk b_X_lengthAt 2 pc q) = true := by decide +kernel
abbrev b_X_kindAt : ByteArray := prog_1_method_23_code
def y_X_kindAt : MethodName := ⟨"RootedWords", "kindAt", "(I)I"⟩
def f_X_kindAt : Nat → Option TE := fun pc => cond (Nat.ble pc 4) (cond (Nat.ble pc 0) (cond (Nat.beq pc 0) (some (.aload_n 0, 1, 0, 0)) none) (cond (Nat.ble pc 1) (cond (Nat.beq pc 1) (some (.getfield 12, 4, 0, 0)) none) (cond (Nat.beq pc 4) (some (.iload_n 1, 5, 1, 0)) none))) (cond (Nat.ble pc 8) (cond (Nat.ble pc 5) (cond (Nat.beq pc 5) (some (.invokevirtual 90, 8, 0, 0)) none) (cond (Nat.beq pc 8) (some (.sipush 256, 11, 0, nI 256)) none)) (cond (Nat.ble pc 11) (cond (Nat.beq pc 11) (some (.irem, 12, 0, 0)) none) (cond (Nat.beq pc 12) (some (.ireturn, 13, 0, 0)) none)))
set_option maxRecDepth 100000 in
theorem k_X_kindAt : (List.range 13).all (fun pc => match f_X_kindAt pc with | none => true | some q => chk b_X_kindAt 2 pc q) = true := by decide +kernel
abbrev b_X_isFreeAt : ByteArray := prog_1_method_24_code
def y_X_isFreeAt : MethodName := ⟨"RootedWords", "isFreeAt", "(I)Z"⟩
def f_X_isFreeAt : Nat → Option TE := fun pc => cond (Nat.ble pc 5) (cond (Nat.ble pc 1) (cond (Nat.ble pc 0) (cond (Nat.beq pc 0) (some (.aload_n 0, 1, 0, 0)) none) (cond (Nat.beq pc 1) (some (.iload_n 1, 2, 1, 0)) none)) (cond (Nat.ble pc 2) (cond (Nat.beq pc 2) (some (.invokevirtual 158, 5, 0, 0)) none) (cond (Nat.beq pc 5) (some (.ifCond .ne 7, 8, 12, 0)) none))) (cond (Nat.ble pc 9) (cond (Nat.ble pc 8) (cond (Nat.beq pc 8) (some (.iconst 1, 9, 0, nI 1)) none) (cond (Nat.beq pc 9) (some (.goto 4, 12, 13, 0)) none)) (cond (Nat.ble pc 12) (cond (Nat.beq pc 12) (some (.iconst 0, 13, 0, nI 0)) none) (cond (Nat.beq pc 13) (some (.ireturn, 14, 0, 0)) none)))
set_option maxRecDepth 100000 in
theorem k_X_isFreeAt : (List.range 14).all (fun pc => match f_X_isFreeAt pc with | none => true | some q => chk b_X_isFreeAt 2 pc q) = true := by decide +kernel
abbrev b_X_contentAt : ByteArray := prog_1_method_25_code
def y_X_contentAt : MethodName := ⟨"RootedWords", "contentAt", "(I)I"⟩
def f_X_contentAt : Nat → Option TE := fun pc => cond (Nat.ble pc 2) (cond (Nat.ble pc 0) (cond (Nat.beq pc 0) (some (.aload_n 0, 1, 0, 0)) none) (cond (Nat.ble pc 1) (cond (Nat.beq pc 1) (some (.iload_n 1, 2, 1, 0)) none) (cond (Nat.beq pc 2) (some (.invokevirtual 55, 5, 0, 0)) none))) (cond (Nat.ble pc 5) (cond (Nat.beq pc 5) (some (.iconst 2, 6, 0, nI 2)) none) (cond (Nat.ble pc 6) (cond (Nat.beq pc 6) (some (.isub, 7, 0, 0)) none) (cond (Nat.beq pc 7) (some (.ireturn, 8, 0, 0)) none)))
set_option maxRecDepth 100000 in
theorem k_X_contentAt : (List.range 8).all (fun pc => match f_X_contentAt pc with | none => true | some q => chk b_X_contentAt 2 pc q) = true := by decide +kernel
abbrev b_X_pointersAt : ByteArray := prog_1_method_26_code
def y_X_pointersAt : MethodName := ⟨"RootedWords", "pointersAt", "(I)I"⟩
def f_X_pointersAt : Nat → Option TE := fun pc => cond (Nat.ble pc 2) (cond (Nat.ble pc 0) (cond (Nat.beq pc 0) (some (.aload_n 0, 1, 0, 0)) none) (cond (Nat.ble pc 1) (cond (Nat.beq pc 1) (some (.iload_n 1, 2, 1, 0)) none) (cond (Nat.beq pc 2) (some (.invokevirtual 158, 5, 0, 0)) none))) (cond (Nat.ble pc 5) (cond (Nat.beq pc 5) (some (.iconst 1, 6, 0, nI 1)) none) (cond (Nat.ble pc 6) (cond (Nat.beq pc 6) (some (.isub, 7, 0, 0)) none) (cond (Nat.beq pc 7) (some (.ireturn, 8, 0, 0)) none)))
set_option maxRecDepth 100000 in
theorem k_X_pointersAt : (List.range 8).all (fun pc => match f_X_pointersAt pc with | none => true | some q => chk b_X_pointersAt 2 pc q) = true := by decide +kernel
abbrev b_X_listExtents : ByteArray := prog_1_method_27_code
def y_X_listExtents : MethodName := ⟨"RootedWords", "listExtents", "()I"⟩
def f_X_listExtents : Nat → Option TE := fun pc => cond (Nat.ble pc 17) (cond (Nat.ble pc 5) (cond (Nat.ble pc 2) (cond (Nat.ble pc 0) (cond (Nat.beq pc 0) (some (.iconst 0, 1, 0, nI 0)) none) (cond (Nat.ble pc 1) (cond (Nat.beq pc 1) (some (.istore_n 1, 2, 1, 0)) none) (cond (Nat.beq pc 2) (some (.iconst 1, 3, 0, nI 1)) none))) (cond (Nat.ble pc 3) (cond (Nat.beq pc 3) (some (.istore_n 2, 4, 2, 0)) none) (cond (Nat.ble pc 4) (cond (Nat.beq pc 4) (some (.iload_n 2, 5, 2, 0)) none) (cond (Nat.beq pc 5) (some (.sipush 256, 8, 0, nI 256)) none)))) (cond (Nat.ble pc 12) (cond (Nat.ble pc 8) (cond (Nat.beq pc 8) (some (.if_icmp .gt 28, 11, 36, 0)) none) (cond (Nat.ble pc 11) (cond (Nat.beq pc 11) (some (.aload_n 0, 12, 0, 0)) none) (cond (Nat.beq pc 12) (some (.getfield 16, 15, 0, 0)) none))) (cond (Nat.ble pc 15) (cond (Nat.beq pc 15) (some (.iload_n 1, 16, 1, 0)) none) (cond (Nat.ble pc 16) (cond (Nat.beq pc 16) (some (.iload_n 2, 17, 2, 0)) none) (cond (Nat.beq pc 17) (some (.iastore, 18, 0, 0)) none))))) (cond (Nat.ble pc 25) (cond (Nat.ble pc 22) (cond (Nat.ble pc 18) (cond (Nat.beq pc 18) (some (.iinc 1 1, 21, 1, nI 1)) none) (cond (Nat.ble pc 21) (cond (Nat.beq pc 21) (some (.iload_n 2, 22, 2, 0)) none) (cond (Nat.beq pc 22) (some (.iconst 3, 23, 0, nI 3)) none))) (cond (Nat.ble pc 23) (cond (Nat.beq pc 23) (some (.aload_n 0, 24, 0, 0)) none) (cond (Nat.ble pc 24) (cond (Nat.beq pc 24) (some (.iload_n 2, 25, 2, 0)) none) (cond (Nat.beq pc 25) (some (.invokevirtual 55, 28, 0, 0)) none)))) (cond (Nat.ble pc 32) (cond (Nat.ble pc 28) (cond (Nat.beq pc 28) (some (.invokestatic 109, 31, 0, 0)) none) (cond (Nat.ble pc 31) (cond (Nat.beq pc 31) (some (.iadd, 32, 0, 0)) none) (cond (Nat.beq pc 32) (some (.istore_n 2, 33, 2, 0)) none))) (cond (Nat.ble pc 33) (cond (Nat.beq pc 33) (some (.goto (-29), 36, 4, 0)) none) (cond (Nat.ble pc 36) (cond (Nat.beq pc 36) (some (.iload_n 1, 37, 1, 0)) none) (cond (Nat.beq pc 37) (some (.ireturn, 38, 0, 0)) none)))))
set_option maxRecDepth 100000 in
theorem k_X_listExtents : (List.range 38).all (fun pc => match f_X_listExtents pc with | none => true | some q => chk b_X_listExtents 3 pc q) = true := by decide +kernel
abbrev b_X_isUsedAddress : ByteArray := prog_1_method_28_code
def y_X_isUsedAddress : MethodName := ⟨"RootedWords", "isUsedAddress", "(I)Z"⟩
def f_X_isUsedAddress : Nat → Option TE := fun pc => cond (Nat.ble pc 20) (cond (Nat.ble pc 8) (cond (Nat.ble pc 4) (cond (Nat.ble pc 0) (cond (Nat.beq pc 0) (some (.aload_n 0, 1, 0, 0)) none) (cond (Nat.ble pc 1) (cond (Nat.beq pc 1) (some (.invokevirtual 105, 4, 0, 0)) none) (cond (Nat.beq pc 4) (some (.istore_n 2, 5, 2, 0)) none))) (cond (Nat.ble pc 6) (cond (Nat.ble pc 5) (cond (Nat.beq pc 5) (some (.iconst 0, 6, 0, nI 0)) none) (cond (Nat.beq pc 6) (some (.istore_n 3, 7, 3, 0)) none)) (cond (Nat.ble pc 7) (cond (Nat.beq pc 7) (some (.iload_n 3, 8, 3, 0)) none) (cond (Nat.beq pc 8) (some (.iload_n 2, 9, 2, 0)) none)))) (cond (Nat.ble pc 16) (cond (Nat.ble pc 12) (cond (Nat.ble pc 9) (cond (Nat.beq pc 9) (some (.if_icmp .ge 40, 12, 49, 0)) none) (cond (Nat.beq pc 12) (some (.aload_n 0, 13, 0, 0)) none)) (cond (Nat.ble pc 13) (cond (Nat.beq pc 13) (some (.getfield 16, 16, 0, 0)) none) (cond (Nat.beq pc 16) (some (.iload_n 3, 17, 3, 0)) none))) (cond (Nat.ble pc 18) (cond (Nat.ble pc 17) (cond (Nat.beq pc 17) (some (.iaload, 18, 0, 0)) none) (cond (Nat.beq pc 18) (some (.iconst 1, 19, 0, nI 1)) none)) (cond (Nat.ble pc 19) (cond (Nat.beq pc 19) (some (.iadd, 20, 0, 0)) none) (cond (Nat.beq pc 20) (some (.iload_n 1, 21, 1, 0)) none))))) (cond (Nat.ble pc 34) (cond (Nat.ble pc 26) (cond (Nat.ble pc 24) (cond (Nat.ble pc 21) (cond (Nat.beq pc 21) (some (.if_icmp .ne 22, 24, 43, 0)) none) (cond (Nat.beq pc 24) (some (.aload_n 0, 25, 0, 0)) none)) (cond (Nat.ble pc 25) (cond (Nat.beq pc 25) (some (.aload_n 0, 26, 0, 0)) none) (cond (Nat.beq pc 26) (some (.getfield 16, 29, 0, 0)) none))) (cond (Nat.ble pc 30) (cond (Nat.ble pc 29) (cond (Nat.beq pc 29) (some (.iload_n 3, 30, 3, 0)) none) (cond (Nat.beq pc 30) (some (.iaload, 31, 0, 0)) none)) (cond (Nat.ble pc 31) (cond (Nat.beq pc 31) (some (.invokevirtual 72, 34, 0, 0)) none) (cond (Nat.beq pc 34) (some (.ifCond .ne 7, 37, 41, 0)) none)))) (cond (Nat.ble pc 42) (cond (Nat.ble pc 38) (cond (Nat.ble pc 37) (cond (Nat.beq pc 37) (some (.iconst 1, 38, 0, nI 1)) none) (cond (Nat.beq pc 38) (some (.goto 4, 41, 42, 0)) none)) (cond (Nat.ble pc 41) (cond (Nat.beq pc 41) (some (.iconst 0, 42, 0, nI 0)) none) (cond (Nat.beq pc 42) (some (.ireturn, 43, 0, 0)) none))) (cond (Nat.ble pc 46) (cond (Nat.ble pc 43) (cond (Nat.beq pc 43) (some (.iinc 3 1, 46, 3, nI 1)) none) (cond (Nat.beq pc 46) (some (.goto (-39), 49, 7, 0)) none)) (cond (Nat.ble pc 49) (cond (Nat.beq pc 49) (some (.iconst 0, 50, 0, nI 0)) none) (cond (Nat.beq pc 50) (some (.ireturn, 51, 0, 0)) none)))))
set_option maxRecDepth 100000 in
theorem k_X_isUsedAddress : (List.range 51).all (fun pc => match f_X_isUsedAddress pc with | none => true | some q => chk b_X_isUsedAddress 4 pc q) = true := by decide +kernel
abbrev b_X_lowestFree : ByteArray := prog_1_method_29_code
def y_X_lowestFree : MethodName := ⟨"RootedWords", "lowestFree", "(I)I"⟩
def f_X_lowestFree : Nat → Option TE := fun pc => cond (Nat.ble pc 25) (cond (Nat.ble pc 9) (cond (Nat.ble pc 5) (cond (Nat.ble pc 1) (cond (Nat.ble pc 0) (cond (Nat.beq pc 0) (some (.aload_n 0, 1, 0, 0)) none) (cond (Nat.beq pc 1) (some (.invokevirtual 105, 4, 0, 0)) none)) (cond (Nat.ble pc 4) (cond (Nat.beq pc 4) (some (.istore_n 2, 5, 2, 0)) none) (cond (Nat.beq pc 5) (some (.iconst 0, 6, 0, nI 0)) none))) (cond (Nat.ble pc 7) (cond (Nat.ble pc 6) (cond (Nat.beq pc 6) (some (.istore_n 3, 7, 3, 0)) none) (cond (Nat.beq pc 7) (some (.iload_n 3, 8, 3, 0)) none)) (cond (Nat.ble pc 8) (cond (Nat.beq pc 8) (some (.iload_n 2, 9, 2, 0)) none) (cond (Nat.beq pc 9) (some (.if_icmp .ge 43, 12, 52, 0)) none)))) (cond (Nat.ble pc 17) (cond (Nat.ble pc 13) (cond (Nat.ble pc 12) (cond (Nat.beq pc 12) (some (.aload_n 0, 13, 0, 0)) none) (cond (Nat.beq pc 13) (some (.aload_n 0, 14, 0, 0)) none)) (cond (Nat.ble pc 14) (cond (Nat.beq pc 14) (some (.getfield 16, 17, 0, 0)) none) (cond (Nat.beq pc 17) (some (.iload_n 3, 18, 3, 0)) none))) (cond (Nat.ble pc 19) (cond (Nat.ble pc 18) (cond (Nat.beq pc 18) (some (.iaload, 19, 0, 0)) none) (cond (Nat.beq pc 19) (some (.invokevirtual 72, 22, 0, 0)) none)) (cond (Nat.ble pc 22) (cond (Nat.beq pc 22) (some (.ifCond .eq 24, 25, 46, 0)) none) (cond (Nat.beq pc 25) (some (.aload_n 0, 26, 0, 0)) none))))) (cond (Nat.ble pc 39) (cond (Nat.ble pc 31) (cond (Nat.ble pc 27) (cond (Nat.ble pc 26) (cond (Nat.beq pc 26) (some (.aload_n 0, 27, 0, 0)) none) (cond (Nat.beq pc 27) (some (.getfield 16, 30, 0, 0)) none)) (cond (Nat.ble pc 30) (cond (Nat.beq pc 30) (some (.iload_n 3, 31, 3, 0)) none) (cond (Nat.beq pc 31) (some (.iaload, 32, 0, 0)) none))) (cond (Nat.ble pc 35) (cond (Nat.ble pc 32) (cond (Nat.beq pc 32) (some (.invokevirtual 96, 35, 0, 0)) none) (cond (Nat.beq pc 35) (some (.iload_n 1, 36, 1, 0)) none)) (cond (Nat.ble pc 36) (cond (Nat.beq pc 36) (some (.if_icmp .lt 10, 39, 46, 0)) none) (cond (Nat.beq pc 39) (some (.aload_n 0, 40, 0, 0)) none)))) (cond (Nat.ble pc 45) (cond (Nat.ble pc 43) (cond (Nat.ble pc 40) (cond (Nat.beq pc 40) (some (.getfield 16, 43, 0, 0)) none) (cond (Nat.beq pc 43) (some (.iload_n 3, 44, 3, 0)) none)) (cond (Nat.ble pc 44) (cond (Nat.beq pc 44) (some (.iaload, 45, 0, 0)) none) (cond (Nat.beq pc 45) (some (.ireturn, 46, 0, 0)) none))) (cond (Nat.ble pc 49) (cond (Nat.ble pc 46) (cond (Nat.beq pc 46) (some (.iinc 3 1, 49, 3, nI 1)) none) (cond (Nat.beq pc 49) (some (.goto (-42), 52, 7, 0)) none)) (cond (Nat.ble pc 52) (cond (Nat.beq pc 52) (some (.iconst (-1), 53, 0, -1)) none) (cond (Nat.beq pc 53) (some (.ireturn, 54, 0, 0)) none)))))
set_option maxRecDepth 100000 in
theorem k_X_lowestFree : (List.range 54).all (fun pc => match f_X_lowestFree pc with | none => true | some q => chk b_X_lowestFree 4 pc q) = true := by decide +kernel
abbrev b_X_usedRoot : ByteArray := prog_1_method_30_code
def y_X_usedRoot : MethodName := ⟨"RootedWords", "usedRoot", "(I)I"⟩
def f_X_usedRoot : Nat → Option TE := fun pc => cond (Nat.ble pc 12) (cond (Nat.ble pc 4) (cond (Nat.ble pc 0) (cond (Nat.beq pc 0) (some (.aload_n 0, 1, 0, 0)) none) (cond (Nat.ble pc 1) (cond (Nat.beq pc 1) (some (.getfield 12, 4, 0, 0)) none) (cond (Nat.beq pc 4) (some (.sipush 257, 7, 0, nI 257)) none))) (cond (Nat.ble pc 8) (cond (Nat.ble pc 7) (cond (Nat.beq pc 7) (some (.iload_n 1, 8, 1, 0)) none) (cond (Nat.beq pc 8) (some (.iadd, 9, 0, 0)) none)) (cond (Nat.ble pc 9) (cond (Nat.beq pc 9) (some (.invokevirtual 90, 12, 0, 0)) none) (cond (Nat.beq pc 12) (some (.istore_n 2, 13, 2, 0)) none)))) (cond (Nat.ble pc 18) (cond (Nat.ble pc 14) (cond (Nat.ble pc 13) (cond (Nat.beq pc 13) (some (.aload_n 0, 14, 0, 0)) none) (cond (Nat.beq pc 14) (some (.iload_n 2, 15, 2, 0)) none)) (cond (Nat.ble pc 15) (cond (Nat.beq pc 15) (some (.invokevirtual 85, 18, 0, 0)) none) (cond (Nat.beq pc 18) (some (.ifCond .eq 7, 21, 25, 0)) none))) (cond (Nat.ble pc 22) (cond (Nat.ble pc 21) (cond (Nat.beq pc 21) (some (.iload_n 2, 22, 2, 0)) none) (cond (Nat.beq pc 22) (some (.goto 4, 25, 26, 0)) none)) (cond (Nat.ble pc 25) (cond (Nat.beq pc 25) (some (.iconst 0, 26, 0, nI 0)) none) (cond (Nat.beq pc 26) (some (.ireturn, 27, 0, 0)) none))))
set_option maxRecDepth 100000 in
theorem k_X_usedRoot : (List.range 27).all (fun pc => match f_X_usedRoot pc with | none => true | some q => chk b_X_usedRoot 3 pc q) = true := by decide +kernel
abbrev b_X_clearContent : ByteArray := prog_1_method_31_code
def y_X_clearContent : MethodName := ⟨"RootedWords", "clearContent", "(II)V"⟩
def f_X_clearContent : Nat → Option TE := fun pc => cond (Nat.ble pc 8) (cond (Nat.ble pc 3) (cond (Nat.ble pc 1) (cond (Nat.ble pc 0) (cond (Nat.beq pc 0) (some (.iload_n 1, 1, 1, 0)) none) (cond (Nat.beq pc 1) (some (.iconst 1, 2, 0, nI 1)) none)) (cond (Nat.ble pc 2) (cond (Nat.beq pc 2) (some (.iadd, 3, 0, 0)) none) (cond (Nat.beq pc 3) (some (.istore_n 3, 4, 3, 0)) none))) (cond (Nat.ble pc 5) (cond (Nat.ble pc 4) (cond (Nat.beq pc 4) (some (.iload_n 3, 5, 3, 0)) none) (cond (Nat.beq pc 5) (some (.iload_n 1, 6, 1, 0)) none)) (cond (Nat.ble pc 6) (cond (Nat.beq pc 6) (some (.iload_n 2, 7, 2, 0)) none) (cond (Nat.ble pc 7) (cond (Nat.beq pc 7) (some (.iadd, 8, 0, 0)) none) (cond (Nat.beq pc 8) (some (.iconst 1, 9, 0, nI 1)) none))))) (cond (Nat.ble pc 17) (cond (Nat.ble pc 10) (cond (Nat.ble pc 9) (cond (Nat.beq pc 9) (some (.isub, 10, 0, 0)) none) (cond (Nat.beq pc 10) (some (.if_icmp .ge 18, 13, 28, 0)) none)) (cond (Nat.ble pc 13) (cond (Nat.beq pc 13) (some (.aload_n 0, 14, 0, 0)) none) (cond (Nat.ble pc 14) (cond (Nat.beq pc 14) (some (.getfield 12, 17, 0, 0)) none) (cond (Nat.beq pc 17) (some (.iload_n 3, 18, 3, 0)) none)))) (cond (Nat.ble pc 19) (cond (Nat.ble pc 18) (cond (Nat.beq pc 18) (some (.iconst 0, 19, 0, nI 0)) none) (cond (Nat.beq pc 19) (some (.invokevirtual 161, 22, 0, 0)) none)) (cond (Nat.ble pc 22) (cond (Nat.beq pc 22) (some (.iinc 3 1, 25, 3, nI 1)) none) (cond (Nat.ble pc 25) (cond (Nat.beq pc 25) (some (.goto (-21), 28, 4, 0)) none) (cond (Nat.beq pc 28) (some (.return_, 29, 0, 0)) none)))))
set_option maxRecDepth 100000 in
theorem k_X_clearContent : (List.range 29).all (fun pc => match f_X_clearContent pc with | none => true | some q => chk b_X_clearContent 4 pc q) = true := by decide +kernel
abbrev b_X_planExtent : ByteArray := prog_1_method_32_code
def y_X_planExtent : MethodName := ⟨"RootedWords", "planExtent", "(IIII)V"⟩
def f_X_planExtent : Nat → Option TE := fun pc => cond (Nat.ble pc 21) (cond (Nat.ble pc 7) (cond (Nat.ble pc 4) (cond (Nat.ble pc 0) (cond (Nat.beq pc 0) (some (.aload_n 0, 1, 0, 0)) none) (cond (Nat.ble pc 1) (cond (Nat.beq pc 1) (some (.getfield 12, 4, 0, 0)) none) (cond (Nat.beq pc 4) (some (.iconst 2, 5, 0, nI 2)) none))) (cond (Nat.ble pc 5) (cond (Nat.beq pc 5) (some (.iload_n 1, 6, 1, 0)) none) (cond (Nat.ble pc 6) (cond (Nat.beq pc 6) (some (.imul, 7, 0, 0)) none) (cond (Nat.beq pc 7) (some (.iload_n 2, 8, 2, 0)) none)))) (cond (Nat.ble pc 11) (cond (Nat.ble pc 8) (cond (Nat.beq pc 8) (some (.iload_n 3, 9, 3, 0)) none) (cond (Nat.ble pc 9) (cond (Nat.beq pc 9) (some (.iload 4, 11, 4, 0)) none) (cond (Nat.beq pc 11) (some (.invokestatic 26, 14, 0, 0)) none))) (cond (Nat.ble pc 17) (cond (Nat.ble pc 14) (cond (Nat.beq pc 14) (some (.invokevirtual 164, 17, 0, 0)) none) (cond (Nat.beq pc 17) (some (.aload_n 0, 18, 0, 0)) none)) (cond (Nat.ble pc 18) (cond (Nat.beq pc 18) (some (.getfield 12, 21, 0, 0)) none) (cond (Nat.beq pc 21) (some (.iconst 2, 22, 0, nI 2)) none))))) (cond (Nat.ble pc 28) (cond (Nat.ble pc 24) (cond (Nat.ble pc 22) (cond (Nat.beq pc 22) (some (.iload_n 1, 23, 1, 0)) none) (cond (Nat.ble pc 23) (cond (Nat.beq pc 23) (some (.imul, 24, 0, 0)) none) (cond (Nat.beq pc 24) (some (.iconst 1, 25, 0, nI 1)) none))) (cond (Nat.ble pc 26) (cond (Nat.ble pc 25) (cond (Nat.beq pc 25) (some (.iadd, 26, 0, 0)) none) (cond (Nat.beq pc 26) (some (.iload_n 2, 27, 2, 0)) none)) (cond (Nat.ble pc 27) (cond (Nat.beq pc 27) (some (.iload_n 3, 28, 3, 0)) none) (cond (Nat.beq pc 28) (some (.iadd, 29, 0, 0)) none)))) (cond (Nat.ble pc 31) (cond (Nat.ble pc 29) (cond (Nat.beq pc 29) (some (.iconst 1, 30, 0, nI 1)) none) (cond (Nat.ble pc 30) (cond (Nat.beq pc 30) (some (.isub, 31, 0, 0)) none) (cond (Nat.beq pc 31) (some (.iload_n 3, 32, 3, 0)) none))) (cond (Nat.ble pc 34) (cond (Nat.ble pc 32) (cond (Nat.beq pc 32) (some (.iload 4, 34, 4, 0)) none) (cond (Nat.beq pc 34) (some (.invokestatic 26, 37, 0, 0)) none)) (cond (Nat.ble pc 37) (cond (Nat.beq pc 37) (some (.invokevirtual 164, 40, 0, 0)) none) (cond (Nat.beq pc 40) (some (.return_, 41, 0, 0)) none)))))
set_option maxRecDepth 100000 in
theorem k_X_planExtent : (List.range 41).all (fun pc => match f_X_planExtent pc with | none => true | some q => chk b_X_planExtent 5 pc q) = true := by decide +kernel
abbrev b_X_makeFree : ByteArray := prog_1_method_33_code
def y_X_makeFree : MethodName := ⟨"RootedWords", "makeFree", "(II)V"⟩
def f_X_makeFree : Nat → Option TE := fun pc => cond (Nat.ble pc 4) (cond (Nat.ble pc 1) (cond (Nat.ble pc 0) (cond (Nat.beq pc 0) (some (.aload_n 0, 1, 0, 0)) none) (cond (Nat.beq pc 1) (some (.iconst 0, 2, 0, nI 0)) none)) (cond (Nat.ble pc 2) (cond (Nat.beq pc 2) (some (.iload_n 1, 3, 1, 0)) none) (cond (Nat.ble pc 3) (cond (Nat.beq pc 3) (some (.iload_n 2, 4, 2, 0)) none) (cond (Nat.beq pc 4) (some (.iconst 0, 5, 0, nI 0)) none)))) (cond (Nat.ble pc 9) (cond (Nat.ble pc 5) (cond (Nat.beq pc 5) (some (.invokevirtual 61, 8, 0, 0)) none) (cond (Nat.ble pc 8) (cond (Nat.beq pc 8) (some (.aload_n 0, 9, 0, 0)) none) (cond (Nat.beq pc 9) (some (.getfield 12, 12, 0, 0)) none))) (cond (Nat.ble pc 12) (cond (Nat.beq pc 12) (some (.iconst 2, 13, 0, nI 2)) none) (cond (Nat.ble pc 13) (cond (Nat.beq pc 13) (some (.invokevirtual 65, 16, 0, 0)) none) (cond (Nat.beq pc 16) (some (.return_, 17, 0, 0)) none))))
set_option maxRecDepth 100000 in
theorem k_X_makeFree : (List.range 17).all (fun pc => match f_X_makeFree pc with | none => true | some q => chk b_X_makeFree 3 pc q) = true := by decide +kernel
abbrev b_X_changeWord : ByteArray := prog_1_method_34_code
def y_X_changeWord : MethodName := ⟨"RootedWords", "changeWord", "(II)V"⟩
def f_X_changeWord : Nat → Option TE := fun pc => cond (Nat.ble pc 6) (cond (Nat.ble pc 1) (cond (Nat.ble pc 0) (cond (Nat.beq pc 0) (some (.aload_n 0, 1, 0, 0)) none) (cond (Nat.beq pc 1) (some (.getfield 12, 4, 0, 0)) none)) (cond (Nat.ble pc 4) (cond (Nat.beq pc 4) (some (.iconst 0, 5, 0, nI 0)) none) (cond (Nat.ble pc 5) (cond (Nat.beq pc 5) (some (.iload_n 1, 6, 1, 0)) none) (cond (Nat.beq pc 6) (some (.iload_n 2, 7, 2, 0)) none)))) (cond (Nat.ble pc 11) (cond (Nat.ble pc 7) (cond (Nat.beq pc 7) (some (.invokevirtual 164, 10, 0, 0)) none) (cond (Nat.ble pc 10) (cond (Nat.beq pc 10) (some (.aload_n 0, 11, 0, 0)) none) (cond (Nat.beq pc 11) (some (.getfield 12, 14, 0, 0)) none))) (cond (Nat.ble pc 14) (cond (Nat.beq pc 14) (some (.iconst 1, 15, 0, nI 1)) none) (cond (Nat.ble pc 15) (cond (Nat.beq pc 15) (some (.invokevirtual 65, 18, 0, 0)) none) (cond (Nat.beq pc 18) (some (.return_, 19, 0, 0)) none))))
set_option maxRecDepth 100000 in
theorem k_X_changeWord : (List.range 19).all (fun pc => match f_X_changeWord pc with | none => true | some q => chk b_X_changeWord 3 pc q) = true := by decide +kernel
abbrev b_X_searchFromRoots : ByteArray := prog_1_method_35_code
def y_X_searchFromRoots : MethodName := ⟨"RootedWords", "searchFromRoots", "()I"⟩
def f_X_searchFromRoots : Nat → Option TE := fun pc => cond (Nat.ble pc 52) (cond (Nat.ble pc 23) (cond (Nat.ble pc 8) (cond (Nat.ble pc 4) (cond (Nat.ble pc 0) (cond (Nat.beq pc 0) (some (.aload_n 0, 1, 0, 0)) none) (cond (Nat.ble pc 1) (cond (Nat.beq pc 1) (some (.invokevirtual 168, 4, 0, 0)) none) (cond (Nat.beq pc 4) (some (.iconst 0, 5, 0, nI 0)) none))) (cond (Nat.ble pc 6) (cond (Nat.ble pc 5) (cond (Nat.beq pc 5) (some (.istore_n 1, 6, 1, 0)) none) (cond (Nat.beq pc 6) (some (.iconst 0, 7, 0, nI 0)) none)) (cond (Nat.ble pc 7) (cond (Nat.beq pc 7) (some (.istore_n 2, 8, 2, 0)) none) (cond (Nat.beq pc 8) (some (.iload_n 2, 9, 2, 0)) none)))) (cond (Nat.ble pc 15) (cond (Nat.ble pc 11) (cond (Nat.ble pc 9) (cond (Nat.beq pc 9) (some (.bipush 8, 11, 0, nI 8)) none) (cond (Nat.beq pc 11) (some (.if_icmp .ge 27, 14, 38, 0)) none)) (cond (Nat.ble pc 14) (cond (Nat.beq pc 14) (some (.aload_n 0, 15, 0, 0)) none) (cond (Nat.beq pc 15) (some (.aload_n 0, 16, 0, 0)) none))) (cond (Nat.ble pc 19) (cond (Nat.ble pc 16) (cond (Nat.beq pc 16) (some (.getfield 12, 19, 0, 0)) none) (cond (Nat.beq pc 19) (some (.sipush 257, 22, 0, nI 257)) none)) (cond (Nat.ble pc 22) (cond (Nat.beq pc 22) (some (.iload_n 2, 23, 2, 0)) none) (cond (Nat.beq pc 23) (some (.iadd, 24, 0, 0)) none))))) (cond (Nat.ble pc 38) (cond (Nat.ble pc 28) (cond (Nat.ble pc 24) (cond (Nat.beq pc 24) (some (.invokevirtual 90, 27, 0, 0)) none) (cond (Nat.ble pc 27) (cond (Nat.beq pc 27) (some (.iload_n 1, 28, 1, 0)) none) (cond (Nat.beq pc 28) (some (.invokevirtual 171, 31, 0, 0)) none))) (cond (Nat.ble pc 32) (cond (Nat.ble pc 31) (cond (Nat.beq pc 31) (some (.istore_n 1, 32, 1, 0)) none) (cond (Nat.beq pc 32) (some (.iinc 2 1, 35, 2, nI 1)) none)) (cond (Nat.ble pc 35) (cond (Nat.beq pc 35) (some (.goto (-27), 38, 8, 0)) none) (cond (Nat.beq pc 38) (some (.iconst 0, 39, 0, nI 0)) none)))) (cond (Nat.ble pc 42) (cond (Nat.ble pc 40) (cond (Nat.ble pc 39) (cond (Nat.beq pc 39) (some (.istore_n 2, 40, 2, 0)) none) (cond (Nat.beq pc 40) (some (.iload_n 2, 41, 2, 0)) none)) (cond (Nat.ble pc 41) (cond (Nat.beq pc 41) (some (.iload_n 1, 42, 1, 0)) none) (cond (Nat.beq pc 42) (some (.if_icmp .ge 65, 45, 107, 0)) none))) (cond (Nat.ble pc 46) (cond (Nat.ble pc 45) (cond (Nat.beq pc 45) (some (.iload_n 2, 46, 2, 0)) none) (cond (Nat.beq pc 46) (some (.sipush 256, 49, 0, nI 256)) none)) (cond (Nat.ble pc 49) (cond (Nat.beq pc 49) (some (.if_icmp .ge 58, 52, 107, 0)) none) (cond (Nat.beq pc 52) (some (.aload_n 0, 53, 0, 0)) none)))))) (cond (Nat.ble pc 75) (cond (Nat.ble pc 61) (cond (Nat.ble pc 57) (cond (Nat.ble pc 53) (cond (Nat.beq pc 53) (some (.getfield 23, 56, 0, 0)) none) (cond (Nat.ble pc 56) (cond (Nat.beq pc 56) (some (.iload_n 2, 57, 2, 0)) none) (cond (Nat.beq pc 57) (some (.iaload, 58, 0, 0)) none))) (cond (Nat.ble pc 59) (cond (Nat.ble pc 58) (cond (Nat.beq pc 58) (some (.istore_n 3, 59, 3, 0)) none) (cond (Nat.beq pc 59) (some (.aload_n 0, 60, 0, 0)) none)) (cond (Nat.ble pc 60) (cond (Nat.beq pc 60) (some (.iload_n 3, 61, 3, 0)) none) (cond (Nat.beq pc 61) (some (.iconst 1, 62, 0, nI 1)) none)))) (cond (Nat.ble pc 68) (cond (Nat.ble pc 63) (cond (Nat.ble pc 62) (cond (Nat.beq pc 62) (some (.isub, 63, 0, 0)) none) (cond (Nat.beq pc 63) (some (.invokevirtual 82, 66, 0, 0)) none)) (cond (Nat.ble pc 66) (cond (Nat.beq pc 66) (some (.istore 4, 68, 4, 0)) none) (cond (Nat.beq pc 68) (some (.iconst 0, 69, 0, nI 0)) none))) (cond (Nat.ble pc 71) (cond (Nat.ble pc 69) (cond (Nat.beq pc 69) (some (.istore 5, 71, 5, 0)) none) (cond (Nat.beq pc 71) (some (.iload 5, 73, 5, 0)) none)) (cond (Nat.ble pc 73) (cond (Nat.beq pc 73) (some (.iload 4, 75, 4, 0)) none) (cond (Nat.beq pc 75) (some (.if_icmp .ge 26, 78, 101, 0)) none))))) (cond (Nat.ble pc 90) (cond (Nat.ble pc 83) (cond (Nat.ble pc 79) (cond (Nat.ble pc 78) (cond (Nat.beq pc 78) (some (.aload_n 0, 79, 0, 0)) none) (cond (Nat.beq pc 79) (some (.aload_n 0, 80, 0, 0)) none)) (cond (Nat.ble pc 80) (cond (Nat.beq pc 80) (some (.getfield 12, 83, 0, 0)) none) (cond (Nat.beq pc 83) (some (.iload_n 3, 84, 3, 0)) none))) (cond (Nat.ble pc 86) (cond (Nat.ble pc 84) (cond (Nat.beq pc 84) (some (.iload 5, 86, 5, 0)) none) (cond (Nat.beq pc 86) (some (.iadd, 87, 0, 0)) none)) (cond (Nat.ble pc 87) (cond (Nat.beq pc 87) (some (.invokevirtual 90, 90, 0, 0)) none) (cond (Nat.beq pc 90) (some (.iload_n 1, 91, 1, 0)) none)))) (cond (Nat.ble pc 98) (cond (Nat.ble pc 94) (cond (Nat.ble pc 91) (cond (Nat.beq pc 91) (some (.invokevirtual 171, 94, 0, 0)) none) (cond (Nat.beq pc 94) (some (.istore_n 1, 95, 1, 0)) none)) (cond (Nat.ble pc 95) (cond (Nat.beq pc 95) (some (.iinc 5 1, 98, 5, nI 1)) none) (cond (Nat.beq pc 98) (some (.goto (-27), 101, 71, 0)) none))) (cond (Nat.ble pc 104) (cond (Nat.ble pc 101) (cond (Nat.beq pc 101) (some (.iinc 2 1, 104, 2, nI 1)) none) (cond (Nat.beq pc 104) (some (.goto (-64), 107, 40, 0)) none)) (cond (Nat.ble pc 107) (cond (Nat.beq pc 107) (some (.iload_n 1, 108, 1, 0)) none) (cond (Nat.beq pc 108) (some (.ireturn, 109, 0, 0)) none))))))
set_option maxRecDepth 100000 in
theorem k_X_searchFromRoots : (List.range 109).all (fun pc => match f_X_searchFromRoots pc with | none => true | some q => chk b_X_searchFromRoots 6 pc q) = true := by decide +kernel
abbrev b_X_markUsed : ByteArray := prog_1_method_36_code
def y_X_markUsed : MethodName := ⟨"RootedWords", "markUsed", "()V"⟩
def f_X_markUsed : Nat → Option TE := fun pc => cond (Nat.ble pc 32) (cond (Nat.ble pc 15) (cond (Nat.ble pc 4) (cond (Nat.ble pc 1) (cond (Nat.ble pc 0) (cond (Nat.beq pc 0) (some (.iconst 0, 1, 0, nI 0)) none) (cond (Nat.beq pc 1) (some (.istore_n 1, 2, 1, 0)) none)) (cond (Nat.ble pc 2) (cond (Nat.beq pc 2) (some (.iload_n 1, 3, 1, 0)) none) (cond (Nat.ble pc 3) (cond (Nat.beq pc 3) (some (.aload_n 0, 4, 0, 0)) none) (cond (Nat.beq pc 4) (some (.getfield 20, 7, 0, 0)) none)))) (cond (Nat.ble pc 8) (cond (Nat.ble pc 7) (cond (Nat.beq pc 7) (some (.arraylength, 8, 0, 0)) none) (cond (Nat.beq pc 8) (some (.if_icmp .ge 16, 11, 24, 0)) none)) (cond (Nat.ble pc 11) (cond (Nat.beq pc 11) (some (.aload_n 0, 12, 0, 0)) none) (cond (Nat.ble pc 12) (cond (Nat.beq pc 12) (some (.getfield 20, 15, 0, 0)) none) (cond (Nat.beq pc 15) (some (.iload_n 1, 16, 1, 0)) none))))) (cond (Nat.ble pc 24) (cond (Nat.ble pc 17) (cond (Nat.ble pc 16) (cond (Nat.beq pc 16) (some (.iconst 0, 17, 0, nI 0)) none) (cond (Nat.beq pc 17) (some (.iastore, 18, 0, 0)) none)) (cond (Nat.ble pc 18) (cond (Nat.beq pc 18) (some (.iinc 1 1, 21, 1, nI 1)) none) (cond (Nat.ble pc 21) (cond (Nat.beq pc 21) (some (.goto (-19), 24, 2, 0)) none) (cond (Nat.beq pc 24) (some (.aload_n 0, 25, 0, 0)) none)))) (cond (Nat.ble pc 29) (cond (Nat.ble pc 25) (cond (Nat.beq pc 25) (some (.invokevirtual 105, 28, 0, 0)) none) (cond (Nat.ble pc 28) (cond (Nat.beq pc 28) (some (.istore_n 1, 29, 1, 0)) none) (cond (Nat.beq pc 29) (some (.iconst 0, 30, 0, nI 0)) none))) (cond (Nat.ble pc 30) (cond (Nat.beq pc 30) (some (.istore_n 2, 31, 2, 0)) none) (cond (Nat.ble pc 31) (cond (Nat.beq pc 31) (some (.iload_n 2, 32, 2, 0)) none) (cond (Nat.beq pc 32) (some (.iload_n 1, 33, 1, 0)) none)))))) (cond (Nat.ble pc 50) (cond (Nat.ble pc 41) (cond (Nat.ble pc 36) (cond (Nat.ble pc 33) (cond (Nat.beq pc 33) (some (.if_icmp .ge 36, 36, 69, 0)) none) (cond (Nat.beq pc 36) (some (.aload_n 0, 37, 0, 0)) none)) (cond (Nat.ble pc 37) (cond (Nat.beq pc 37) (some (.aload_n 0, 38, 0, 0)) none) (cond (Nat.ble pc 38) (cond (Nat.beq pc 38) (some (.getfield 16, 41, 0, 0)) none) (cond (Nat.beq pc 41) (some (.iload_n 2, 42, 2, 0)) none)))) (cond (Nat.ble pc 43) (cond (Nat.ble pc 42) (cond (Nat.beq pc 42) (some (.iaload, 43, 0, 0)) none) (cond (Nat.beq pc 43) (some (.invokevirtual 72, 46, 0, 0)) none)) (cond (Nat.ble pc 46) (cond (Nat.beq pc 46) (some (.ifCond .ne 17, 49, 63, 0)) none) (cond (Nat.ble pc 49) (cond (Nat.beq pc 49) (some (.aload_n 0, 50, 0, 0)) none) (cond (Nat.beq pc 50) (some (.getfield 20, 53, 0, 0)) none))))) (cond (Nat.ble pc 59) (cond (Nat.ble pc 54) (cond (Nat.ble pc 53) (cond (Nat.beq pc 53) (some (.aload_n 0, 54, 0, 0)) none) (cond (Nat.beq pc 54) (some (.getfield 16, 57, 0, 0)) none)) (cond (Nat.ble pc 57) (cond (Nat.beq pc 57) (some (.iload_n 2, 58, 2, 0)) none) (cond (Nat.ble pc 58) (cond (Nat.beq pc 58) (some (.iaload, 59, 0, 0)) none) (cond (Nat.beq pc 59) (some (.iconst 1, 60, 0, nI 1)) none)))) (cond (Nat.ble pc 62) (cond (Nat.ble pc 60) (cond (Nat.beq pc 60) (some (.iadd, 61, 0, 0)) none) (cond (Nat.ble pc 61) (cond (Nat.beq pc 61) (some (.iconst 1, 62, 0, nI 1)) none) (cond (Nat.beq pc 62) (some (.iastore, 63, 0, 0)) none))) (cond (Nat.ble pc 63) (cond (Nat.beq pc 63) (some (.iinc 2 1, 66, 2, nI 1)) none) (cond (Nat.ble pc 66) (cond (Nat.beq pc 66) (some (.goto (-35), 69, 31, 0)) none) (cond (Nat.beq pc 69) (some (.return_, 70, 0, 0)) none))))))
set_option maxRecDepth 100000 in
theorem k_X_markUsed : (List.range 70).all (fun pc => match f_X_markUsed pc with | none => true | some q => chk b_X_markUsed 3 pc q) = true := by decide +kernel
abbrev b_X_reach : ByteArray := prog_1_method_37_code
def y_X_reach : MethodName := ⟨"RootedWords", "reach", "(II)I"⟩
def f_X_reach : Nat → Option TE := fun pc => cond (Nat.ble pc 23) (cond (Nat.ble pc 12) (cond (Nat.ble pc 2) (cond (Nat.ble pc 0) (cond (Nat.beq pc 0) (some (.iload_n 1, 1, 1, 0)) none) (cond (Nat.ble pc 1) (cond (Nat.beq pc 1) (some (.iconst 1, 2, 0, nI 1)) none) (cond (Nat.beq pc 2) (some (.if_icmp .lt 20, 5, 22, 0)) none))) (cond (Nat.ble pc 6) (cond (Nat.ble pc 5) (cond (Nat.beq pc 5) (some (.iload_n 1, 6, 1, 0)) none) (cond (Nat.beq pc 6) (some (.sipush 256, 9, 0, nI 256)) none)) (cond (Nat.ble pc 9) (cond (Nat.beq pc 9) (some (.if_icmp .gt 13, 12, 22, 0)) none) (cond (Nat.beq pc 12) (some (.aload_n 0, 13, 0, 0)) none)))) (cond (Nat.ble pc 17) (cond (Nat.ble pc 13) (cond (Nat.beq pc 13) (some (.getfield 20, 16, 0, 0)) none) (cond (Nat.ble pc 16) (cond (Nat.beq pc 16) (some (.iload_n 1, 17, 1, 0)) none) (cond (Nat.beq pc 17) (some (.iaload, 18, 0, 0)) none))) (cond (Nat.ble pc 19) (cond (Nat.ble pc 18) (cond (Nat.beq pc 18) (some (.iconst 1, 19, 0, nI 1)) none) (cond (Nat.beq pc 19) (some (.if_icmp .eq 5, 22, 24, 0)) none)) (cond (Nat.ble pc 22) (cond (Nat.beq pc 22) (some (.iload_n 2, 23, 2, 0)) none) (cond (Nat.beq pc 23) (some (.ireturn, 24, 0, 0)) none))))) (cond (Nat.ble pc 32) (cond (Nat.ble pc 28) (cond (Nat.ble pc 24) (cond (Nat.beq pc 24) (some (.aload_n 0, 25, 0, 0)) none) (cond (Nat.ble pc 25) (cond (Nat.beq pc 25) (some (.getfield 20, 28, 0, 0)) none) (cond (Nat.beq pc 28) (some (.iload_n 1, 29, 1, 0)) none))) (cond (Nat.ble pc 30) (cond (Nat.ble pc 29) (cond (Nat.beq pc 29) (some (.iconst 2, 30, 0, nI 2)) none) (cond (Nat.beq pc 30) (some (.iastore, 31, 0, 0)) none)) (cond (Nat.ble pc 31) (cond (Nat.beq pc 31) (some (.aload_n 0, 32, 0, 0)) none) (cond (Nat.beq pc 32) (some (.getfield 23, 35, 0, 0)) none)))) (cond (Nat.ble pc 37) (cond (Nat.ble pc 35) (cond (Nat.beq pc 35) (some (.iload_n 2, 36, 2, 0)) none) (cond (Nat.ble pc 36) (cond (Nat.beq pc 36) (some (.iload_n 1, 37, 1, 0)) none) (cond (Nat.beq pc 37) (some (.iastore, 38, 0, 0)) none))) (cond (Nat.ble pc 39) (cond (Nat.ble pc 38) (cond (Nat.beq pc 38) (some (.iload_n 2, 39, 2, 0)) none) (cond (Nat.beq pc 39) (some (.iconst 1, 40, 0, nI 1)) none)) (cond (Nat.ble pc 40) (cond (Nat.beq pc 40) (some (.iadd, 41, 0, 0)) none) (cond (Nat.beq pc 41) (some (.ireturn, 42, 0, 0)) none)))))
set_option maxRecDepth 100000 in
theorem k_X_reach : (List.range 42).all (fun pc => match f_X_reach pc with | none => true | some q => chk b_X_reach 3 pc q) = true := by decide +kernel
abbrev b_X_freeUnreached : ByteArray := prog_1_method_38_code
def y_X_freeUnreached : MethodName := ⟨"RootedWords", "freeUnreached", "()V"⟩
def f_X_freeUnreached : Nat → Option TE := fun pc => cond (Nat.ble pc 55) (cond (Nat.ble pc 28) (cond (Nat.ble pc 9) (cond (Nat.ble pc 5) (cond (Nat.ble pc 1) (cond (Nat.ble pc 0) (cond (Nat.beq pc 0) (some (.aload_n 0, 1, 0, 0)) none) (cond (Nat.beq pc 1) (some (.invokevirtual 105, 4, 0, 0)) none)) (cond (Nat.ble pc 4) (cond (Nat.beq pc 4) (some (.istore_n 1, 5, 1, 0)) none) (cond (Nat.beq pc 5) (some (.iconst 0, 6, 0, nI 0)) none))) (cond (Nat.ble pc 7) (cond (Nat.ble pc 6) (cond (Nat.beq pc 6) (some (.istore_n 2, 7, 2, 0)) none) (cond (Nat.beq pc 7) (some (.iload_n 2, 8, 2, 0)) none)) (cond (Nat.ble pc 8) (cond (Nat.beq pc 8) (some (.iload_n 1, 9, 1, 0)) none) (cond (Nat.beq pc 9) (some (.if_icmp .ge 107, 12, 116, 0)) none)))) (cond (Nat.ble pc 17) (cond (Nat.ble pc 13) (cond (Nat.ble pc 12) (cond (Nat.beq pc 12) (some (.aload_n 0, 13, 0, 0)) none) (cond (Nat.beq pc 13) (some (.aload_n 0, 14, 0, 0)) none)) (cond (Nat.ble pc 14) (cond (Nat.beq pc 14) (some (.getfield 16, 17, 0, 0)) none) (cond (Nat.beq pc 17) (some (.iload_n 2, 18, 2, 0)) none))) (cond (Nat.ble pc 19) (cond (Nat.ble pc 18) (cond (Nat.beq pc 18) (some (.iaload, 19, 0, 0)) none) (cond (Nat.beq pc 19) (some (.invokevirtual 174, 22, 0, 0)) none)) (cond (Nat.ble pc 22) (cond (Nat.beq pc 22) (some (.ifCond .eq 6, 25, 28, 0)) none) (cond (Nat.ble pc 25) (cond (Nat.beq pc 25) (some (.goto 85, 28, 110, 0)) none) (cond (Nat.beq pc 28) (some (.iload_n 2, 29, 2, 0)) none)))))) (cond (Nat.ble pc 38) (cond (Nat.ble pc 32) (cond (Nat.ble pc 30) (cond (Nat.ble pc 29) (cond (Nat.beq pc 29) (some (.istore_n 3, 30, 3, 0)) none) (cond (Nat.beq pc 30) (some (.iload_n 2, 31, 2, 0)) none)) (cond (Nat.ble pc 31) (cond (Nat.beq pc 31) (some (.iconst 1, 32, 0, nI 1)) none) (cond (Nat.beq pc 32) (some (.iadd, 33, 0, 0)) none))) (cond (Nat.ble pc 34) (cond (Nat.ble pc 33) (cond (Nat.beq pc 33) (some (.iload_n 1, 34, 1, 0)) none) (cond (Nat.beq pc 34) (some (.if_icmp .ge 24, 37, 58, 0)) none)) (cond (Nat.ble pc 37) (cond (Nat.beq pc 37) (some (.aload_n 0, 38, 0, 0)) none) (cond (Nat.beq pc 38) (some (.aload_n 0, 39, 0, 0)) none)))) (cond (Nat.ble pc 44) (cond (Nat.ble pc 42) (cond (Nat.ble pc 39) (cond (Nat.beq pc 39) (some (.getfield 16, 42, 0, 0)) none) (cond (Nat.beq pc 42) (some (.iload_n 2, 43, 2, 0)) none)) (cond (Nat.ble pc 43) (cond (Nat.beq pc 43) (some (.iconst 1, 44, 0, nI 1)) none) (cond (Nat.beq pc 44) (some (.iadd, 45, 0, 0)) none))) (cond (Nat.ble pc 46) (cond (Nat.ble pc 45) (cond (Nat.beq pc 45) (some (.iaload, 46, 0, 0)) none) (cond (Nat.beq pc 46) (some (.invokevirtual 174, 49, 0, 0)) none)) (cond (Nat.ble pc 49) (cond (Nat.beq pc 49) (some (.ifCond .ne 9, 52, 58, 0)) none) (cond (Nat.ble pc 52) (cond (Nat.beq pc 52) (some (.iinc 2 1, 55, 2, nI 1)) none) (cond (Nat.beq pc 55) (some (.goto (-25), 58, 30, 0)) none))))))) (cond (Nat.ble pc 84) (cond (Nat.ble pc 69) (cond (Nat.ble pc 63) (cond (Nat.ble pc 59) (cond (Nat.ble pc 58) (cond (Nat.beq pc 58) (some (.iload_n 2, 59, 2, 0)) none) (cond (Nat.beq pc 59) (some (.iload_n 3, 60, 3, 0)) none)) (cond (Nat.ble pc 60) (cond (Nat.beq pc 60) (some (.if_icmp .gt 16, 63, 76, 0)) none) (cond (Nat.beq pc 63) (some (.aload_n 0, 64, 0, 0)) none))) (cond (Nat.ble pc 65) (cond (Nat.ble pc 64) (cond (Nat.beq pc 64) (some (.aload_n 0, 65, 0, 0)) none) (cond (Nat.beq pc 65) (some (.getfield 16, 68, 0, 0)) none)) (cond (Nat.ble pc 68) (cond (Nat.beq pc 68) (some (.iload_n 2, 69, 2, 0)) none) (cond (Nat.beq pc 69) (some (.iaload, 70, 0, 0)) none)))) (cond (Nat.ble pc 77) (cond (Nat.ble pc 73) (cond (Nat.ble pc 70) (cond (Nat.beq pc 70) (some (.invokevirtual 72, 73, 0, 0)) none) (cond (Nat.beq pc 73) (some (.ifCond .ne 37, 76, 110, 0)) none)) (cond (Nat.ble pc 76) (cond (Nat.beq pc 76) (some (.aload_n 0, 77, 0, 0)) none) (cond (Nat.beq pc 77) (some (.aload_n 0, 78, 0, 0)) none))) (cond (Nat.ble pc 81) (cond (Nat.ble pc 78) (cond (Nat.beq pc 78) (some (.getfield 16, 81, 0, 0)) none) (cond (Nat.beq pc 81) (some (.iload_n 3, 82, 3, 0)) none)) (cond (Nat.ble pc 82) (cond (Nat.beq pc 82) (some (.iaload, 83, 0, 0)) none) (cond (Nat.ble pc 83) (cond (Nat.beq pc 83) (some (.aload_n 0, 84, 0, 0)) none) (cond (Nat.beq pc 84) (some (.getfield 16, 87, 0, 0)) none)))))) (cond (Nat.ble pc 99) (cond (Nat.ble pc 90) (cond (Nat.ble pc 88) (cond (Nat.ble pc 87) (cond (Nat.beq pc 87) (some (.iload_n 2, 88, 2, 0)) none) (cond (Nat.beq pc 88) (some (.iaload, 89, 0, 0)) none)) (cond (Nat.ble pc 89) (cond (Nat.beq pc 89) (some (.aload_n 0, 90, 0, 0)) none) (cond (Nat.beq pc 90) (some (.aload_n 0, 91, 0, 0)) none))) (cond (Nat.ble pc 94) (cond (Nat.ble pc 91) (cond (Nat.beq pc 91) (some (.getfield 16, 94, 0, 0)) none) (cond (Nat.beq pc 94) (some (.iload_n 2, 95, 2, 0)) none)) (cond (Nat.ble pc 95) (cond (Nat.beq pc 95) (some (.iaload, 96, 0, 0)) none) (cond (Nat.ble pc 96) (cond (Nat.beq pc 96) (some (.invokevirtual 55, 99, 0, 0)) none) (cond (Nat.beq pc 99) (some (.iadd, 100, 0, 0)) none))))) (cond (Nat.ble pc 105) (cond (Nat.ble pc 101) (cond (Nat.ble pc 100) (cond (Nat.beq pc 100) (some (.aload_n 0, 101, 0, 0)) none) (cond (Nat.beq pc 101) (some (.getfield 16, 104, 0, 0)) none)) (cond (Nat.ble pc 104) (cond (Nat.beq pc 104) (some (.iload_n 3, 105, 3, 0)) none) (cond (Nat.beq pc 105) (some (.iaload, 106, 0, 0)) none))) (cond (Nat.ble pc 107) (cond (Nat.ble pc 106) (cond (Nat.beq pc 106) (some (.isub, 107, 0, 0)) none) (cond (Nat.beq pc 107) (some (.invokevirtual 76, 110, 0, 0)) none)) (cond (Nat.ble pc 110) (cond (Nat.beq pc 110) (some (.iinc 2 1, 113, 2, nI 1)) none) (cond (Nat.ble pc 113) (cond (Nat.beq pc 113) (some (.goto (-106), 116, 7, 0)) none) (cond (Nat.beq pc 116) (some (.return_, 117, 0, 0)) none)))))))
set_option maxRecDepth 100000 in
theorem k_X_freeUnreached : (List.range 117).all (fun pc => match f_X_freeUnreached pc with | none => true | some q => chk b_X_freeUnreached 4 pc q) = true := by decide +kernel
abbrev b_X_isReachedAt : ByteArray := prog_1_method_39_code
def y_X_isReachedAt : MethodName := ⟨"RootedWords", "isReachedAt", "(I)Z"⟩
def f_X_isReachedAt : Nat → Option TE := fun pc => cond (Nat.ble pc 7) (cond (Nat.ble pc 4) (cond (Nat.ble pc 0) (cond (Nat.beq pc 0) (some (.aload_n 0, 1, 0, 0)) none) (cond (Nat.ble pc 1) (cond (Nat.beq pc 1) (some (.getfield 20, 4, 0, 0)) none) (cond (Nat.beq pc 4) (some (.iload_n 1, 5, 1, 0)) none))) (cond (Nat.ble pc 5) (cond (Nat.beq pc 5) (some (.iconst 1, 6, 0, nI 1)) none) (cond (Nat.ble pc 6) (cond (Nat.beq pc 6) (some (.iadd, 7, 0, 0)) none) (cond (Nat.beq pc 7) (some (.iaload, 8, 0, 0)) none)))) (cond (Nat.ble pc 12) (cond (Nat.ble pc 8) (cond (Nat.beq pc 8) (some (.iconst 2, 9, 0, nI 2)) none) (cond (Nat.ble pc 9) (cond (Nat.beq pc 9) (some (.if_icmp .ne 7, 12, 16, 0)) none) (cond (Nat.beq pc 12) (some (.iconst 1, 13, 0, nI 1)) none))) (cond (Nat.ble pc 13) (cond (Nat.beq pc 13) (some (.goto 4, 16, 17, 0)) none) (cond (Nat.ble pc 16) (cond (Nat.beq pc 16) (some (.iconst 0, 17, 0, nI 0)) none) (cond (Nat.beq pc 17) (some (.ireturn, 18, 0, 0)) none))))
set_option maxRecDepth 100000 in
theorem k_X_isReachedAt : (List.range 18).all (fun pc => match f_X_isReachedAt pc with | none => true | some q => chk b_X_isReachedAt 2 pc q) = true := by decide +kernel
abbrev b_M_thrown : ByteArray := prog_4_method_2_code
def y_M_thrown : MethodName := ⟨"RootedWordsModel", "thrown", "()I"⟩
def f_M_thrown : Nat → Option TE := fun pc => cond (Nat.ble pc 0) (cond (Nat.beq pc 0) (some (.aload_n 0, 1, 0, 0)) none) (cond (Nat.ble pc 1) (cond (Nat.beq pc 1) (some (.getfield 39, 4, 0, 0)) none) (cond (Nat.beq pc 4) (some (.ireturn, 5, 0, 0)) none))
set_option maxRecDepth 100000 in
theorem k_M_thrown : (List.range 5).all (fun pc => match f_M_thrown pc with | none => true | some q => chk b_M_thrown 1 pc q) = true := by decide +kernel
abbrev b_M_spend : ByteArray := prog_4_method_3_code
def y_M_spend : MethodName := ⟨"RootedWordsModel", "spend", "(I)I"⟩
def f_M_spend : Nat → Option TE := fun pc => cond (Nat.ble pc 46) (cond (Nat.ble pc 24) (cond (Nat.ble pc 11) (cond (Nat.ble pc 4) (cond (Nat.ble pc 0) (cond (Nat.beq pc 0) (some (.aload_n 0, 1, 0, 0)) none) (cond (Nat.ble pc 1) (cond (Nat.beq pc 1) (some (.getfield 36, 4, 0, 0)) none) (cond (Nat.beq pc 4) (some (.ifCond .lt 18, 7, 22, 0)) none))) (cond (Nat.ble pc 7) (cond (Nat.beq pc 7) (some (.aload_n 0, 8, 0, 0)) none) (cond (Nat.ble pc 8) (cond (Nat.beq pc 8) (some (.getfield 36, 11, 0, 0)) none) (cond (Nat.beq pc 11) (some (.iload_n 1, 12, 1, 0)) none)))) (cond (Nat.ble pc 16) (cond (Nat.ble pc 12) (cond (Nat.beq pc 12) (some (.if_icmp .ge 10, 15, 22, 0)) none) (cond (Nat.ble pc 15) (cond (Nat.beq pc 15) (some (.aload_n 0, 16, 0, 0)) none) (cond (Nat.beq pc 16) (some (.getfield 36, 19, 0, 0)) none))) (cond (Nat.ble pc 22) (cond (Nat.ble pc 19) (cond (Nat.beq pc 19) (some (.goto 4, 22, 23, 0)) none) (cond (Nat.beq pc 22) (some (.iload_n 1, 23, 1, 0)) none)) (cond (Nat.ble pc 23) (cond (Nat.beq pc 23) (some (.istore_n 2, 24, 2, 0)) none) (cond (Nat.beq pc 24) (some (.iload_n 2, 25, 2, 0)) none))))) (cond (Nat.ble pc 35) (cond (Nat.ble pc 29) (cond (Nat.ble pc 25) (cond (Nat.beq pc 25) (some (.iload_n 1, 26, 1, 0)) none) (cond (Nat.ble pc 26) (cond (Nat.beq pc 26) (some (.if_icmp .ge 7, 29, 33, 0)) none) (cond (Nat.beq pc 29) (some (.iconst 1, 30, 0, nI 1)) none))) (cond (Nat.ble pc 33) (cond (Nat.ble pc 30) (cond (Nat.beq pc 30) (some (.goto 4, 33, 34, 0)) none) (cond (Nat.beq pc 33) (some (.iconst 0, 34, 0, nI 0)) none)) (cond (Nat.ble pc 34) (cond (Nat.beq pc 34) (some (.istore_n 3, 35, 3, 0)) none) (cond (Nat.beq pc 35) (some (.aload_n 0, 36, 0, 0)) none)))) (cond (Nat.ble pc 40) (cond (Nat.ble pc 36) (cond (Nat.beq pc 36) (some (.aload_n 0, 37, 0, 0)) none) (cond (Nat.ble pc 37) (cond (Nat.beq pc 37) (some (.getfield 42, 40, 0, 0)) none) (cond (Nat.beq pc 40) (some (.iload_n 2, 41, 2, 0)) none))) (cond (Nat.ble pc 42) (cond (Nat.ble pc 41) (cond (Nat.beq pc 41) (some (.iadd, 42, 0, 0)) none) (cond (Nat.beq pc 42) (some (.putfield 42, 45, 0, 0)) none)) (cond (Nat.ble pc 45) (cond (Nat.beq pc 45) (some (.aload_n 0, 46, 0, 0)) none) (cond (Nat.beq pc 46) (some (.iload_n 3, 47, 3, 0)) none)))))) (cond (Nat.ble pc 71) (cond (Nat.ble pc 58) (cond (Nat.ble pc 51) (cond (Nat.ble pc 47) (cond (Nat.beq pc 47) (some (.ifCond .ne 10, 50, 57, 0)) none) (cond (Nat.ble pc 50) (cond (Nat.beq pc 50) (some (.aload_n 0, 51, 0, 0)) none) (cond (Nat.beq pc 51) (some (.getfield 36, 54, 0, 0)) none))) (cond (Nat.ble pc 54) (cond (Nat.beq pc 54) (some (.ifCond .ge 7, 57, 61, 0)) none) (cond (Nat.ble pc 57) (cond (Nat.beq pc 57) (some (.iconst (-1), 58, 0, -1)) none) (cond (Nat.beq pc 58) (some (.goto 9, 61, 67, 0)) none)))) (cond (Nat.ble pc 65) (cond (Nat.ble pc 61) (cond (Nat.beq pc 61) (some (.aload_n 0, 62, 0, 0)) none) (cond (Nat.ble pc 62) (cond (Nat.beq pc 62) (some (.getfield 36, 65, 0, 0)) none) (cond (Nat.beq pc 65) (some (.iload_n 1, 66, 1, 0)) none))) (cond (Nat.ble pc 67) (cond (Nat.ble pc 66) (cond (Nat.beq pc 66) (some (.isub, 67, 0, 0)) none) (cond (Nat.beq pc 67) (some (.putfield 36, 70, 0, 0)) none)) (cond (Nat.ble pc 70) (cond (Nat.beq pc 70) (some (.aload_n 0, 71, 0, 0)) none) (cond (Nat.beq pc 71) (some (.aload_n 0, 72, 0, 0)) none))))) (cond (Nat.ble pc 86) (cond (Nat.ble pc 78) (cond (Nat.ble pc 72) (cond (Nat.beq pc 72) (some (.getfield 45, 75, 0, 0)) none) (cond (Nat.ble pc 75) (cond (Nat.beq pc 75) (some (.ifCond .ne 7, 78, 82, 0)) none) (cond (Nat.beq pc 78) (some (.iload_n 3, 79, 3, 0)) none))) (cond (Nat.ble pc 82) (cond (Nat.ble pc 79) (cond (Nat.beq pc 79) (some (.ifCond .eq 7, 82, 86, 0)) none) (cond (Nat.beq pc 82) (some (.iconst 1, 83, 0, nI 1)) none)) (cond (Nat.ble pc 83) (cond (Nat.beq pc 83) (some (.goto 4, 86, 87, 0)) none) (cond (Nat.beq pc 86) (some (.iconst 0, 87, 0, nI 0)) none)))) (cond (Nat.ble pc 91) (cond (Nat.ble pc 87) (cond (Nat.beq pc 87) (some (.putfield 45, 90, 0, 0)) none) (cond (Nat.ble pc 90) (cond (Nat.beq pc 90) (some (.iload_n 3, 91, 3, 0)) none) (cond (Nat.beq pc 91) (some (.ifCond .eq 7, 94, 98, 0)) none))) (cond (Nat.ble pc 95) (cond (Nat.ble pc 94) (cond (Nat.beq pc 94) (some (.iload_n 2, 95, 2, 0)) none) (cond (Nat.beq pc 95) (some (.goto 4, 98, 99, 0)) none)) (cond (Nat.ble pc 98) (cond (Nat.beq pc 98) (some (.iconst (-1), 99, 0, -1)) none) (cond (Nat.beq pc 99) (some (.ireturn, 100, 0, 0)) none))))))
set_option maxRecDepth 100000 in
theorem k_M_spend : (List.range 100).all (fun pc => match f_M_spend pc with | none => true | some q => chk b_M_spend 4 pc q) = true := by decide +kernel
abbrev b_M_change : ByteArray := prog_4_method_4_code
def y_M_change : MethodName := ⟨"RootedWordsModel", "change", "(I)I"⟩
def f_M_change : Nat → Option TE := fun pc => cond (Nat.ble pc 18) (cond (Nat.ble pc 6) (cond (Nat.ble pc 2) (cond (Nat.ble pc 0) (cond (Nat.beq pc 0) (some (.aload_n 0, 1, 0, 0)) none) (cond (Nat.ble pc 1) (cond (Nat.beq pc 1) (some (.iconst 3, 2, 0, nI 3)) none) (cond (Nat.beq pc 2) (some (.iload_n 1, 3, 1, 0)) none))) (cond (Nat.ble pc 4) (cond (Nat.ble pc 3) (cond (Nat.beq pc 3) (some (.imul, 4, 0, 0)) none) (cond (Nat.beq pc 4) (some (.iconst 2, 5, 0, nI 2)) none)) (cond (Nat.ble pc 5) (cond (Nat.beq pc 5) (some (.iadd, 6, 0, 0)) none) (cond (Nat.beq pc 6) (some (.invokevirtual 49, 9, 0, 0)) none)))) (cond (Nat.ble pc 14) (cond (Nat.ble pc 10) (cond (Nat.ble pc 9) (cond (Nat.beq pc 9) (some (.istore_n 2, 10, 2, 0)) none) (cond (Nat.beq pc 10) (some (.iload_n 2, 11, 2, 0)) none)) (cond (Nat.ble pc 11) (cond (Nat.beq pc 11) (some (.ifCond .ge 5, 14, 16, 0)) none) (cond (Nat.beq pc 14) (some (.iconst 0, 15, 0, nI 0)) none))) (cond (Nat.ble pc 16) (cond (Nat.ble pc 15) (cond (Nat.beq pc 15) (some (.ireturn, 16, 0, 0)) none) (cond (Nat.beq pc 16) (some (.aload_n 0, 17, 0, 0)) none)) (cond (Nat.ble pc 17) (cond (Nat.beq pc 17) (some (.iload_n 2, 18, 2, 0)) none) (cond (Nat.beq pc 18) (some (.iconst 2, 19, 0, nI 2)) none))))) (cond (Nat.ble pc 32) (cond (Nat.ble pc 24) (cond (Nat.ble pc 20) (cond (Nat.ble pc 19) (cond (Nat.beq pc 19) (some (.iload_n 1, 20, 1, 0)) none) (cond (Nat.beq pc 20) (some (.imul, 21, 0, 0)) none)) (cond (Nat.ble pc 21) (cond (Nat.beq pc 21) (some (.if_icmp .le 7, 24, 28, 0)) none) (cond (Nat.beq pc 24) (some (.iload_n 1, 25, 1, 0)) none))) (cond (Nat.ble pc 28) (cond (Nat.ble pc 25) (cond (Nat.beq pc 25) (some (.goto 4, 28, 29, 0)) none) (cond (Nat.beq pc 28) (some (.iconst 0, 29, 0, nI 0)) none)) (cond (Nat.ble pc 29) (cond (Nat.beq pc 29) (some (.putfield 53, 32, 0, 0)) none) (cond (Nat.beq pc 32) (some (.iload_n 2, 33, 2, 0)) none)))) (cond (Nat.ble pc 36) (cond (Nat.ble pc 34) (cond (Nat.ble pc 33) (cond (Nat.beq pc 33) (some (.iconst 2, 34, 0, nI 2)) none) (cond (Nat.beq pc 34) (some (.iload_n 1, 35, 1, 0)) none)) (cond (Nat.ble pc 35) (cond (Nat.beq pc 35) (some (.imul, 36, 0, 0)) none) (cond (Nat.beq pc 36) (some (.if_icmp .le 7, 39, 43, 0)) none))) (cond (Nat.ble pc 40) (cond (Nat.ble pc 39) (cond (Nat.beq pc 39) (some (.iconst 1, 40, 0, nI 1)) none) (cond (Nat.beq pc 40) (some (.goto 4, 43, 44, 0)) none)) (cond (Nat.ble pc 43) (cond (Nat.beq pc 43) (some (.iconst 2, 44, 0, nI 2)) none) (cond (Nat.beq pc 44) (some (.ireturn, 45, 0, 0)) none)))))
set_option maxRecDepth 100000 in
theorem k_M_change : (List.range 45).all (fun pc => match f_M_change pc with | none => true | some q => chk b_M_change 3 pc q) = true := by decide +kernel
abbrev b_M_does : ByteArray := prog_4_method_5_code
def y_M_does : MethodName := ⟨"RootedWordsModel", "does", "(I)Z"⟩
def f_M_does : Nat → Option TE := fun pc => cond (Nat.ble pc 12) (cond (Nat.ble pc 5) (cond (Nat.ble pc 1) (cond (Nat.ble pc 0) (cond (Nat.beq pc 0) (some (.aload_n 0, 1, 0, 0)) none) (cond (Nat.beq pc 1) (some (.iload_n 1, 2, 1, 0)) none)) (cond (Nat.ble pc 2) (cond (Nat.beq pc 2) (some (.invokevirtual 56, 5, 0, 0)) none) (cond (Nat.beq pc 5) (some (.istore_n 2, 6, 2, 0)) none))) (cond (Nat.ble pc 7) (cond (Nat.ble pc 6) (cond (Nat.beq pc 6) (some (.aload_n 0, 7, 0, 0)) none) (cond (Nat.beq pc 7) (some (.iload_n 2, 8, 2, 0)) none)) (cond (Nat.ble pc 8) (cond (Nat.beq pc 8) (some (.ifCond .le 7, 11, 15, 0)) none) (cond (Nat.ble pc 11) (cond (Nat.beq pc 11) (some (.iconst 1, 12, 0, nI 1)) none) (cond (Nat.beq pc 12) (some (.goto 4, 15, 16, 0)) none))))) (cond (Nat.ble pc 20) (cond (Nat.ble pc 16) (cond (Nat.ble pc 15) (cond (Nat.beq pc 15) (some (.iconst 0, 16, 0, nI 0)) none) (cond (Nat.beq pc 16) (some (.putfield 39, 19, 0, 0)) none)) (cond (Nat.ble pc 19) (cond (Nat.beq pc 19) (some (.iload_n 2, 20, 2, 0)) none) (cond (Nat.beq pc 20) (some (.iconst 2, 21, 0, nI 2)) none))) (cond (Nat.ble pc 24) (cond (Nat.ble pc 21) (cond (Nat.beq pc 21) (some (.if_icmp .ge 7, 24, 28, 0)) none) (cond (Nat.beq pc 24) (some (.iconst 1, 25, 0, nI 1)) none)) (cond (Nat.ble pc 25) (cond (Nat.beq pc 25) (some (.goto 4, 28, 29, 0)) none) (cond (Nat.ble pc 28) (cond (Nat.beq pc 28) (some (.iconst 0, 29, 0, nI 0)) none) (cond (Nat.beq pc 29) (some (.ireturn, 30, 0, 0)) none)))))
set_option maxRecDepth 100000 in
theorem k_M_does : (List.range 30).all (fun pc => match f_M_does pc with | none => true | some q => chk b_M_does 3 pc q) = true := by decide +kernel
abbrev b_M_at : ByteArray := prog_4_method_6_code
def y_M_at : MethodName := ⟨"RootedWordsModel", "at", "(I)I"⟩
def f_M_at : Nat → Option TE := fun pc => cond (Nat.ble pc 21) (cond (Nat.ble pc 6) (cond (Nat.ble pc 2) (cond (Nat.ble pc 0) (cond (Nat.beq pc 0) (some (.iconst (-1), 1, 0, -1)) none) (cond (Nat.ble pc 1) (cond (Nat.beq pc 1) (some (.istore_n 2, 2, 2, 0)) none) (cond (Nat.beq pc 2) (some (.iconst 0, 3, 0, nI 0)) none))) (cond (Nat.ble pc 4) (cond (Nat.ble pc 3) (cond (Nat.beq pc 3) (some (.istore_n 3, 4, 3, 0)) none) (cond (Nat.beq pc 4) (some (.iload_n 3, 5, 3, 0)) none)) (cond (Nat.ble pc 5) (cond (Nat.beq pc 5) (some (.aload_n 0, 6, 0, 0)) none) (cond (Nat.beq pc 6) (some (.getfield 7, 9, 0, 0)) none)))) (cond (Nat.ble pc 13) (cond (Nat.ble pc 9) (cond (Nat.beq pc 9) (some (.if_icmp .ge 36, 12, 45, 0)) none) (cond (Nat.ble pc 12) (cond (Nat.beq pc 12) (some (.aload_n 0, 13, 0, 0)) none) (cond (Nat.beq pc 13) (some (.getfield 20, 16, 0, 0)) none))) (cond (Nat.ble pc 17) (cond (Nat.ble pc 16) (cond (Nat.beq pc 16) (some (.iload_n 3, 17, 3, 0)) none) (cond (Nat.beq pc 17) (some (.baload, 18, 0, 0)) none)) (cond (Nat.ble pc 18) (cond (Nat.beq pc 18) (some (.ifCond .eq 19, 21, 37, 0)) none) (cond (Nat.beq pc 21) (some (.aload_n 0, 22, 0, 0)) none))))) (cond (Nat.ble pc 30) (cond (Nat.ble pc 26) (cond (Nat.ble pc 22) (cond (Nat.beq pc 22) (some (.getfield 13, 25, 0, 0)) none) (cond (Nat.ble pc 25) (cond (Nat.beq pc 25) (some (.iload_n 3, 26, 3, 0)) none) (cond (Nat.beq pc 26) (some (.iaload, 27, 0, 0)) none))) (cond (Nat.ble pc 28) (cond (Nat.ble pc 27) (cond (Nat.beq pc 27) (some (.iconst 1, 28, 0, nI 1)) none) (cond (Nat.beq pc 28) (some (.iadd, 29, 0, 0)) none)) (cond (Nat.ble pc 29) (cond (Nat.beq pc 29) (some (.iload_n 1, 30, 1, 0)) none) (cond (Nat.beq pc 30) (some (.if_icmp .ne 7, 33, 37, 0)) none)))) (cond (Nat.ble pc 38) (cond (Nat.ble pc 34) (cond (Nat.ble pc 33) (cond (Nat.beq pc 33) (some (.iload_n 3, 34, 3, 0)) none) (cond (Nat.beq pc 34) (some (.goto 4, 37, 38, 0)) none)) (cond (Nat.ble pc 37) (cond (Nat.beq pc 37) (some (.iload_n 2, 38, 2, 0)) none) (cond (Nat.beq pc 38) (some (.istore_n 2, 39, 2, 0)) none))) (cond (Nat.ble pc 42) (cond (Nat.ble pc 39) (cond (Nat.beq pc 39) (some (.iinc 3 1, 42, 3, nI 1)) none) (cond (Nat.beq pc 42) (some (.goto (-38), 45, 4, 0)) none)) (cond (Nat.ble pc 45) (cond (Nat.beq pc 45) (some (.iload_n 2, 46, 2, 0)) none) (cond (Nat.beq pc 46) (some (.ireturn, 47, 0, 0)) none)))))
set_option maxRecDepth 100000 in
theorem k_M_at : (List.range 47).all (fun pc => match f_M_at pc with | none => true | some q => chk b_M_at 4 pc q) = true := by decide +kernel
abbrev b_M_join : ByteArray := prog_4_method_7_code
def y_M_join : MethodName := ⟨"RootedWordsModel", "join", "(II)V"⟩
def f_M_join : Nat → Option TE := fun pc => cond (Nat.ble pc 78) (cond (Nat.ble pc 34) (cond (Nat.ble pc 15) (cond (Nat.ble pc 5) (cond (Nat.ble pc 2) (cond (Nat.ble pc 0) (cond (Nat.beq pc 0) (some (.iload_n 2, 1, 2, 0)) none) (cond (Nat.ble pc 1) (cond (Nat.beq pc 1) (some (.iload_n 1, 2, 1, 0)) none) (cond (Nat.beq pc 2) (some (.isub, 3, 0, 0)) none))) (cond (Nat.ble pc 3) (cond (Nat.beq pc 3) (some (.istore_n 3, 4, 3, 0)) none) (cond (Nat.ble pc 4) (cond (Nat.beq pc 4) (some (.iload_n 1, 5, 1, 0)) none) (cond (Nat.beq pc 5) (some (.iconst 1, 6, 0, nI 1)) none)))) (cond (Nat.ble pc 9) (cond (Nat.ble pc 6) (cond (Nat.beq pc 6) (some (.iadd, 7, 0, 0)) none) (cond (Nat.ble pc 7) (cond (Nat.beq pc 7) (some (.istore 4, 9, 4, 0)) none) (cond (Nat.beq pc 9) (some (.iload 4, 11, 4, 0)) none))) (cond (Nat.ble pc 11) (cond (Nat.beq pc 11) (some (.iload_n 2, 12, 2, 0)) none) (cond (Nat.ble pc 12) (cond (Nat.beq pc 12) (some (.if_icmp .gt 29, 15, 41, 0)) none) (cond (Nat.beq pc 15) (some (.aload_n 0, 16, 0, 0)) none))))) (cond (Nat.ble pc 25) (cond (Nat.ble pc 20) (cond (Nat.ble pc 16) (cond (Nat.beq pc 16) (some (.getfield 17, 19, 0, 0)) none) (cond (Nat.ble pc 19) (cond (Nat.beq pc 19) (some (.iload_n 1, 20, 1, 0)) none) (cond (Nat.beq pc 20) (some (.aload_n 0, 21, 0, 0)) none))) (cond (Nat.ble pc 21) (cond (Nat.beq pc 21) (some (.getfield 17, 24, 0, 0)) none) (cond (Nat.ble pc 24) (cond (Nat.beq pc 24) (some (.iload_n 1, 25, 1, 0)) none) (cond (Nat.beq pc 25) (some (.iaload, 26, 0, 0)) none)))) (cond (Nat.ble pc 30) (cond (Nat.ble pc 26) (cond (Nat.beq pc 26) (some (.aload_n 0, 27, 0, 0)) none) (cond (Nat.ble pc 27) (cond (Nat.beq pc 27) (some (.getfield 17, 30, 0, 0)) none) (cond (Nat.beq pc 30) (some (.iload 4, 32, 4, 0)) none))) (cond (Nat.ble pc 32) (cond (Nat.beq pc 32) (some (.iaload, 33, 0, 0)) none) (cond (Nat.ble pc 33) (cond (Nat.beq pc 33) (some (.iadd, 34, 0, 0)) none) (cond (Nat.beq pc 34) (some (.iastore, 35, 0, 0)) none)))))) (cond (Nat.ble pc 54) (cond (Nat.ble pc 46) (cond (Nat.ble pc 41) (cond (Nat.ble pc 35) (cond (Nat.beq pc 35) (some (.iinc 4 1, 38, 4, nI 1)) none) (cond (Nat.ble pc 38) (cond (Nat.beq pc 38) (some (.goto (-29), 41, 9, 0)) none) (cond (Nat.beq pc 41) (some (.aload_n 0, 42, 0, 0)) none))) (cond (Nat.ble pc 42) (cond (Nat.beq pc 42) (some (.getfield 20, 45, 0, 0)) none) (cond (Nat.ble pc 45) (cond (Nat.beq pc 45) (some (.iload_n 1, 46, 1, 0)) none) (cond (Nat.beq pc 46) (some (.iconst 0, 47, 0, nI 0)) none)))) (cond (Nat.ble pc 49) (cond (Nat.ble pc 47) (cond (Nat.beq pc 47) (some (.bastore, 48, 0, 0)) none) (cond (Nat.ble pc 48) (cond (Nat.beq pc 48) (some (.aload_n 0, 49, 0, 0)) none) (cond (Nat.beq pc 49) (some (.aload_n 0, 50, 0, 0)) none))) (cond (Nat.ble pc 50) (cond (Nat.beq pc 50) (some (.getfield 7, 53, 0, 0)) none) (cond (Nat.ble pc 53) (cond (Nat.beq pc 53) (some (.iload_n 3, 54, 3, 0)) none) (cond (Nat.beq pc 54) (some (.isub, 55, 0, 0)) none))))) (cond (Nat.ble pc 63) (cond (Nat.ble pc 59) (cond (Nat.ble pc 55) (cond (Nat.beq pc 55) (some (.putfield 7, 58, 0, 0)) none) (cond (Nat.ble pc 58) (cond (Nat.beq pc 58) (some (.iload_n 1, 59, 1, 0)) none) (cond (Nat.beq pc 59) (some (.iconst 1, 60, 0, nI 1)) none))) (cond (Nat.ble pc 60) (cond (Nat.beq pc 60) (some (.iadd, 61, 0, 0)) none) (cond (Nat.ble pc 61) (cond (Nat.beq pc 61) (some (.istore 4, 63, 4, 0)) none) (cond (Nat.beq pc 63) (some (.iload 4, 65, 4, 0)) none)))) (cond (Nat.ble pc 69) (cond (Nat.ble pc 65) (cond (Nat.beq pc 65) (some (.aload_n 0, 66, 0, 0)) none) (cond (Nat.ble pc 66) (cond (Nat.beq pc 66) (some (.getfield 7, 69, 0, 0)) none) (cond (Nat.beq pc 69) (some (.if_icmp .ge 89, 72, 158, 0)) none))) (cond (Nat.ble pc 73) (cond (Nat.ble pc 72) (cond (Nat.beq pc 72) (some (.aload_n 0, 73, 0, 0)) none) (cond (Nat.beq pc 73) (some (.getfield 13, 76, 0, 0)) none)) (cond (Nat.ble pc 76) (cond (Nat.beq pc 76) (some (.iload 4, 78, 4, 0)) none) (cond (Nat.beq pc 78) (some (.aload_n 0, 79, 0, 0)) none))))))) (cond (Nat.ble pc 117) (cond (Nat.ble pc 98) (cond (Nat.ble pc 87) (cond (Nat.ble pc 84) (cond (Nat.ble pc 79) (cond (Nat.beq pc 79) (some (.getfield 13, 82, 0, 0)) none) (cond (Nat.ble pc 82) (cond (Nat.beq pc 82) (some (.iload 4, 84, 4, 0)) none) (cond (Nat.beq pc 84) (some (.iload_n 3, 85, 3, 0)) none))) (cond (Nat.ble pc 85) (cond (Nat.beq pc 85) (some (.iadd, 86, 0, 0)) none) (cond (Nat.ble pc 86) (cond (Nat.beq pc 86) (some (.iaload, 87, 0, 0)) none) (cond (Nat.beq pc 87) (some (.iastore, 88, 0, 0)) none)))) (cond (Nat.ble pc 92) (cond (Nat.ble pc 88) (cond (Nat.beq pc 88) (some (.aload_n 0, 89, 0, 0)) none) (cond (Nat.ble pc 89) (cond (Nat.beq pc 89) (some (.getfield 17, 92, 0, 0)) none) (cond (Nat.beq pc 92) (some (.iload 4, 94, 4, 0)) none))) (cond (Nat.ble pc 94) (cond (Nat.beq pc 94) (some (.aload_n 0, 95, 0, 0)) none) (cond (Nat.ble pc 95) (cond (Nat.beq pc 95) (some (.getfield 17, 98, 0, 0)) none) (cond (Nat.beq pc 98) (some (.iload 4, 100, 4, 0)) none))))) (cond (Nat.ble pc 105) (cond (Nat.ble pc 102) (cond (Nat.ble pc 100) (cond (Nat.beq pc 100) (some (.iload_n 3, 101, 3, 0)) none) (cond (Nat.ble pc 101) (cond (Nat.beq pc 101) (some (.iadd, 102, 0, 0)) none) (cond (Nat.beq pc 102) (some (.iaload, 103, 0, 0)) none))) (cond (Nat.ble pc 103) (cond (Nat.beq pc 103) (some (.iastore, 104, 0, 0)) none) (cond (Nat.ble pc 104) (cond (Nat.beq pc 104) (some (.aload_n 0, 105, 0, 0)) none) (cond (Nat.beq pc 105) (some (.getfield 20, 108, 0, 0)) none)))) (cond (Nat.ble pc 111) (cond (Nat.ble pc 108) (cond (Nat.beq pc 108) (some (.iload 4, 110, 4, 0)) none) (cond (Nat.ble pc 110) (cond (Nat.beq pc 110) (some (.aload_n 0, 111, 0, 0)) none) (cond (Nat.beq pc 111) (some (.getfield 20, 114, 0, 0)) none))) (cond (Nat.ble pc 114) (cond (Nat.beq pc 114) (some (.iload 4, 116, 4, 0)) none) (cond (Nat.ble pc 116) (cond (Nat.beq pc 116) (some (.iload_n 3, 117, 3, 0)) none) (cond (Nat.beq pc 117) (some (.iadd, 118, 0, 0)) none)))))) (cond (Nat.ble pc 135) (cond (Nat.ble pc 126) (cond (Nat.ble pc 120) (cond (Nat.ble pc 118) (cond (Nat.beq pc 118) (some (.baload, 119, 0, 0)) none) (cond (Nat.ble pc 119) (cond (Nat.beq pc 119) (some (.bastore, 120, 0, 0)) none) (cond (Nat.beq pc 120) (some (.aload_n 0, 121, 0, 0)) none))) (cond (Nat.ble pc 121) (cond (Nat.beq pc 121) (some (.getfield 24, 124, 0, 0)) none) (cond (Nat.ble pc 124) (cond (Nat.beq pc 124) (some (.iload 4, 126, 4, 0)) none) (cond (Nat.beq pc 126) (some (.aload_n 0, 127, 0, 0)) none)))) (cond (Nat.ble pc 132) (cond (Nat.ble pc 127) (cond (Nat.beq pc 127) (some (.getfield 24, 130, 0, 0)) none) (cond (Nat.ble pc 130) (cond (Nat.beq pc 130) (some (.iload 4, 132, 4, 0)) none) (cond (Nat.beq pc 132) (some (.iload_n 3, 133, 3, 0)) none))) (cond (Nat.ble pc 133) (cond (Nat.beq pc 133) (some (.iadd, 134, 0, 0)) none) (cond (Nat.ble pc 134) (cond (Nat.beq pc 134) (some (.iaload, 135, 0, 0)) none) (cond (Nat.beq pc 135) (some (.iastore, 136, 0, 0)) none))))) (cond (Nat.ble pc 146) (cond (Nat.ble pc 140) (cond (Nat.ble pc 136) (cond (Nat.beq pc 136) (some (.aload_n 0, 137, 0, 0)) none) (cond (Nat.ble pc 137) (cond (Nat.beq pc 137) (some (.getfield 27, 140, 0, 0)) none) (cond (Nat.beq pc 140) (some (.iload 4, 142, 4, 0)) none))) (cond (Nat.ble pc 142) (cond (Nat.beq pc 142) (some (.aload_n 0, 143, 0, 0)) none) (cond (Nat.ble pc 143) (cond (Nat.beq pc 143) (some (.getfield 27, 146, 0, 0)) none) (cond (Nat.beq pc 146) (some (.iload 4, 148, 4, 0)) none)))) (cond (Nat.ble pc 150) (cond (Nat.ble pc 148) (cond (Nat.beq pc 148) (some (.iload_n 3, 149, 3, 0)) none) (cond (Nat.ble pc 149) (cond (Nat.beq pc 149) (some (.iadd, 150, 0, 0)) none) (cond (Nat.beq pc 150) (some (.baload, 151, 0, 0)) none))) (cond (Nat.ble pc 152) (cond (Nat.ble pc 151) (cond (Nat.beq pc 151) (some (.bastore, 152, 0, 0)) none) (cond (Nat.beq pc 152) (some (.iinc 4 1, 155, 4, nI 1)) none)) (cond (Nat.ble pc 155) (cond (Nat.beq pc 155) (some (.goto (-92), 158, 63, 0)) none) (cond (Nat.beq pc 158) (some (.return_, 159, 0, 0)) none)))))))
set_option maxRecDepth 100000 in
theorem k_M_join : (List.range 159).all (fun pc => match f_M_join pc with | none => true | some q => chk b_M_join 5 pc q) = true := by decide +kernel
abbrev b_M_cut : ByteArray := prog_4_method_8_code
def y_M_cut : MethodName := ⟨"RootedWordsModel", "cut", "(II)V"⟩
def f_M_cut : Nat → Option TE := fun pc => cond (Nat.ble pc 65) (cond (Nat.ble pc 32) (cond (Nat.ble pc 16) (cond (Nat.ble pc 6) (cond (Nat.ble pc 1) (cond (Nat.ble pc 0) (cond (Nat.beq pc 0) (some (.aload_n 0, 1, 0, 0)) none) (cond (Nat.beq pc 1) (some (.getfield 7, 4, 0, 0)) none)) (cond (Nat.ble pc 4) (cond (Nat.beq pc 4) (some (.istore_n 3, 5, 3, 0)) none) (cond (Nat.ble pc 5) (cond (Nat.beq pc 5) (some (.iload_n 3, 6, 3, 0)) none) (cond (Nat.beq pc 6) (some (.iload_n 1, 7, 1, 0)) none)))) (cond (Nat.ble pc 9) (cond (Nat.ble pc 7) (cond (Nat.beq pc 7) (some (.iconst 1, 8, 0, nI 1)) none) (cond (Nat.ble pc 8) (cond (Nat.beq pc 8) (some (.iadd, 9, 0, 0)) none) (cond (Nat.beq pc 9) (some (.if_icmp .le 65, 12, 74, 0)) none))) (cond (Nat.ble pc 12) (cond (Nat.beq pc 12) (some (.aload_n 0, 13, 0, 0)) none) (cond (Nat.ble pc 13) (cond (Nat.beq pc 13) (some (.getfield 13, 16, 0, 0)) none) (cond (Nat.beq pc 16) (some (.iload_n 3, 17, 3, 0)) none))))) (cond (Nat.ble pc 24) (cond (Nat.ble pc 21) (cond (Nat.ble pc 17) (cond (Nat.beq pc 17) (some (.aload_n 0, 18, 0, 0)) none) (cond (Nat.ble pc 18) (cond (Nat.beq pc 18) (some (.getfield 13, 21, 0, 0)) none) (cond (Nat.beq pc 21) (some (.iload_n 3, 22, 3, 0)) none))) (cond (Nat.ble pc 22) (cond (Nat.beq pc 22) (some (.iconst 1, 23, 0, nI 1)) none) (cond (Nat.ble pc 23) (cond (Nat.beq pc 23) (some (.isub, 24, 0, 0)) none) (cond (Nat.beq pc 24) (some (.iaload, 25, 0, 0)) none)))) (cond (Nat.ble pc 27) (cond (Nat.ble pc 25) (cond (Nat.beq pc 25) (some (.iastore, 26, 0, 0)) none) (cond (Nat.ble pc 26) (cond (Nat.beq pc 26) (some (.aload_n 0, 27, 0, 0)) none) (cond (Nat.beq pc 27) (some (.getfield 17, 30, 0, 0)) none))) (cond (Nat.ble pc 30) (cond (Nat.beq pc 30) (some (.iload_n 3, 31, 3, 0)) none) (cond (Nat.ble pc 31) (cond (Nat.beq pc 31) (some (.aload_n 0, 32, 0, 0)) none) (cond (Nat.beq pc 32) (some (.getfield 17, 35, 0, 0)) none)))))) (cond (Nat.ble pc 49) (cond (Nat.ble pc 39) (cond (Nat.ble pc 36) (cond (Nat.ble pc 35) (cond (Nat.beq pc 35) (some (.iload_n 3, 36, 3, 0)) none) (cond (Nat.beq pc 36) (some (.iconst 1, 37, 0, nI 1)) none)) (cond (Nat.ble pc 37) (cond (Nat.beq pc 37) (some (.isub, 38, 0, 0)) none) (cond (Nat.ble pc 38) (cond (Nat.beq pc 38) (some (.iaload, 39, 0, 0)) none) (cond (Nat.beq pc 39) (some (.iastore, 40, 0, 0)) none)))) (cond (Nat.ble pc 44) (cond (Nat.ble pc 40) (cond (Nat.beq pc 40) (some (.aload_n 0, 41, 0, 0)) none) (cond (Nat.ble pc 41) (cond (Nat.beq pc 41) (some (.getfield 20, 44, 0, 0)) none) (cond (Nat.beq pc 44) (some (.iload_n 3, 45, 3, 0)) none))) (cond (Nat.ble pc 45) (cond (Nat.beq pc 45) (some (.aload_n 0, 46, 0, 0)) none) (cond (Nat.ble pc 46) (cond (Nat.beq pc 46) (some (.getfield 20, 49, 0, 0)) none) (cond (Nat.beq pc 49) (some (.iload_n 3, 50, 3, 0)) none))))) (cond (Nat.ble pc 55) (cond (Nat.ble pc 52) (cond (Nat.ble pc 50) (cond (Nat.beq pc 50) (some (.iconst 1, 51, 0, nI 1)) none) (cond (Nat.ble pc 51) (cond (Nat.beq pc 51) (some (.isub, 52, 0, 0)) none) (cond (Nat.beq pc 52) (some (.baload, 53, 0, 0)) none))) (cond (Nat.ble pc 53) (cond (Nat.beq pc 53) (some (.bastore, 54, 0, 0)) none) (cond (Nat.ble pc 54) (cond (Nat.beq pc 54) (some (.aload_n 0, 55, 0, 0)) none) (cond (Nat.beq pc 55) (some (.getfield 24, 58, 0, 0)) none)))) (cond (Nat.ble pc 60) (cond (Nat.ble pc 58) (cond (Nat.beq pc 58) (some (.iload_n 3, 59, 3, 0)) none) (cond (Nat.ble pc 59) (cond (Nat.beq pc 59) (some (.aload_n 0, 60, 0, 0)) none) (cond (Nat.beq pc 60) (some (.getfield 24, 63, 0, 0)) none))) (cond (Nat.ble pc 63) (cond (Nat.beq pc 63) (some (.iload_n 3, 64, 3, 0)) none) (cond (Nat.ble pc 64) (cond (Nat.beq pc 64) (some (.iconst 1, 65, 0, nI 1)) none) (cond (Nat.beq pc 65) (some (.isub, 66, 0, 0)) none))))))) (cond (Nat.ble pc 100) (cond (Nat.ble pc 84) (cond (Nat.ble pc 74) (cond (Nat.ble pc 67) (cond (Nat.ble pc 66) (cond (Nat.beq pc 66) (some (.iaload, 67, 0, 0)) none) (cond (Nat.beq pc 67) (some (.iastore, 68, 0, 0)) none)) (cond (Nat.ble pc 68) (cond (Nat.beq pc 68) (some (.iinc 3 (-1), 71, 3, -1)) none) (cond (Nat.ble pc 71) (cond (Nat.beq pc 71) (some (.goto (-66), 74, 5, 0)) none) (cond (Nat.beq pc 74) (some (.aload_n 0, 75, 0, 0)) none)))) (cond (Nat.ble pc 79) (cond (Nat.ble pc 75) (cond (Nat.beq pc 75) (some (.aload_n 0, 76, 0, 0)) none) (cond (Nat.ble pc 76) (cond (Nat.beq pc 76) (some (.getfield 7, 79, 0, 0)) none) (cond (Nat.beq pc 79) (some (.iconst 1, 80, 0, nI 1)) none))) (cond (Nat.ble pc 80) (cond (Nat.beq pc 80) (some (.iadd, 81, 0, 0)) none) (cond (Nat.ble pc 81) (cond (Nat.beq pc 81) (some (.putfield 7, 84, 0, 0)) none) (cond (Nat.beq pc 84) (some (.aload_n 0, 85, 0, 0)) none))))) (cond (Nat.ble pc 92) (cond (Nat.ble pc 89) (cond (Nat.ble pc 85) (cond (Nat.beq pc 85) (some (.getfield 13, 88, 0, 0)) none) (cond (Nat.ble pc 88) (cond (Nat.beq pc 88) (some (.iload_n 1, 89, 1, 0)) none) (cond (Nat.beq pc 89) (some (.iconst 1, 90, 0, nI 1)) none))) (cond (Nat.ble pc 90) (cond (Nat.beq pc 90) (some (.iadd, 91, 0, 0)) none) (cond (Nat.ble pc 91) (cond (Nat.beq pc 91) (some (.aload_n 0, 92, 0, 0)) none) (cond (Nat.beq pc 92) (some (.getfield 13, 95, 0, 0)) none)))) (cond (Nat.ble pc 97) (cond (Nat.ble pc 95) (cond (Nat.beq pc 95) (some (.iload_n 1, 96, 1, 0)) none) (cond (Nat.ble pc 96) (cond (Nat.beq pc 96) (some (.iaload, 97, 0, 0)) none) (cond (Nat.beq pc 97) (some (.iload_n 2, 98, 2, 0)) none))) (cond (Nat.ble pc 98) (cond (Nat.beq pc 98) (some (.iadd, 99, 0, 0)) none) (cond (Nat.ble pc 99) (cond (Nat.beq pc 99) (some (.iastore, 100, 0, 0)) none) (cond (Nat.beq pc 100) (some (.aload_n 0, 101, 0, 0)) none)))))) (cond (Nat.ble pc 116) (cond (Nat.ble pc 108) (cond (Nat.ble pc 105) (cond (Nat.ble pc 101) (cond (Nat.beq pc 101) (some (.getfield 17, 104, 0, 0)) none) (cond (Nat.ble pc 104) (cond (Nat.beq pc 104) (some (.iload_n 1, 105, 1, 0)) none) (cond (Nat.beq pc 105) (some (.iconst 1, 106, 0, nI 1)) none))) (cond (Nat.ble pc 106) (cond (Nat.beq pc 106) (some (.iadd, 107, 0, 0)) none) (cond (Nat.ble pc 107) (cond (Nat.beq pc 107) (some (.aload_n 0, 108, 0, 0)) none) (cond (Nat.beq pc 108) (some (.getfield 17, 111, 0, 0)) none)))) (cond (Nat.ble pc 113) (cond (Nat.ble pc 111) (cond (Nat.beq pc 111) (some (.iload_n 1, 112, 1, 0)) none) (cond (Nat.ble pc 112) (cond (Nat.beq pc 112) (some (.iaload, 113, 0, 0)) none) (cond (Nat.beq pc 113) (some (.iload_n 2, 114, 2, 0)) none))) (cond (Nat.ble pc 114) (cond (Nat.beq pc 114) (some (.isub, 115, 0, 0)) none) (cond (Nat.ble pc 115) (cond (Nat.beq pc 115) (some (.iastore, 116, 0, 0)) none) (cond (Nat.beq pc 116) (some (.aload_n 0, 117, 0, 0)) none))))) (cond (Nat.ble pc 124) (cond (Nat.ble pc 121) (cond (Nat.ble pc 117) (cond (Nat.beq pc 117) (some (.getfield 20, 120, 0, 0)) none) (cond (Nat.ble pc 120) (cond (Nat.beq pc 120) (some (.iload_n 1, 121, 1, 0)) none) (cond (Nat.beq pc 121) (some (.iconst 1, 122, 0, nI 1)) none))) (cond (Nat.ble pc 122) (cond (Nat.beq pc 122) (some (.iadd, 123, 0, 0)) none) (cond (Nat.ble pc 123) (cond (Nat.beq pc 123) (some (.iconst 0, 124, 0, nI 0)) none) (cond (Nat.beq pc 124) (some (.bastore, 125, 0, 0)) none)))) (cond (Nat.ble pc 129) (cond (Nat.ble pc 125) (cond (Nat.beq pc 125) (some (.aload_n 0, 126, 0, 0)) none) (cond (Nat.ble pc 126) (cond (Nat.beq pc 126) (some (.getfield 17, 129, 0, 0)) none) (cond (Nat.beq pc 129) (some (.iload_n 1, 130, 1, 0)) none))) (cond (Nat.ble pc 130) (cond (Nat.beq pc 130) (some (.iload_n 2, 131, 2, 0)) none) (cond (Nat.ble pc 131) (cond (Nat.beq pc 131) (some (.iastore, 132, 0, 0)) none) (cond (Nat.beq pc 132) (some (.return_, 133, 0, 0)) none)))))))
set_option maxRecDepth 100000 in
theorem k_M_cut : (List.range 133).all (fun pc => match f_M_cut pc with | none => true | some q => chk b_M_cut 4 pc q) = true := by decide +kernel
abbrev b_M_take : ByteArray := prog_4_method_9_code
def y_M_take : MethodName := ⟨"RootedWordsModel", "take", "(II)I"⟩
def f_M_take : Nat → Option TE := fun pc => cond (Nat.ble pc 143) (cond (Nat.ble pc 68) (cond (Nat.ble pc 32) (cond (Nat.ble pc 16) (cond (Nat.ble pc 5) (cond (Nat.ble pc 1) (cond (Nat.ble pc 0) (cond (Nat.beq pc 0) (some (.iload_n 1, 1, 1, 0)) none) (cond (Nat.beq pc 1) (some (.iconst 1, 2, 0, nI 1)) none)) (cond (Nat.ble pc 2) (cond (Nat.beq pc 2) (some (.if_icmp .lt 19, 5, 21, 0)) none) (cond (Nat.beq pc 5) (some (.iload_n 1, 6, 1, 0)) none))) (cond (Nat.ble pc 9) (cond (Nat.ble pc 6) (cond (Nat.beq pc 6) (some (.sipush 254, 9, 0, nI 254)) none) (cond (Nat.beq pc 9) (some (.if_icmp .gt 12, 12, 21, 0)) none)) (cond (Nat.ble pc 12) (cond (Nat.beq pc 12) (some (.iload_n 2, 13, 2, 0)) none) (cond (Nat.ble pc 13) (cond (Nat.beq pc 13) (some (.ifCond .lt 8, 16, 21, 0)) none) (cond (Nat.beq pc 16) (some (.iload_n 2, 17, 2, 0)) none))))) (cond (Nat.ble pc 25) (cond (Nat.ble pc 18) (cond (Nat.ble pc 17) (cond (Nat.beq pc 17) (some (.iload_n 1, 18, 1, 0)) none) (cond (Nat.beq pc 18) (some (.if_icmp .le 7, 21, 25, 0)) none)) (cond (Nat.ble pc 21) (cond (Nat.beq pc 21) (some (.iconst 1, 22, 0, nI 1)) none) (cond (Nat.ble pc 22) (cond (Nat.beq pc 22) (some (.goto 4, 25, 26, 0)) none) (cond (Nat.beq pc 25) (some (.iconst 0, 26, 0, nI 0)) none)))) (cond (Nat.ble pc 27) (cond (Nat.ble pc 26) (cond (Nat.beq pc 26) (some (.istore_n 3, 27, 3, 0)) none) (cond (Nat.beq pc 27) (some (.iconst 0, 28, 0, nI 0)) none)) (cond (Nat.ble pc 28) (cond (Nat.beq pc 28) (some (.istore 4, 30, 4, 0)) none) (cond (Nat.ble pc 30) (cond (Nat.beq pc 30) (some (.iload 4, 32, 4, 0)) none) (cond (Nat.beq pc 32) (some (.aload_n 0, 33, 0, 0)) none)))))) (cond (Nat.ble pc 53) (cond (Nat.ble pc 43) (cond (Nat.ble pc 36) (cond (Nat.ble pc 33) (cond (Nat.beq pc 33) (some (.getfield 7, 36, 0, 0)) none) (cond (Nat.beq pc 36) (some (.if_icmp .ge 35, 39, 71, 0)) none)) (cond (Nat.ble pc 39) (cond (Nat.beq pc 39) (some (.aload_n 0, 40, 0, 0)) none) (cond (Nat.ble pc 40) (cond (Nat.beq pc 40) (some (.getfield 20, 43, 0, 0)) none) (cond (Nat.beq pc 43) (some (.iload 4, 45, 4, 0)) none)))) (cond (Nat.ble pc 46) (cond (Nat.ble pc 45) (cond (Nat.beq pc 45) (some (.baload, 46, 0, 0)) none) (cond (Nat.beq pc 46) (some (.ifCond .ne 16, 49, 62, 0)) none)) (cond (Nat.ble pc 49) (cond (Nat.beq pc 49) (some (.aload_n 0, 50, 0, 0)) none) (cond (Nat.ble pc 50) (cond (Nat.beq pc 50) (some (.getfield 17, 53, 0, 0)) none) (cond (Nat.beq pc 53) (some (.iload 4, 55, 4, 0)) none))))) (cond (Nat.ble pc 59) (cond (Nat.ble pc 56) (cond (Nat.ble pc 55) (cond (Nat.beq pc 55) (some (.iaload, 56, 0, 0)) none) (cond (Nat.beq pc 56) (some (.iload_n 1, 57, 1, 0)) none)) (cond (Nat.ble pc 57) (cond (Nat.beq pc 57) (some (.iconst 2, 58, 0, nI 2)) none) (cond (Nat.ble pc 58) (cond (Nat.beq pc 58) (some (.iadd, 59, 0, 0)) none) (cond (Nat.beq pc 59) (some (.if_icmp .ge 12, 62, 71, 0)) none)))) (cond (Nat.ble pc 64) (cond (Nat.ble pc 62) (cond (Nat.beq pc 62) (some (.iload 4, 64, 4, 0)) none) (cond (Nat.beq pc 64) (some (.iconst 1, 65, 0, nI 1)) none)) (cond (Nat.ble pc 65) (cond (Nat.beq pc 65) (some (.iadd, 66, 0, 0)) none) (cond (Nat.ble pc 66) (cond (Nat.beq pc 66) (some (.istore 4, 68, 4, 0)) none) (cond (Nat.beq pc 68) (some (.goto (-38), 71, 30, 0)) none))))))) (cond (Nat.ble pc 108) (cond (Nat.ble pc 87) (cond (Nat.ble pc 76) (cond (Nat.ble pc 72) (cond (Nat.ble pc 71) (cond (Nat.beq pc 71) (some (.aload_n 0, 72, 0, 0)) none) (cond (Nat.beq pc 72) (some (.aload_n 0, 73, 0, 0)) none)) (cond (Nat.ble pc 73) (cond (Nat.beq pc 73) (some (.getfield 45, 76, 0, 0)) none) (cond (Nat.beq pc 76) (some (.ifCond .eq 7, 79, 83, 0)) none))) (cond (Nat.ble pc 80) (cond (Nat.ble pc 79) (cond (Nat.beq pc 79) (some (.iconst 1, 80, 0, nI 1)) none) (cond (Nat.beq pc 80) (some (.goto 25, 83, 105, 0)) none)) (cond (Nat.ble pc 83) (cond (Nat.beq pc 83) (some (.iload_n 3, 84, 3, 0)) none) (cond (Nat.ble pc 84) (cond (Nat.beq pc 84) (some (.ifCond .eq 7, 87, 91, 0)) none) (cond (Nat.beq pc 87) (some (.iconst 2, 88, 0, nI 2)) none))))) (cond (Nat.ble pc 97) (cond (Nat.ble pc 91) (cond (Nat.ble pc 88) (cond (Nat.beq pc 88) (some (.goto 17, 91, 105, 0)) none) (cond (Nat.beq pc 91) (some (.iload 4, 93, 4, 0)) none)) (cond (Nat.ble pc 93) (cond (Nat.beq pc 93) (some (.aload_n 0, 94, 0, 0)) none) (cond (Nat.ble pc 94) (cond (Nat.beq pc 94) (some (.getfield 7, 97, 0, 0)) none) (cond (Nat.beq pc 97) (some (.if_icmp .ne 7, 100, 104, 0)) none)))) (cond (Nat.ble pc 101) (cond (Nat.ble pc 100) (cond (Nat.beq pc 100) (some (.iconst 3, 101, 0, nI 3)) none) (cond (Nat.beq pc 101) (some (.goto 4, 104, 105, 0)) none)) (cond (Nat.ble pc 104) (cond (Nat.beq pc 104) (some (.iconst 0, 105, 0, nI 0)) none) (cond (Nat.ble pc 105) (cond (Nat.beq pc 105) (some (.putfield 39, 108, 0, 0)) none) (cond (Nat.beq pc 108) (some (.aload_n 0, 109, 0, 0)) none)))))) (cond (Nat.ble pc 125) (cond (Nat.ble pc 117) (cond (Nat.ble pc 112) (cond (Nat.ble pc 109) (cond (Nat.beq pc 109) (some (.getfield 39, 112, 0, 0)) none) (cond (Nat.beq pc 112) (some (.ifCond .le 5, 115, 117, 0)) none)) (cond (Nat.ble pc 115) (cond (Nat.beq pc 115) (some (.iconst 0, 116, 0, nI 0)) none) (cond (Nat.ble pc 116) (cond (Nat.beq pc 116) (some (.ireturn, 117, 0, 0)) none) (cond (Nat.beq pc 117) (some (.aload_n 0, 118, 0, 0)) none)))) (cond (Nat.ble pc 121) (cond (Nat.ble pc 118) (cond (Nat.beq pc 118) (some (.getfield 17, 121, 0, 0)) none) (cond (Nat.beq pc 121) (some (.iload 4, 123, 4, 0)) none)) (cond (Nat.ble pc 123) (cond (Nat.beq pc 123) (some (.iaload, 124, 0, 0)) none) (cond (Nat.ble pc 124) (cond (Nat.beq pc 124) (some (.iload_n 1, 125, 1, 0)) none) (cond (Nat.beq pc 125) (some (.iconst 5, 126, 0, nI 5)) none))))) (cond (Nat.ble pc 134) (cond (Nat.ble pc 127) (cond (Nat.ble pc 126) (cond (Nat.beq pc 126) (some (.iadd, 127, 0, 0)) none) (cond (Nat.beq pc 127) (some (.if_icmp .lt 7, 130, 134, 0)) none)) (cond (Nat.ble pc 130) (cond (Nat.beq pc 130) (some (.iconst 1, 131, 0, nI 1)) none) (cond (Nat.ble pc 131) (cond (Nat.beq pc 131) (some (.goto 4, 134, 135, 0)) none) (cond (Nat.beq pc 134) (some (.iconst 0, 135, 0, nI 0)) none)))) (cond (Nat.ble pc 137) (cond (Nat.ble pc 135) (cond (Nat.beq pc 135) (some (.istore 5, 137, 5, 0)) none) (cond (Nat.beq pc 137) (some (.aload_n 0, 138, 0, 0)) none)) (cond (Nat.ble pc 138) (cond (Nat.beq pc 138) (some (.iload 5, 140, 5, 0)) none) (cond (Nat.ble pc 140) (cond (Nat.beq pc 140) (some (.ifCond .eq 7, 143, 147, 0)) none) (cond (Nat.beq pc 143) (some (.iload_n 1, 144, 1, 0)) none)))))))) (cond (Nat.ble pc 214) (cond (Nat.ble pc 176) (cond (Nat.ble pc 159) (cond (Nat.ble pc 151) (cond (Nat.ble pc 147) (cond (Nat.ble pc 144) (cond (Nat.beq pc 144) (some (.goto 12, 147, 156, 0)) none) (cond (Nat.beq pc 147) (some (.aload_n 0, 148, 0, 0)) none)) (cond (Nat.ble pc 148) (cond (Nat.beq pc 148) (some (.getfield 17, 151, 0, 0)) none) (cond (Nat.beq pc 151) (some (.iload 4, 153, 4, 0)) none))) (cond (Nat.ble pc 154) (cond (Nat.ble pc 153) (cond (Nat.beq pc 153) (some (.iaload, 154, 0, 0)) none) (cond (Nat.beq pc 154) (some (.iconst 2, 155, 0, nI 2)) none)) (cond (Nat.ble pc 155) (cond (Nat.beq pc 155) (some (.isub, 156, 0, 0)) none) (cond (Nat.ble pc 156) (cond (Nat.beq pc 156) (some (.invokevirtual 49, 159, 0, 0)) none) (cond (Nat.beq pc 159) (some (.ifCond .lt 10, 162, 169, 0)) none))))) (cond (Nat.ble pc 168) (cond (Nat.ble pc 163) (cond (Nat.ble pc 162) (cond (Nat.beq pc 162) (some (.aload_n 0, 163, 0, 0)) none) (cond (Nat.beq pc 163) (some (.iconst 1, 164, 0, nI 1)) none)) (cond (Nat.ble pc 164) (cond (Nat.beq pc 164) (some (.putfield 39, 167, 0, 0)) none) (cond (Nat.ble pc 167) (cond (Nat.beq pc 167) (some (.iconst 0, 168, 0, nI 0)) none) (cond (Nat.beq pc 168) (some (.ireturn, 169, 0, 0)) none)))) (cond (Nat.ble pc 170) (cond (Nat.ble pc 169) (cond (Nat.beq pc 169) (some (.aload_n 0, 170, 0, 0)) none) (cond (Nat.beq pc 170) (some (.iload 5, 172, 5, 0)) none)) (cond (Nat.ble pc 172) (cond (Nat.beq pc 172) (some (.ifCond .eq 7, 175, 179, 0)) none) (cond (Nat.ble pc 175) (cond (Nat.beq pc 175) (some (.iconst 4, 176, 0, nI 4)) none) (cond (Nat.beq pc 176) (some (.goto 4, 179, 180, 0)) none)))))) (cond (Nat.ble pc 196) (cond (Nat.ble pc 188) (cond (Nat.ble pc 180) (cond (Nat.ble pc 179) (cond (Nat.beq pc 179) (some (.iconst 2, 180, 0, nI 2)) none) (cond (Nat.beq pc 180) (some (.invokevirtual 59, 183, 0, 0)) none)) (cond (Nat.ble pc 183) (cond (Nat.beq pc 183) (some (.ifCond .eq 80, 186, 263, 0)) none) (cond (Nat.ble pc 186) (cond (Nat.beq pc 186) (some (.iload 5, 188, 5, 0)) none) (cond (Nat.beq pc 188) (some (.ifCond .eq 12, 191, 200, 0)) none)))) (cond (Nat.ble pc 192) (cond (Nat.ble pc 191) (cond (Nat.beq pc 191) (some (.aload_n 0, 192, 0, 0)) none) (cond (Nat.beq pc 192) (some (.iload 4, 194, 4, 0)) none)) (cond (Nat.ble pc 194) (cond (Nat.beq pc 194) (some (.iload_n 1, 195, 1, 0)) none) (cond (Nat.ble pc 195) (cond (Nat.beq pc 195) (some (.iconst 2, 196, 0, nI 2)) none) (cond (Nat.beq pc 196) (some (.iadd, 197, 0, 0)) none))))) (cond (Nat.ble pc 206) (cond (Nat.ble pc 200) (cond (Nat.ble pc 197) (cond (Nat.beq pc 197) (some (.invokevirtual 63, 200, 0, 0)) none) (cond (Nat.beq pc 200) (some (.aload_n 0, 201, 0, 0)) none)) (cond (Nat.ble pc 201) (cond (Nat.beq pc 201) (some (.getfield 20, 204, 0, 0)) none) (cond (Nat.ble pc 204) (cond (Nat.beq pc 204) (some (.iload 4, 206, 4, 0)) none) (cond (Nat.beq pc 206) (some (.iconst 1, 207, 0, nI 1)) none)))) (cond (Nat.ble pc 208) (cond (Nat.ble pc 207) (cond (Nat.beq pc 207) (some (.bastore, 208, 0, 0)) none) (cond (Nat.beq pc 208) (some (.aload_n 0, 209, 0, 0)) none)) (cond (Nat.ble pc 209) (cond (Nat.beq pc 209) (some (.getfield 24, 212, 0, 0)) none) (cond (Nat.ble pc 212) (cond (Nat.beq pc 212) (some (.iload 4, 214, 4, 0)) none) (cond (Nat.beq pc 214) (some (.iload_n 2, 215, 2, 0)) none))))))) (cond (Nat.ble pc 245) (cond (Nat.ble pc 229) (cond (Nat.ble pc 222) (cond (Nat.ble pc 216) (cond (Nat.ble pc 215) (cond (Nat.beq pc 215) (some (.iastore, 216, 0, 0)) none) (cond (Nat.beq pc 216) (some (.aload_n 0, 217, 0, 0)) none)) (cond (Nat.ble pc 217) (cond (Nat.beq pc 217) (some (.getfield 13, 220, 0, 0)) none) (cond (Nat.ble pc 220) (cond (Nat.beq pc 220) (some (.iload 4, 222, 4, 0)) none) (cond (Nat.beq pc 222) (some (.iaload, 223, 0, 0)) none)))) (cond (Nat.ble pc 224) (cond (Nat.ble pc 223) (cond (Nat.beq pc 223) (some (.iconst 1, 224, 0, nI 1)) none) (cond (Nat.beq pc 224) (some (.iadd, 225, 0, 0)) none)) (cond (Nat.ble pc 225) (cond (Nat.beq pc 225) (some (.istore 6, 227, 6, 0)) none) (cond (Nat.ble pc 227) (cond (Nat.beq pc 227) (some (.iload 6, 229, 6, 0)) none) (cond (Nat.beq pc 229) (some (.aload_n 0, 230, 0, 0)) none))))) (cond (Nat.ble pc 237) (cond (Nat.ble pc 233) (cond (Nat.ble pc 230) (cond (Nat.beq pc 230) (some (.getfield 13, 233, 0, 0)) none) (cond (Nat.beq pc 233) (some (.iload 4, 235, 4, 0)) none)) (cond (Nat.ble pc 235) (cond (Nat.beq pc 235) (some (.iaload, 236, 0, 0)) none) (cond (Nat.ble pc 236) (cond (Nat.beq pc 236) (some (.aload_n 0, 237, 0, 0)) none) (cond (Nat.beq pc 237) (some (.getfield 17, 240, 0, 0)) none)))) (cond (Nat.ble pc 242) (cond (Nat.ble pc 240) (cond (Nat.beq pc 240) (some (.iload 4, 242, 4, 0)) none) (cond (Nat.beq pc 242) (some (.iaload, 243, 0, 0)) none)) (cond (Nat.ble pc 243) (cond (Nat.beq pc 243) (some (.iadd, 244, 0, 0)) none) (cond (Nat.ble pc 244) (cond (Nat.beq pc 244) (some (.iconst 1, 245, 0, nI 1)) none) (cond (Nat.beq pc 245) (some (.isub, 246, 0, 0)) none)))))) (cond (Nat.ble pc 264) (cond (Nat.ble pc 255) (cond (Nat.ble pc 249) (cond (Nat.ble pc 246) (cond (Nat.beq pc 246) (some (.if_icmp .ge 17, 249, 263, 0)) none) (cond (Nat.beq pc 249) (some (.aload_n 0, 250, 0, 0)) none)) (cond (Nat.ble pc 250) (cond (Nat.beq pc 250) (some (.getfield 30, 253, 0, 0)) none) (cond (Nat.ble pc 253) (cond (Nat.beq pc 253) (some (.iload 6, 255, 6, 0)) none) (cond (Nat.beq pc 255) (some (.iconst 0, 256, 0, nI 0)) none)))) (cond (Nat.ble pc 257) (cond (Nat.ble pc 256) (cond (Nat.beq pc 256) (some (.iastore, 257, 0, 0)) none) (cond (Nat.beq pc 257) (some (.iinc 6 1, 260, 6, nI 1)) none)) (cond (Nat.ble pc 260) (cond (Nat.beq pc 260) (some (.goto (-33), 263, 227, 0)) none) (cond (Nat.ble pc 263) (cond (Nat.beq pc 263) (some (.aload_n 0, 264, 0, 0)) none) (cond (Nat.beq pc 264) (some (.getfield 39, 267, 0, 0)) none))))) (cond (Nat.ble pc 275) (cond (Nat.ble pc 270) (cond (Nat.ble pc 267) (cond (Nat.beq pc 267) (some (.ifCond .le 7, 270, 274, 0)) none) (cond (Nat.beq pc 270) (some (.iconst 0, 271, 0, nI 0)) none)) (cond (Nat.ble pc 271) (cond (Nat.beq pc 271) (some (.goto 12, 274, 283, 0)) none) (cond (Nat.ble pc 274) (cond (Nat.beq pc 274) (some (.aload_n 0, 275, 0, 0)) none) (cond (Nat.beq pc 275) (some (.getfield 13, 278, 0, 0)) none)))) (cond (Nat.ble pc 280) (cond (Nat.ble pc 278) (cond (Nat.beq pc 278) (some (.iload 4, 280, 4, 0)) none) (cond (Nat.beq pc 280) (some (.iaload, 281, 0, 0)) none)) (cond (Nat.ble pc 281) (cond (Nat.beq pc 281) (some (.iconst 1, 282, 0, nI 1)) none) (cond (Nat.ble pc 282) (cond (Nat.beq pc 282) (some (.iadd, 283, 0, 0)) none) (cond (Nat.beq pc 283) (some (.ireturn, 284, 0, 0)) none))))))))
set_option maxRecDepth 100000 in
theorem k_M_take : (List.range 284).all (fun pc => match f_M_take pc with | none => true | some q => chk b_M_take 7 pc q) = true := by decide +kernel
abbrev b_M_give : ByteArray := prog_4_method_10_code
def y_M_give : MethodName := ⟨"RootedWordsModel", "give", "(I)I"⟩
def f_M_give : Nat → Option TE := fun pc => cond (Nat.ble pc 63) (cond (Nat.ble pc 34) (cond (Nat.ble pc 14) (cond (Nat.ble pc 5) (cond (Nat.ble pc 1) (cond (Nat.ble pc 0) (cond (Nat.beq pc 0) (some (.aload_n 0, 1, 0, 0)) none) (cond (Nat.beq pc 1) (some (.iload_n 1, 2, 1, 0)) none)) (cond (Nat.ble pc 2) (cond (Nat.beq pc 2) (some (.invokevirtual 67, 5, 0, 0)) none) (cond (Nat.beq pc 5) (some (.istore_n 2, 6, 2, 0)) none))) (cond (Nat.ble pc 7) (cond (Nat.ble pc 6) (cond (Nat.beq pc 6) (some (.aload_n 0, 7, 0, 0)) none) (cond (Nat.beq pc 7) (some (.aload_n 0, 8, 0, 0)) none)) (cond (Nat.ble pc 8) (cond (Nat.beq pc 8) (some (.getfield 45, 11, 0, 0)) none) (cond (Nat.ble pc 11) (cond (Nat.beq pc 11) (some (.ifCond .eq 7, 14, 18, 0)) none) (cond (Nat.beq pc 14) (some (.iconst 1, 15, 0, nI 1)) none))))) (cond (Nat.ble pc 23) (cond (Nat.ble pc 18) (cond (Nat.ble pc 15) (cond (Nat.beq pc 15) (some (.goto 12, 18, 27, 0)) none) (cond (Nat.beq pc 18) (some (.iload_n 2, 19, 2, 0)) none)) (cond (Nat.ble pc 19) (cond (Nat.beq pc 19) (some (.ifCond .ge 7, 22, 26, 0)) none) (cond (Nat.ble pc 22) (cond (Nat.beq pc 22) (some (.iconst 2, 23, 0, nI 2)) none) (cond (Nat.beq pc 23) (some (.goto 4, 26, 27, 0)) none)))) (cond (Nat.ble pc 27) (cond (Nat.ble pc 26) (cond (Nat.beq pc 26) (some (.iconst 0, 27, 0, nI 0)) none) (cond (Nat.beq pc 27) (some (.putfield 39, 30, 0, 0)) none)) (cond (Nat.ble pc 30) (cond (Nat.beq pc 30) (some (.aload_n 0, 31, 0, 0)) none) (cond (Nat.ble pc 31) (cond (Nat.beq pc 31) (some (.getfield 39, 34, 0, 0)) none) (cond (Nat.beq pc 34) (some (.ifCond .le 5, 37, 39, 0)) none)))))) (cond (Nat.ble pc 49) (cond (Nat.ble pc 40) (cond (Nat.ble pc 38) (cond (Nat.ble pc 37) (cond (Nat.beq pc 37) (some (.iconst 0, 38, 0, nI 0)) none) (cond (Nat.beq pc 38) (some (.ireturn, 39, 0, 0)) none)) (cond (Nat.ble pc 39) (cond (Nat.beq pc 39) (some (.iload_n 2, 40, 2, 0)) none) (cond (Nat.beq pc 40) (some (.ifCond .le 20, 43, 60, 0)) none))) (cond (Nat.ble pc 44) (cond (Nat.ble pc 43) (cond (Nat.beq pc 43) (some (.aload_n 0, 44, 0, 0)) none) (cond (Nat.beq pc 44) (some (.getfield 20, 47, 0, 0)) none)) (cond (Nat.ble pc 47) (cond (Nat.beq pc 47) (some (.iload_n 2, 48, 2, 0)) none) (cond (Nat.ble pc 48) (cond (Nat.beq pc 48) (some (.iconst 1, 49, 0, nI 1)) none) (cond (Nat.beq pc 49) (some (.isub, 50, 0, 0)) none))))) (cond (Nat.ble pc 56) (cond (Nat.ble pc 51) (cond (Nat.ble pc 50) (cond (Nat.beq pc 50) (some (.baload, 51, 0, 0)) none) (cond (Nat.beq pc 51) (some (.ifCond .ne 9, 54, 60, 0)) none)) (cond (Nat.ble pc 54) (cond (Nat.beq pc 54) (some (.iload_n 2, 55, 2, 0)) none) (cond (Nat.ble pc 55) (cond (Nat.beq pc 55) (some (.iconst 1, 56, 0, nI 1)) none) (cond (Nat.beq pc 56) (some (.isub, 57, 0, 0)) none)))) (cond (Nat.ble pc 60) (cond (Nat.ble pc 57) (cond (Nat.beq pc 57) (some (.goto 4, 60, 61, 0)) none) (cond (Nat.beq pc 60) (some (.iload_n 2, 61, 2, 0)) none)) (cond (Nat.ble pc 61) (cond (Nat.beq pc 61) (some (.istore_n 3, 62, 3, 0)) none) (cond (Nat.ble pc 62) (cond (Nat.beq pc 62) (some (.iload_n 2, 63, 2, 0)) none) (cond (Nat.beq pc 63) (some (.iconst 1, 64, 0, nI 1)) none))))))) (cond (Nat.ble pc 93) (cond (Nat.ble pc 78) (cond (Nat.ble pc 69) (cond (Nat.ble pc 65) (cond (Nat.ble pc 64) (cond (Nat.beq pc 64) (some (.iadd, 65, 0, 0)) none) (cond (Nat.beq pc 65) (some (.aload_n 0, 66, 0, 0)) none)) (cond (Nat.ble pc 66) (cond (Nat.beq pc 66) (some (.getfield 7, 69, 0, 0)) none) (cond (Nat.beq pc 69) (some (.if_icmp .ge 20, 72, 89, 0)) none))) (cond (Nat.ble pc 73) (cond (Nat.ble pc 72) (cond (Nat.beq pc 72) (some (.aload_n 0, 73, 0, 0)) none) (cond (Nat.beq pc 73) (some (.getfield 20, 76, 0, 0)) none)) (cond (Nat.ble pc 76) (cond (Nat.beq pc 76) (some (.iload_n 2, 77, 2, 0)) none) (cond (Nat.ble pc 77) (cond (Nat.beq pc 77) (some (.iconst 1, 78, 0, nI 1)) none) (cond (Nat.beq pc 78) (some (.iadd, 79, 0, 0)) none))))) (cond (Nat.ble pc 85) (cond (Nat.ble pc 80) (cond (Nat.ble pc 79) (cond (Nat.beq pc 79) (some (.baload, 80, 0, 0)) none) (cond (Nat.beq pc 80) (some (.ifCond .ne 9, 83, 89, 0)) none)) (cond (Nat.ble pc 83) (cond (Nat.beq pc 83) (some (.iload_n 2, 84, 2, 0)) none) (cond (Nat.ble pc 84) (cond (Nat.beq pc 84) (some (.iconst 1, 85, 0, nI 1)) none) (cond (Nat.beq pc 85) (some (.iadd, 86, 0, 0)) none)))) (cond (Nat.ble pc 89) (cond (Nat.ble pc 86) (cond (Nat.beq pc 86) (some (.goto 4, 89, 90, 0)) none) (cond (Nat.beq pc 89) (some (.iload_n 2, 90, 2, 0)) none)) (cond (Nat.ble pc 90) (cond (Nat.beq pc 90) (some (.istore 4, 92, 4, 0)) none) (cond (Nat.ble pc 92) (cond (Nat.beq pc 92) (some (.aload_n 0, 93, 0, 0)) none) (cond (Nat.beq pc 93) (some (.getfield 13, 96, 0, 0)) none)))))) (cond (Nat.ble pc 110) (cond (Nat.ble pc 100) (cond (Nat.ble pc 97) (cond (Nat.ble pc 96) (cond (Nat.beq pc 96) (some (.iload_n 3, 97, 3, 0)) none) (cond (Nat.beq pc 97) (some (.iaload, 98, 0, 0)) none)) (cond (Nat.ble pc 98) (cond (Nat.beq pc 98) (some (.iconst 1, 99, 0, nI 1)) none) (cond (Nat.ble pc 99) (cond (Nat.beq pc 99) (some (.iadd, 100, 0, 0)) none) (cond (Nat.beq pc 100) (some (.istore 5, 102, 5, 0)) none)))) (cond (Nat.ble pc 103) (cond (Nat.ble pc 102) (cond (Nat.beq pc 102) (some (.aload_n 0, 103, 0, 0)) none) (cond (Nat.beq pc 103) (some (.iconst 2, 104, 0, nI 2)) none)) (cond (Nat.ble pc 104) (cond (Nat.beq pc 104) (some (.invokevirtual 59, 107, 0, 0)) none) (cond (Nat.ble pc 107) (cond (Nat.beq pc 107) (some (.ifCond .eq 10, 110, 117, 0)) none) (cond (Nat.beq pc 110) (some (.aload_n 0, 111, 0, 0)) none))))) (cond (Nat.ble pc 118) (cond (Nat.ble pc 112) (cond (Nat.ble pc 111) (cond (Nat.beq pc 111) (some (.iload_n 3, 112, 3, 0)) none) (cond (Nat.beq pc 112) (some (.iload 4, 114, 4, 0)) none)) (cond (Nat.ble pc 114) (cond (Nat.beq pc 114) (some (.invokevirtual 70, 117, 0, 0)) none) (cond (Nat.ble pc 117) (cond (Nat.beq pc 117) (some (.aload_n 0, 118, 0, 0)) none) (cond (Nat.beq pc 118) (some (.getfield 39, 121, 0, 0)) none)))) (cond (Nat.ble pc 124) (cond (Nat.ble pc 121) (cond (Nat.beq pc 121) (some (.ifCond .le 7, 124, 128, 0)) none) (cond (Nat.beq pc 124) (some (.iconst 0, 125, 0, nI 0)) none)) (cond (Nat.ble pc 125) (cond (Nat.beq pc 125) (some (.goto 5, 128, 130, 0)) none) (cond (Nat.ble pc 128) (cond (Nat.beq pc 128) (some (.iload 5, 130, 5, 0)) none) (cond (Nat.beq pc 130) (some (.ireturn, 131, 0, 0)) none)))))))
set_option maxRecDepth 100000 in
theorem k_M_give : (List.range 131).all (fun pc => match f_M_give pc with | none => true | some q => chk b_M_give 6 pc q) = true := by decide +kernel
abbrev b_M_isWord : ByteArray := prog_4_method_11_code
def y_M_isWord : MethodName := ⟨"RootedWordsModel", "isWord", "(II)Z"⟩
def f_M_isWord : Nat → Option TE := fun pc => cond (Nat.ble pc 10) (cond (Nat.ble pc 4) (cond (Nat.ble pc 0) (cond (Nat.beq pc 0) (some (.iload_n 2, 1, 2, 0)) none) (cond (Nat.ble pc 1) (cond (Nat.beq pc 1) (some (.ifCond .lt 19, 4, 20, 0)) none) (cond (Nat.beq pc 4) (some (.iload_n 2, 5, 2, 0)) none))) (cond (Nat.ble pc 6) (cond (Nat.ble pc 5) (cond (Nat.beq pc 5) (some (.aload_n 0, 6, 0, 0)) none) (cond (Nat.beq pc 6) (some (.getfield 17, 9, 0, 0)) none)) (cond (Nat.ble pc 9) (cond (Nat.beq pc 9) (some (.iload_n 1, 10, 1, 0)) none) (cond (Nat.beq pc 10) (some (.iaload, 11, 0, 0)) none)))) (cond (Nat.ble pc 13) (cond (Nat.ble pc 11) (cond (Nat.beq pc 11) (some (.iconst 2, 12, 0, nI 2)) none) (cond (Nat.ble pc 12) (cond (Nat.beq pc 12) (some (.isub, 13, 0, 0)) none) (cond (Nat.beq pc 13) (some (.if_icmp .ge 7, 16, 20, 0)) none))) (cond (Nat.ble pc 17) (cond (Nat.ble pc 16) (cond (Nat.beq pc 16) (some (.iconst 1, 17, 0, nI 1)) none) (cond (Nat.beq pc 17) (some (.goto 4, 20, 21, 0)) none)) (cond (Nat.ble pc 20) (cond (Nat.beq pc 20) (some (.iconst 0, 21, 0, nI 0)) none) (cond (Nat.beq pc 21) (some (.ireturn, 22, 0, 0)) none))))
set_option maxRecDepth 100000 in
theorem k_M_isWord : (List.range 22).all (fun pc => match f_M_isWord pc with | none => true | some q => chk b_M_isWord 3 pc q) = true := by decide +kernel
abbrev b_M_store : ByteArray := prog_4_method_12_code
def y_M_store : MethodName := ⟨"RootedWordsModel", "store", "(III)I"⟩
def f_M_store : Nat → Option TE := fun pc => cond (Nat.ble pc 62) (cond (Nat.ble pc 29) (cond (Nat.ble pc 12) (cond (Nat.ble pc 5) (cond (Nat.ble pc 1) (cond (Nat.ble pc 0) (cond (Nat.beq pc 0) (some (.aload_n 0, 1, 0, 0)) none) (cond (Nat.beq pc 1) (some (.iload_n 1, 2, 1, 0)) none)) (cond (Nat.ble pc 2) (cond (Nat.beq pc 2) (some (.invokevirtual 67, 5, 0, 0)) none) (cond (Nat.beq pc 5) (some (.istore 4, 7, 4, 0)) none))) (cond (Nat.ble pc 8) (cond (Nat.ble pc 7) (cond (Nat.beq pc 7) (some (.aload_n 0, 8, 0, 0)) none) (cond (Nat.beq pc 8) (some (.aload_n 0, 9, 0, 0)) none)) (cond (Nat.ble pc 9) (cond (Nat.beq pc 9) (some (.getfield 45, 12, 0, 0)) none) (cond (Nat.beq pc 12) (some (.ifCond .eq 7, 15, 19, 0)) none)))) (cond (Nat.ble pc 21) (cond (Nat.ble pc 16) (cond (Nat.ble pc 15) (cond (Nat.beq pc 15) (some (.iconst 1, 16, 0, nI 1)) none) (cond (Nat.beq pc 16) (some (.goto 54, 19, 70, 0)) none)) (cond (Nat.ble pc 19) (cond (Nat.beq pc 19) (some (.iload 4, 21, 4, 0)) none) (cond (Nat.beq pc 21) (some (.ifCond .ge 7, 24, 28, 0)) none))) (cond (Nat.ble pc 25) (cond (Nat.ble pc 24) (cond (Nat.beq pc 24) (some (.iconst 2, 25, 0, nI 2)) none) (cond (Nat.beq pc 25) (some (.goto 45, 28, 70, 0)) none)) (cond (Nat.ble pc 28) (cond (Nat.beq pc 28) (some (.aload_n 0, 29, 0, 0)) none) (cond (Nat.beq pc 29) (some (.iload 4, 31, 4, 0)) none))))) (cond (Nat.ble pc 44) (cond (Nat.ble pc 38) (cond (Nat.ble pc 32) (cond (Nat.ble pc 31) (cond (Nat.beq pc 31) (some (.iload_n 2, 32, 2, 0)) none) (cond (Nat.beq pc 32) (some (.invokevirtual 73, 35, 0, 0)) none)) (cond (Nat.ble pc 35) (cond (Nat.beq pc 35) (some (.ifCond .ne 7, 38, 42, 0)) none) (cond (Nat.beq pc 38) (some (.iconst 3, 39, 0, nI 3)) none))) (cond (Nat.ble pc 42) (cond (Nat.ble pc 39) (cond (Nat.beq pc 39) (some (.goto 31, 42, 70, 0)) none) (cond (Nat.beq pc 42) (some (.iload_n 2, 43, 2, 0)) none)) (cond (Nat.ble pc 43) (cond (Nat.beq pc 43) (some (.aload_n 0, 44, 0, 0)) none) (cond (Nat.beq pc 44) (some (.getfield 24, 47, 0, 0)) none)))) (cond (Nat.ble pc 53) (cond (Nat.ble pc 49) (cond (Nat.ble pc 47) (cond (Nat.beq pc 47) (some (.iload 4, 49, 4, 0)) none) (cond (Nat.beq pc 49) (some (.iaload, 50, 0, 0)) none)) (cond (Nat.ble pc 50) (cond (Nat.beq pc 50) (some (.if_icmp .ge 19, 53, 69, 0)) none) (cond (Nat.beq pc 53) (some (.iload_n 3, 54, 3, 0)) none))) (cond (Nat.ble pc 57) (cond (Nat.ble pc 54) (cond (Nat.beq pc 54) (some (.ifCond .eq 15, 57, 69, 0)) none) (cond (Nat.beq pc 57) (some (.aload_n 0, 58, 0, 0)) none)) (cond (Nat.ble pc 58) (cond (Nat.beq pc 58) (some (.iload_n 3, 59, 3, 0)) none) (cond (Nat.ble pc 59) (cond (Nat.beq pc 59) (some (.invokevirtual 67, 62, 0, 0)) none) (cond (Nat.beq pc 62) (some (.ifCond .ge 7, 65, 69, 0)) none))))))) (cond (Nat.ble pc 92) (cond (Nat.ble pc 80) (cond (Nat.ble pc 70) (cond (Nat.ble pc 66) (cond (Nat.ble pc 65) (cond (Nat.beq pc 65) (some (.iconst 4, 66, 0, nI 4)) none) (cond (Nat.beq pc 66) (some (.goto 4, 69, 70, 0)) none)) (cond (Nat.ble pc 69) (cond (Nat.beq pc 69) (some (.iconst 0, 70, 0, nI 0)) none) (cond (Nat.beq pc 70) (some (.putfield 39, 73, 0, 0)) none))) (cond (Nat.ble pc 74) (cond (Nat.ble pc 73) (cond (Nat.beq pc 73) (some (.aload_n 0, 74, 0, 0)) none) (cond (Nat.beq pc 74) (some (.getfield 39, 77, 0, 0)) none)) (cond (Nat.ble pc 77) (cond (Nat.beq pc 77) (some (.ifCond .le 5, 80, 82, 0)) none) (cond (Nat.beq pc 80) (some (.iconst 0, 81, 0, nI 0)) none)))) (cond (Nat.ble pc 86) (cond (Nat.ble pc 82) (cond (Nat.ble pc 81) (cond (Nat.beq pc 81) (some (.ireturn, 82, 0, 0)) none) (cond (Nat.beq pc 82) (some (.aload_n 0, 83, 0, 0)) none)) (cond (Nat.ble pc 83) (cond (Nat.beq pc 83) (some (.getfield 30, 86, 0, 0)) none) (cond (Nat.beq pc 86) (some (.iload_n 1, 87, 1, 0)) none))) (cond (Nat.ble pc 88) (cond (Nat.ble pc 87) (cond (Nat.beq pc 87) (some (.iload_n 2, 88, 2, 0)) none) (cond (Nat.beq pc 88) (some (.iadd, 89, 0, 0)) none)) (cond (Nat.ble pc 89) (cond (Nat.beq pc 89) (some (.iaload, 90, 0, 0)) none) (cond (Nat.ble pc 90) (cond (Nat.beq pc 90) (some (.istore 5, 92, 5, 0)) none) (cond (Nat.beq pc 92) (some (.aload_n 0, 93, 0, 0)) none)))))) (cond (Nat.ble pc 106) (cond (Nat.ble pc 100) (cond (Nat.ble pc 94) (cond (Nat.ble pc 93) (cond (Nat.beq pc 93) (some (.iconst 1, 94, 0, nI 1)) none) (cond (Nat.beq pc 94) (some (.invokevirtual 59, 97, 0, 0)) none)) (cond (Nat.ble pc 97) (cond (Nat.beq pc 97) (some (.ifCond .eq 12, 100, 109, 0)) none) (cond (Nat.beq pc 100) (some (.aload_n 0, 101, 0, 0)) none))) (cond (Nat.ble pc 104) (cond (Nat.ble pc 101) (cond (Nat.beq pc 101) (some (.getfield 30, 104, 0, 0)) none) (cond (Nat.beq pc 104) (some (.iload_n 1, 105, 1, 0)) none)) (cond (Nat.ble pc 105) (cond (Nat.beq pc 105) (some (.iload_n 2, 106, 2, 0)) none) (cond (Nat.beq pc 106) (some (.iadd, 107, 0, 0)) none)))) (cond (Nat.ble pc 110) (cond (Nat.ble pc 108) (cond (Nat.ble pc 107) (cond (Nat.beq pc 107) (some (.iload_n 3, 108, 3, 0)) none) (cond (Nat.beq pc 108) (some (.iastore, 109, 0, 0)) none)) (cond (Nat.ble pc 109) (cond (Nat.beq pc 109) (some (.aload_n 0, 110, 0, 0)) none) (cond (Nat.beq pc 110) (some (.getfield 39, 113, 0, 0)) none))) (cond (Nat.ble pc 116) (cond (Nat.ble pc 113) (cond (Nat.beq pc 113) (some (.ifCond .le 7, 116, 120, 0)) none) (cond (Nat.beq pc 116) (some (.iconst 0, 117, 0, nI 0)) none)) (cond (Nat.ble pc 117) (cond (Nat.beq pc 117) (some (.goto 5, 120, 122, 0)) none) (cond (Nat.ble pc 120) (cond (Nat.beq pc 120) (some (.iload 5, 122, 5, 0)) none) (cond (Nat.beq pc 122) (some (.ireturn, 123, 0, 0)) none)))))))
set_option maxRecDepth 100000 in
theorem k_M_store : (List.range 123).all (fun pc => match f_M_store pc with | none => true | some q => chk b_M_store 6 pc q) = true := by decide +kernel
abbrev b_M_load : ByteArray := prog_4_method_13_code
def y_M_load : MethodName := ⟨"RootedWordsModel", "load", "(II)I"⟩
def f_M_load : Nat → Option TE := fun pc => cond (Nat.ble pc 28) (cond (Nat.ble pc 11) (cond (Nat.ble pc 5) (cond (Nat.ble pc 1) (cond (Nat.ble pc 0) (cond (Nat.beq pc 0) (some (.aload_n 0, 1, 0, 0)) none) (cond (Nat.beq pc 1) (some (.iload_n 1, 2, 1, 0)) none)) (cond (Nat.ble pc 2) (cond (Nat.beq pc 2) (some (.invokevirtual 67, 5, 0, 0)) none) (cond (Nat.beq pc 5) (some (.istore_n 3, 6, 3, 0)) none))) (cond (Nat.ble pc 7) (cond (Nat.ble pc 6) (cond (Nat.beq pc 6) (some (.aload_n 0, 7, 0, 0)) none) (cond (Nat.beq pc 7) (some (.aload_n 0, 8, 0, 0)) none)) (cond (Nat.ble pc 8) (cond (Nat.beq pc 8) (some (.getfield 45, 11, 0, 0)) none) (cond (Nat.beq pc 11) (some (.ifCond .eq 7, 14, 18, 0)) none)))) (cond (Nat.ble pc 19) (cond (Nat.ble pc 15) (cond (Nat.ble pc 14) (cond (Nat.beq pc 14) (some (.iconst 1, 15, 0, nI 1)) none) (cond (Nat.beq pc 15) (some (.goto 25, 18, 40, 0)) none)) (cond (Nat.ble pc 18) (cond (Nat.beq pc 18) (some (.iload_n 3, 19, 3, 0)) none) (cond (Nat.beq pc 19) (some (.ifCond .ge 7, 22, 26, 0)) none))) (cond (Nat.ble pc 23) (cond (Nat.ble pc 22) (cond (Nat.beq pc 22) (some (.iconst 2, 23, 0, nI 2)) none) (cond (Nat.beq pc 23) (some (.goto 17, 26, 40, 0)) none)) (cond (Nat.ble pc 26) (cond (Nat.beq pc 26) (some (.aload_n 0, 27, 0, 0)) none) (cond (Nat.ble pc 27) (cond (Nat.beq pc 27) (some (.iload_n 3, 28, 3, 0)) none) (cond (Nat.beq pc 28) (some (.iload_n 2, 29, 2, 0)) none)))))) (cond (Nat.ble pc 47) (cond (Nat.ble pc 36) (cond (Nat.ble pc 32) (cond (Nat.ble pc 29) (cond (Nat.beq pc 29) (some (.invokevirtual 73, 32, 0, 0)) none) (cond (Nat.beq pc 32) (some (.ifCond .eq 7, 35, 39, 0)) none)) (cond (Nat.ble pc 35) (cond (Nat.beq pc 35) (some (.iconst 0, 36, 0, nI 0)) none) (cond (Nat.beq pc 36) (some (.goto 4, 39, 40, 0)) none))) (cond (Nat.ble pc 40) (cond (Nat.ble pc 39) (cond (Nat.beq pc 39) (some (.iconst 3, 40, 0, nI 3)) none) (cond (Nat.beq pc 40) (some (.putfield 39, 43, 0, 0)) none)) (cond (Nat.ble pc 43) (cond (Nat.beq pc 43) (some (.aload_n 0, 44, 0, 0)) none) (cond (Nat.ble pc 44) (cond (Nat.beq pc 44) (some (.getfield 39, 47, 0, 0)) none) (cond (Nat.beq pc 47) (some (.ifCond .le 7, 50, 54, 0)) none))))) (cond (Nat.ble pc 55) (cond (Nat.ble pc 51) (cond (Nat.ble pc 50) (cond (Nat.beq pc 50) (some (.iconst 0, 51, 0, nI 0)) none) (cond (Nat.beq pc 51) (some (.goto 11, 54, 62, 0)) none)) (cond (Nat.ble pc 54) (cond (Nat.beq pc 54) (some (.aload_n 0, 55, 0, 0)) none) (cond (Nat.beq pc 55) (some (.getfield 30, 58, 0, 0)) none))) (cond (Nat.ble pc 59) (cond (Nat.ble pc 58) (cond (Nat.beq pc 58) (some (.iload_n 1, 59, 1, 0)) none) (cond (Nat.beq pc 59) (some (.iload_n 2, 60, 2, 0)) none)) (cond (Nat.ble pc 60) (cond (Nat.beq pc 60) (some (.iadd, 61, 0, 0)) none) (cond (Nat.ble pc 61) (cond (Nat.beq pc 61) (some (.iaload, 62, 0, 0)) none) (cond (Nat.beq pc 62) (some (.ireturn, 63, 0, 0)) none))))))
set_option maxRecDepth 100000 in
theorem k_M_load : (List.range 63).all (fun pc => match f_M_load pc with | none => true | some q => chk b_M_load 4 pc q) = true := by decide +kernel
abbrev b_M_size : ByteArray := prog_4_method_14_code
def y_M_size : MethodName := ⟨"RootedWordsModel", "size", "(II)I"⟩
def f_M_size : Nat → Option TE := fun pc => cond (Nat.ble pc 30) (cond (Nat.ble pc 11) (cond (Nat.ble pc 5) (cond (Nat.ble pc 1) (cond (Nat.ble pc 0) (cond (Nat.beq pc 0) (some (.aload_n 0, 1, 0, 0)) none) (cond (Nat.beq pc 1) (some (.iload_n 1, 2, 1, 0)) none)) (cond (Nat.ble pc 2) (cond (Nat.beq pc 2) (some (.invokevirtual 67, 5, 0, 0)) none) (cond (Nat.beq pc 5) (some (.istore_n 3, 6, 3, 0)) none))) (cond (Nat.ble pc 7) (cond (Nat.ble pc 6) (cond (Nat.beq pc 6) (some (.aload_n 0, 7, 0, 0)) none) (cond (Nat.beq pc 7) (some (.aload_n 0, 8, 0, 0)) none)) (cond (Nat.ble pc 8) (cond (Nat.beq pc 8) (some (.getfield 45, 11, 0, 0)) none) (cond (Nat.beq pc 11) (some (.ifCond .eq 7, 14, 18, 0)) none)))) (cond (Nat.ble pc 19) (cond (Nat.ble pc 15) (cond (Nat.ble pc 14) (cond (Nat.beq pc 14) (some (.iconst 1, 15, 0, nI 1)) none) (cond (Nat.beq pc 15) (some (.goto 12, 18, 27, 0)) none)) (cond (Nat.ble pc 18) (cond (Nat.beq pc 18) (some (.iload_n 3, 19, 3, 0)) none) (cond (Nat.beq pc 19) (some (.ifCond .ge 7, 22, 26, 0)) none))) (cond (Nat.ble pc 23) (cond (Nat.ble pc 22) (cond (Nat.beq pc 22) (some (.iconst 2, 23, 0, nI 2)) none) (cond (Nat.beq pc 23) (some (.goto 4, 26, 27, 0)) none)) (cond (Nat.ble pc 26) (cond (Nat.beq pc 26) (some (.iconst 0, 27, 0, nI 0)) none) (cond (Nat.ble pc 27) (cond (Nat.beq pc 27) (some (.putfield 39, 30, 0, 0)) none) (cond (Nat.beq pc 30) (some (.aload_n 0, 31, 0, 0)) none)))))) (cond (Nat.ble pc 49) (cond (Nat.ble pc 38) (cond (Nat.ble pc 34) (cond (Nat.ble pc 31) (cond (Nat.beq pc 31) (some (.getfield 39, 34, 0, 0)) none) (cond (Nat.beq pc 34) (some (.ifCond .le 7, 37, 41, 0)) none)) (cond (Nat.ble pc 37) (cond (Nat.beq pc 37) (some (.iconst 0, 38, 0, nI 0)) none) (cond (Nat.beq pc 38) (some (.goto 24, 41, 62, 0)) none))) (cond (Nat.ble pc 42) (cond (Nat.ble pc 41) (cond (Nat.beq pc 41) (some (.iload_n 2, 42, 2, 0)) none) (cond (Nat.beq pc 42) (some (.ifCond .ne 14, 45, 56, 0)) none)) (cond (Nat.ble pc 45) (cond (Nat.beq pc 45) (some (.aload_n 0, 46, 0, 0)) none) (cond (Nat.ble pc 46) (cond (Nat.beq pc 46) (some (.getfield 17, 49, 0, 0)) none) (cond (Nat.beq pc 49) (some (.iload_n 3, 50, 3, 0)) none))))) (cond (Nat.ble pc 53) (cond (Nat.ble pc 51) (cond (Nat.ble pc 50) (cond (Nat.beq pc 50) (some (.iaload, 51, 0, 0)) none) (cond (Nat.beq pc 51) (some (.iconst 2, 52, 0, nI 2)) none)) (cond (Nat.ble pc 52) (cond (Nat.beq pc 52) (some (.isub, 53, 0, 0)) none) (cond (Nat.beq pc 53) (some (.goto 9, 56, 62, 0)) none))) (cond (Nat.ble pc 57) (cond (Nat.ble pc 56) (cond (Nat.beq pc 56) (some (.aload_n 0, 57, 0, 0)) none) (cond (Nat.beq pc 57) (some (.getfield 24, 60, 0, 0)) none)) (cond (Nat.ble pc 60) (cond (Nat.beq pc 60) (some (.iload_n 3, 61, 3, 0)) none) (cond (Nat.ble pc 61) (cond (Nat.beq pc 61) (some (.iaload, 62, 0, 0)) none) (cond (Nat.beq pc 62) (some (.ireturn, 63, 0, 0)) none))))))
set_option maxRecDepth 100000 in
theorem k_M_size : (List.range 63).all (fun pc => match f_M_size pc with | none => true | some q => chk b_M_size 4 pc q) = true := by decide +kernel
abbrev b_M_isRoot : ByteArray := prog_4_method_15_code
def y_M_isRoot : MethodName := ⟨"RootedWordsModel", "isRoot", "(I)Z"⟩
def f_M_isRoot : Nat → Option TE := fun pc => cond (Nat.ble pc 5) (cond (Nat.ble pc 1) (cond (Nat.ble pc 0) (cond (Nat.beq pc 0) (some (.iload_n 0, 1, 0, 0)) none) (cond (Nat.beq pc 1) (some (.ifCond .lt 13, 4, 14, 0)) none)) (cond (Nat.ble pc 4) (cond (Nat.beq pc 4) (some (.iload_n 0, 5, 0, 0)) none) (cond (Nat.beq pc 5) (some (.bipush 8, 7, 0, nI 8)) none))) (cond (Nat.ble pc 10) (cond (Nat.ble pc 7) (cond (Nat.beq pc 7) (some (.if_icmp .ge 7, 10, 14, 0)) none) (cond (Nat.beq pc 10) (some (.iconst 1, 11, 0, nI 1)) none)) (cond (Nat.ble pc 11) (cond (Nat.beq pc 11) (some (.goto 4, 14, 15, 0)) none) (cond (Nat.ble pc 14) (cond (Nat.beq pc 14) (some (.iconst 0, 15, 0, nI 0)) none) (cond (Nat.beq pc 15) (some (.ireturn, 16, 0, 0)) none))))
set_option maxRecDepth 100000 in
theorem k_M_isRoot : (List.range 16).all (fun pc => match f_M_isRoot pc with | none => true | some q => chk b_M_isRoot 1 pc q) = true := by decide +kernel
abbrev b_M_rootNow : ByteArray := prog_4_method_16_code
def y_M_rootNow : MethodName := ⟨"RootedWordsModel", "rootNow", "(I)I"⟩
def f_M_rootNow : Nat → Option TE := fun pc => cond (Nat.ble pc 10) (cond (Nat.ble pc 2) (cond (Nat.ble pc 0) (cond (Nat.beq pc 0) (some (.aload_n 0, 1, 0, 0)) none) (cond (Nat.ble pc 1) (cond (Nat.beq pc 1) (some (.aload_n 0, 2, 0, 0)) none) (cond (Nat.beq pc 2) (some (.getfield 33, 5, 0, 0)) none))) (cond (Nat.ble pc 6) (cond (Nat.ble pc 5) (cond (Nat.beq pc 5) (some (.iload_n 1, 6, 1, 0)) none) (cond (Nat.beq pc 6) (some (.iaload, 7, 0, 0)) none)) (cond (Nat.ble pc 7) (cond (Nat.beq pc 7) (some (.invokevirtual 67, 10, 0, 0)) none) (cond (Nat.beq pc 10) (some (.ifCond .ge 7, 13, 17, 0)) none)))) (cond (Nat.ble pc 17) (cond (Nat.ble pc 13) (cond (Nat.beq pc 13) (some (.iconst 0, 14, 0, nI 0)) none) (cond (Nat.ble pc 14) (cond (Nat.beq pc 14) (some (.goto 9, 17, 23, 0)) none) (cond (Nat.beq pc 17) (some (.aload_n 0, 18, 0, 0)) none))) (cond (Nat.ble pc 21) (cond (Nat.ble pc 18) (cond (Nat.beq pc 18) (some (.getfield 33, 21, 0, 0)) none) (cond (Nat.beq pc 21) (some (.iload_n 1, 22, 1, 0)) none)) (cond (Nat.ble pc 22) (cond (Nat.beq pc 22) (some (.iaload, 23, 0, 0)) none) (cond (Nat.beq pc 23) (some (.ireturn, 24, 0, 0)) none))))
set_option maxRecDepth 100000 in
theorem k_M_rootNow : (List.range 24).all (fun pc => match f_M_rootNow pc with | none => true | some q => chk b_M_rootNow 2 pc q) = true := by decide +kernel
abbrev b_M_setRoot : ByteArray := prog_4_method_17_code
def y_M_setRoot : MethodName := ⟨"RootedWordsModel", "setRoot", "(II)I"⟩
def f_M_setRoot : Nat → Option TE := fun pc => cond (Nat.ble pc 44) (cond (Nat.ble pc 20) (cond (Nat.ble pc 8) (cond (Nat.ble pc 1) (cond (Nat.ble pc 0) (cond (Nat.beq pc 0) (some (.aload_n 0, 1, 0, 0)) none) (cond (Nat.beq pc 1) (some (.aload_n 0, 2, 0, 0)) none)) (cond (Nat.ble pc 2) (cond (Nat.beq pc 2) (some (.getfield 45, 5, 0, 0)) none) (cond (Nat.ble pc 5) (cond (Nat.beq pc 5) (some (.ifCond .eq 7, 8, 12, 0)) none) (cond (Nat.beq pc 8) (some (.iconst 1, 9, 0, nI 1)) none)))) (cond (Nat.ble pc 13) (cond (Nat.ble pc 9) (cond (Nat.beq pc 9) (some (.goto 31, 12, 40, 0)) none) (cond (Nat.ble pc 12) (cond (Nat.beq pc 12) (some (.iload_n 1, 13, 1, 0)) none) (cond (Nat.beq pc 13) (some (.invokestatic 77, 16, 0, 0)) none))) (cond (Nat.ble pc 16) (cond (Nat.beq pc 16) (some (.ifCond .ne 7, 19, 23, 0)) none) (cond (Nat.ble pc 19) (cond (Nat.beq pc 19) (some (.iconst 2, 20, 0, nI 2)) none) (cond (Nat.beq pc 20) (some (.goto 20, 23, 40, 0)) none))))) (cond (Nat.ble pc 32) (cond (Nat.ble pc 27) (cond (Nat.ble pc 23) (cond (Nat.beq pc 23) (some (.iload_n 2, 24, 2, 0)) none) (cond (Nat.ble pc 24) (cond (Nat.beq pc 24) (some (.ifCond .eq 15, 27, 39, 0)) none) (cond (Nat.beq pc 27) (some (.aload_n 0, 28, 0, 0)) none))) (cond (Nat.ble pc 28) (cond (Nat.beq pc 28) (some (.iload_n 2, 29, 2, 0)) none) (cond (Nat.ble pc 29) (cond (Nat.beq pc 29) (some (.invokevirtual 67, 32, 0, 0)) none) (cond (Nat.beq pc 32) (some (.ifCond .ge 7, 35, 39, 0)) none)))) (cond (Nat.ble pc 39) (cond (Nat.ble pc 35) (cond (Nat.beq pc 35) (some (.iconst 3, 36, 0, nI 3)) none) (cond (Nat.ble pc 36) (cond (Nat.beq pc 36) (some (.goto 4, 39, 40, 0)) none) (cond (Nat.beq pc 39) (some (.iconst 0, 40, 0, nI 0)) none))) (cond (Nat.ble pc 40) (cond (Nat.beq pc 40) (some (.putfield 39, 43, 0, 0)) none) (cond (Nat.ble pc 43) (cond (Nat.beq pc 43) (some (.aload_n 0, 44, 0, 0)) none) (cond (Nat.beq pc 44) (some (.getfield 39, 47, 0, 0)) none)))))) (cond (Nat.ble pc 63) (cond (Nat.ble pc 53) (cond (Nat.ble pc 50) (cond (Nat.ble pc 47) (cond (Nat.beq pc 47) (some (.ifCond .le 5, 50, 52, 0)) none) (cond (Nat.beq pc 50) (some (.iconst 0, 51, 0, nI 0)) none)) (cond (Nat.ble pc 51) (cond (Nat.beq pc 51) (some (.ireturn, 52, 0, 0)) none) (cond (Nat.ble pc 52) (cond (Nat.beq pc 52) (some (.aload_n 0, 53, 0, 0)) none) (cond (Nat.beq pc 53) (some (.iload_n 1, 54, 1, 0)) none)))) (cond (Nat.ble pc 58) (cond (Nat.ble pc 54) (cond (Nat.beq pc 54) (some (.invokevirtual 80, 57, 0, 0)) none) (cond (Nat.ble pc 57) (cond (Nat.beq pc 57) (some (.istore_n 3, 58, 3, 0)) none) (cond (Nat.beq pc 58) (some (.aload_n 0, 59, 0, 0)) none))) (cond (Nat.ble pc 59) (cond (Nat.beq pc 59) (some (.iconst 1, 60, 0, nI 1)) none) (cond (Nat.ble pc 60) (cond (Nat.beq pc 60) (some (.invokevirtual 59, 63, 0, 0)) none) (cond (Nat.beq pc 63) (some (.ifCond .eq 10, 66, 73, 0)) none))))) (cond (Nat.ble pc 73) (cond (Nat.ble pc 70) (cond (Nat.ble pc 66) (cond (Nat.beq pc 66) (some (.aload_n 0, 67, 0, 0)) none) (cond (Nat.ble pc 67) (cond (Nat.beq pc 67) (some (.getfield 33, 70, 0, 0)) none) (cond (Nat.beq pc 70) (some (.iload_n 1, 71, 1, 0)) none))) (cond (Nat.ble pc 71) (cond (Nat.beq pc 71) (some (.iload_n 2, 72, 2, 0)) none) (cond (Nat.ble pc 72) (cond (Nat.beq pc 72) (some (.iastore, 73, 0, 0)) none) (cond (Nat.beq pc 73) (some (.aload_n 0, 74, 0, 0)) none)))) (cond (Nat.ble pc 80) (cond (Nat.ble pc 74) (cond (Nat.beq pc 74) (some (.getfield 39, 77, 0, 0)) none) (cond (Nat.ble pc 77) (cond (Nat.beq pc 77) (some (.ifCond .le 7, 80, 84, 0)) none) (cond (Nat.beq pc 80) (some (.iconst 0, 81, 0, nI 0)) none))) (cond (Nat.ble pc 81) (cond (Nat.beq pc 81) (some (.goto 4, 84, 85, 0)) none) (cond (Nat.ble pc 84) (cond (Nat.beq pc 84) (some (.iload_n 3, 85, 3, 0)) none) (cond (Nat.beq pc 85) (some (.ireturn, 86, 0, 0)) none))))))
set_option maxRecDepth 100000 in
theorem k_M_setRoot : (List.range 86).all (fun pc => match f_M_setRoot pc with | none => true | some q => chk b_M_setRoot 4 pc q) = true := by decide +kernel
abbrev b_M_root : ByteArray := prog_4_method_18_code
def y_M_root : MethodName := ⟨"RootedWordsModel", "root", "(I)I"⟩
def f_M_root : Nat → Option TE := fun pc => cond (Nat.ble pc 20) (cond (Nat.ble pc 8) (cond (Nat.ble pc 1) (cond (Nat.ble pc 0) (cond (Nat.beq pc 0) (some (.aload_n 0, 1, 0, 0)) none) (cond (Nat.beq pc 1) (some (.aload_n 0, 2, 0, 0)) none)) (cond (Nat.ble pc 2) (cond (Nat.beq pc 2) (some (.getfield 45, 5, 0, 0)) none) (cond (Nat.ble pc 5) (cond (Nat.beq pc 5) (some (.ifCond .eq 7, 8, 12, 0)) none) (cond (Nat.beq pc 8) (some (.iconst 1, 9, 0, nI 1)) none)))) (cond (Nat.ble pc 13) (cond (Nat.ble pc 9) (cond (Nat.beq pc 9) (some (.goto 15, 12, 24, 0)) none) (cond (Nat.ble pc 12) (cond (Nat.beq pc 12) (some (.iload_n 1, 13, 1, 0)) none) (cond (Nat.beq pc 13) (some (.invokestatic 77, 16, 0, 0)) none))) (cond (Nat.ble pc 16) (cond (Nat.beq pc 16) (some (.ifCond .eq 7, 19, 23, 0)) none) (cond (Nat.ble pc 19) (cond (Nat.beq pc 19) (some (.iconst 0, 20, 0, nI 0)) none) (cond (Nat.beq pc 20) (some (.goto 4, 23, 24, 0)) none))))) (cond (Nat.ble pc 31) (cond (Nat.ble pc 24) (cond (Nat.ble pc 23) (cond (Nat.beq pc 23) (some (.iconst 2, 24, 0, nI 2)) none) (cond (Nat.beq pc 24) (some (.putfield 39, 27, 0, 0)) none)) (cond (Nat.ble pc 27) (cond (Nat.beq pc 27) (some (.aload_n 0, 28, 0, 0)) none) (cond (Nat.ble pc 28) (cond (Nat.beq pc 28) (some (.getfield 39, 31, 0, 0)) none) (cond (Nat.beq pc 31) (some (.ifCond .le 7, 34, 38, 0)) none)))) (cond (Nat.ble pc 38) (cond (Nat.ble pc 34) (cond (Nat.beq pc 34) (some (.iconst 0, 35, 0, nI 0)) none) (cond (Nat.ble pc 35) (cond (Nat.beq pc 35) (some (.goto 8, 38, 43, 0)) none) (cond (Nat.beq pc 38) (some (.aload_n 0, 39, 0, 0)) none))) (cond (Nat.ble pc 39) (cond (Nat.beq pc 39) (some (.iload_n 1, 40, 1, 0)) none) (cond (Nat.ble pc 40) (cond (Nat.beq pc 40) (some (.invokevirtual 80, 43, 0, 0)) none) (cond (Nat.beq pc 43) (some (.ireturn, 44, 0, 0)) none)))))
set_option maxRecDepth 100000 in
theorem k_M_root : (List.range 44).all (fun pc => match f_M_root pc with | none => true | some q => chk b_M_root 2 pc q) = true := by decide +kernel
abbrev b_M_mark : ByteArray := prog_4_method_19_code
def y_M_mark : MethodName := ⟨"RootedWordsModel", "mark", "(I)V"⟩
def f_M_mark : Nat → Option TE := fun pc => cond (Nat.ble pc 7) (cond (Nat.ble pc 2) (cond (Nat.ble pc 0) (cond (Nat.beq pc 0) (some (.aload_n 0, 1, 0, 0)) none) (cond (Nat.ble pc 1) (cond (Nat.beq pc 1) (some (.iload_n 1, 2, 1, 0)) none) (cond (Nat.beq pc 2) (some (.invokevirtual 67, 5, 0, 0)) none))) (cond (Nat.ble pc 5) (cond (Nat.beq pc 5) (some (.istore_n 2, 6, 2, 0)) none) (cond (Nat.ble pc 6) (cond (Nat.beq pc 6) (some (.iload_n 2, 7, 2, 0)) none) (cond (Nat.beq pc 7) (some (.ifCond .lt 10, 10, 17, 0)) none)))) (cond (Nat.ble pc 14) (cond (Nat.ble pc 10) (cond (Nat.beq pc 10) (some (.aload_n 0, 11, 0, 0)) none) (cond (Nat.ble pc 11) (cond (Nat.beq pc 11) (some (.getfield 27, 14, 0, 0)) none) (cond (Nat.beq pc 14) (some (.iload_n 2, 15, 2, 0)) none))) (cond (Nat.ble pc 15) (cond (Nat.beq pc 15) (some (.iconst 1, 16, 0, nI 1)) none) (cond (Nat.ble pc 16) (cond (Nat.beq pc 16) (some (.bastore, 17, 0, 0)) none) (cond (Nat.beq pc 17) (some (.return_, 18, 0, 0)) none))))
set_option maxRecDepth 100000 in
theorem k_M_mark : (List.range 18).all (fun pc => match f_M_mark pc with | none => true | some q => chk b_M_mark 3 pc q) = true := by decide +kernel
abbrev b_M_countMarked : ByteArray := prog_4_method_20_code
def y_M_countMarked : MethodName := ⟨"RootedWordsModel", "countMarked", "()I"⟩
def f_M_countMarked : Nat → Option TE := fun pc => cond (Nat.ble pc 16) (cond (Nat.ble pc 4) (cond (Nat.ble pc 1) (cond (Nat.ble pc 0) (cond (Nat.beq pc 0) (some (.iconst 0, 1, 0, nI 0)) none) (cond (Nat.beq pc 1) (some (.istore_n 1, 2, 1, 0)) none)) (cond (Nat.ble pc 2) (cond (Nat.beq pc 2) (some (.iconst 0, 3, 0, nI 0)) none) (cond (Nat.ble pc 3) (cond (Nat.beq pc 3) (some (.istore_n 2, 4, 2, 0)) none) (cond (Nat.beq pc 4) (some (.iload_n 2, 5, 2, 0)) none)))) (cond (Nat.ble pc 9) (cond (Nat.ble pc 5) (cond (Nat.beq pc 5) (some (.aload_n 0, 6, 0, 0)) none) (cond (Nat.ble pc 6) (cond (Nat.beq pc 6) (some (.getfield 7, 9, 0, 0)) none) (cond (Nat.beq pc 9) (some (.if_icmp .ge 26, 12, 35, 0)) none))) (cond (Nat.ble pc 12) (cond (Nat.beq pc 12) (some (.aload_n 0, 13, 0, 0)) none) (cond (Nat.ble pc 13) (cond (Nat.beq pc 13) (some (.getfield 27, 16, 0, 0)) none) (cond (Nat.beq pc 16) (some (.iload_n 2, 17, 2, 0)) none))))) (cond (Nat.ble pc 24) (cond (Nat.ble pc 21) (cond (Nat.ble pc 17) (cond (Nat.beq pc 17) (some (.baload, 18, 0, 0)) none) (cond (Nat.ble pc 18) (cond (Nat.beq pc 18) (some (.ifCond .eq 9, 21, 27, 0)) none) (cond (Nat.beq pc 21) (some (.iload_n 1, 22, 1, 0)) none))) (cond (Nat.ble pc 22) (cond (Nat.beq pc 22) (some (.iconst 1, 23, 0, nI 1)) none) (cond (Nat.ble pc 23) (cond (Nat.beq pc 23) (some (.iadd, 24, 0, 0)) none) (cond (Nat.beq pc 24) (some (.goto 4, 27, 28, 0)) none)))) (cond (Nat.ble pc 29) (cond (Nat.ble pc 27) (cond (Nat.beq pc 27) (some (.iload_n 1, 28, 1, 0)) none) (cond (Nat.ble pc 28) (cond (Nat.beq pc 28) (some (.istore_n 1, 29, 1, 0)) none) (cond (Nat.beq pc 29) (some (.iinc 2 1, 32, 2, nI 1)) none))) (cond (Nat.ble pc 32) (cond (Nat.beq pc 32) (some (.goto (-28), 35, 4, 0)) none) (cond (Nat.ble pc 35) (cond (Nat.beq pc 35) (some (.iload_n 1, 36, 1, 0)) none) (cond (Nat.beq pc 36) (some (.ireturn, 37, 0, 0)) none)))))
set_option maxRecDepth 100000 in
theorem k_M_countMarked : (List.range 37).all (fun pc => match f_M_countMarked pc with | none => true | some q => chk b_M_countMarked 3 pc q) = true := by decide +kernel
abbrev b_M_markAll : ByteArray := prog_4_method_21_code
def y_M_markAll : MethodName := ⟨"RootedWordsModel", "markAll", "()I"⟩
def f_M_markAll : Nat → Option TE := fun pc => cond (Nat.ble pc 63) (cond (Nat.ble pc 28) (cond (Nat.ble pc 14) (cond (Nat.ble pc 3) (cond (Nat.ble pc 1) (cond (Nat.ble pc 0) (cond (Nat.beq pc 0) (some (.iconst 0, 1, 0, nI 0)) none) (cond (Nat.beq pc 1) (some (.istore_n 1, 2, 1, 0)) none)) (cond (Nat.ble pc 2) (cond (Nat.beq pc 2) (some (.iload_n 1, 3, 1, 0)) none) (cond (Nat.beq pc 3) (some (.aload_n 0, 4, 0, 0)) none))) (cond (Nat.ble pc 7) (cond (Nat.ble pc 4) (cond (Nat.beq pc 4) (some (.getfield 7, 7, 0, 0)) none) (cond (Nat.beq pc 7) (some (.if_icmp .ge 16, 10, 23, 0)) none)) (cond (Nat.ble pc 10) (cond (Nat.beq pc 10) (some (.aload_n 0, 11, 0, 0)) none) (cond (Nat.ble pc 11) (cond (Nat.beq pc 11) (some (.getfield 27, 14, 0, 0)) none) (cond (Nat.beq pc 14) (some (.iload_n 1, 15, 1, 0)) none))))) (cond (Nat.ble pc 20) (cond (Nat.ble pc 16) (cond (Nat.ble pc 15) (cond (Nat.beq pc 15) (some (.iconst 0, 16, 0, nI 0)) none) (cond (Nat.beq pc 16) (some (.bastore, 17, 0, 0)) none)) (cond (Nat.ble pc 17) (cond (Nat.beq pc 17) (some (.iinc 1 1, 20, 1, nI 1)) none) (cond (Nat.beq pc 20) (some (.goto (-18), 23, 2, 0)) none))) (cond (Nat.ble pc 24) (cond (Nat.ble pc 23) (cond (Nat.beq pc 23) (some (.iconst 0, 24, 0, nI 0)) none) (cond (Nat.beq pc 24) (some (.istore_n 1, 25, 1, 0)) none)) (cond (Nat.ble pc 25) (cond (Nat.beq pc 25) (some (.iload_n 1, 26, 1, 0)) none) (cond (Nat.ble pc 26) (cond (Nat.beq pc 26) (some (.bipush 8, 28, 0, nI 8)) none) (cond (Nat.beq pc 28) (some (.if_icmp .ge 19, 31, 47, 0)) none)))))) (cond (Nat.ble pc 47) (cond (Nat.ble pc 36) (cond (Nat.ble pc 32) (cond (Nat.ble pc 31) (cond (Nat.beq pc 31) (some (.aload_n 0, 32, 0, 0)) none) (cond (Nat.beq pc 32) (some (.aload_n 0, 33, 0, 0)) none)) (cond (Nat.ble pc 33) (cond (Nat.beq pc 33) (some (.getfield 33, 36, 0, 0)) none) (cond (Nat.beq pc 36) (some (.iload_n 1, 37, 1, 0)) none))) (cond (Nat.ble pc 38) (cond (Nat.ble pc 37) (cond (Nat.beq pc 37) (some (.iaload, 38, 0, 0)) none) (cond (Nat.beq pc 38) (some (.invokevirtual 83, 41, 0, 0)) none)) (cond (Nat.ble pc 41) (cond (Nat.beq pc 41) (some (.iinc 1 1, 44, 1, nI 1)) none) (cond (Nat.ble pc 44) (cond (Nat.beq pc 44) (some (.goto (-19), 47, 25, 0)) none) (cond (Nat.beq pc 47) (some (.iconst (-1), 48, 0, -1)) none))))) (cond (Nat.ble pc 54) (cond (Nat.ble pc 49) (cond (Nat.ble pc 48) (cond (Nat.beq pc 48) (some (.istore_n 1, 49, 1, 0)) none) (cond (Nat.beq pc 49) (some (.aload_n 0, 50, 0, 0)) none)) (cond (Nat.ble pc 50) (cond (Nat.beq pc 50) (some (.invokevirtual 87, 53, 0, 0)) none) (cond (Nat.ble pc 53) (cond (Nat.beq pc 53) (some (.iload_n 1, 54, 1, 0)) none) (cond (Nat.beq pc 54) (some (.if_icmp .le 73, 57, 127, 0)) none)))) (cond (Nat.ble pc 58) (cond (Nat.ble pc 57) (cond (Nat.beq pc 57) (some (.aload_n 0, 58, 0, 0)) none) (cond (Nat.beq pc 58) (some (.invokevirtual 87, 61, 0, 0)) none)) (cond (Nat.ble pc 61) (cond (Nat.beq pc 61) (some (.istore_n 1, 62, 1, 0)) none) (cond (Nat.ble pc 62) (cond (Nat.beq pc 62) (some (.iconst 0, 63, 0, nI 0)) none) (cond (Nat.beq pc 63) (some (.istore_n 2, 64, 2, 0)) none))))))) (cond (Nat.ble pc 93) (cond (Nat.ble pc 78) (cond (Nat.ble pc 69) (cond (Nat.ble pc 65) (cond (Nat.ble pc 64) (cond (Nat.beq pc 64) (some (.iload_n 2, 65, 2, 0)) none) (cond (Nat.beq pc 65) (some (.aload_n 0, 66, 0, 0)) none)) (cond (Nat.ble pc 66) (cond (Nat.beq pc 66) (some (.getfield 7, 69, 0, 0)) none) (cond (Nat.beq pc 69) (some (.if_icmp .ge 55, 72, 124, 0)) none))) (cond (Nat.ble pc 73) (cond (Nat.ble pc 72) (cond (Nat.beq pc 72) (some (.iconst 0, 73, 0, nI 0)) none) (cond (Nat.beq pc 73) (some (.istore_n 3, 74, 3, 0)) none)) (cond (Nat.ble pc 74) (cond (Nat.beq pc 74) (some (.aload_n 0, 75, 0, 0)) none) (cond (Nat.ble pc 75) (cond (Nat.beq pc 75) (some (.getfield 27, 78, 0, 0)) none) (cond (Nat.beq pc 78) (some (.iload_n 2, 79, 2, 0)) none))))) (cond (Nat.ble pc 84) (cond (Nat.ble pc 80) (cond (Nat.ble pc 79) (cond (Nat.beq pc 79) (some (.baload, 80, 0, 0)) none) (cond (Nat.beq pc 80) (some (.ifCond .eq 38, 83, 118, 0)) none)) (cond (Nat.ble pc 83) (cond (Nat.beq pc 83) (some (.iload_n 3, 84, 3, 0)) none) (cond (Nat.beq pc 84) (some (.aload_n 0, 85, 0, 0)) none))) (cond (Nat.ble pc 88) (cond (Nat.ble pc 85) (cond (Nat.beq pc 85) (some (.getfield 24, 88, 0, 0)) none) (cond (Nat.beq pc 88) (some (.iload_n 2, 89, 2, 0)) none)) (cond (Nat.ble pc 89) (cond (Nat.beq pc 89) (some (.iaload, 90, 0, 0)) none) (cond (Nat.ble pc 90) (cond (Nat.beq pc 90) (some (.if_icmp .ge 28, 93, 118, 0)) none) (cond (Nat.beq pc 93) (some (.aload_n 0, 94, 0, 0)) none)))))) (cond (Nat.ble pc 106) (cond (Nat.ble pc 99) (cond (Nat.ble pc 95) (cond (Nat.ble pc 94) (cond (Nat.beq pc 94) (some (.aload_n 0, 95, 0, 0)) none) (cond (Nat.beq pc 95) (some (.getfield 30, 98, 0, 0)) none)) (cond (Nat.ble pc 98) (cond (Nat.beq pc 98) (some (.aload_n 0, 99, 0, 0)) none) (cond (Nat.beq pc 99) (some (.getfield 13, 102, 0, 0)) none))) (cond (Nat.ble pc 103) (cond (Nat.ble pc 102) (cond (Nat.beq pc 102) (some (.iload_n 2, 103, 2, 0)) none) (cond (Nat.beq pc 103) (some (.iaload, 104, 0, 0)) none)) (cond (Nat.ble pc 104) (cond (Nat.beq pc 104) (some (.iconst 1, 105, 0, nI 1)) none) (cond (Nat.ble pc 105) (cond (Nat.beq pc 105) (some (.iadd, 106, 0, 0)) none) (cond (Nat.beq pc 106) (some (.iload_n 3, 107, 3, 0)) none))))) (cond (Nat.ble pc 115) (cond (Nat.ble pc 108) (cond (Nat.ble pc 107) (cond (Nat.beq pc 107) (some (.iadd, 108, 0, 0)) none) (cond (Nat.beq pc 108) (some (.iaload, 109, 0, 0)) none)) (cond (Nat.ble pc 109) (cond (Nat.beq pc 109) (some (.invokevirtual 83, 112, 0, 0)) none) (cond (Nat.ble pc 112) (cond (Nat.beq pc 112) (some (.iinc 3 1, 115, 3, nI 1)) none) (cond (Nat.beq pc 115) (some (.goto (-41), 118, 74, 0)) none)))) (cond (Nat.ble pc 121) (cond (Nat.ble pc 118) (cond (Nat.beq pc 118) (some (.iinc 2 1, 121, 2, nI 1)) none) (cond (Nat.beq pc 121) (some (.goto (-57), 124, 64, 0)) none)) (cond (Nat.ble pc 124) (cond (Nat.beq pc 124) (some (.goto (-75), 127, 49, 0)) none) (cond (Nat.ble pc 127) (cond (Nat.beq pc 127) (some (.iload_n 1, 128, 1, 0)) none) (cond (Nat.beq pc 128) (some (.ireturn, 129, 0, 0)) none)))))))
set_option maxRecDepth 100000 in
theorem k_M_markAll : (List.range 129).all (fun pc => match f_M_markAll pc with | none => true | some q => chk b_M_markAll 4 pc q) = true := by decide +kernel
abbrev b_M_freeWords : ByteArray := prog_4_method_22_code
def y_M_freeWords : MethodName := ⟨"RootedWordsModel", "freeWords", "()I"⟩
def f_M_freeWords : Nat → Option TE := fun pc => cond (Nat.ble pc 32) (cond (Nat.ble pc 16) (cond (Nat.ble pc 5) (cond (Nat.ble pc 1) (cond (Nat.ble pc 0) (cond (Nat.beq pc 0) (some (.aload_n 0, 1, 0, 0)) none) (cond (Nat.beq pc 1) (some (.aload_n 0, 2, 0, 0)) none)) (cond (Nat.ble pc 2) (cond (Nat.beq pc 2) (some (.getfield 45, 5, 0, 0)) none) (cond (Nat.beq pc 5) (some (.ifCond .eq 7, 8, 12, 0)) none))) (cond (Nat.ble pc 9) (cond (Nat.ble pc 8) (cond (Nat.beq pc 8) (some (.iconst 1, 9, 0, nI 1)) none) (cond (Nat.beq pc 9) (some (.goto 4, 12, 13, 0)) none)) (cond (Nat.ble pc 12) (cond (Nat.beq pc 12) (some (.iconst 0, 13, 0, nI 0)) none) (cond (Nat.ble pc 13) (cond (Nat.beq pc 13) (some (.putfield 39, 16, 0, 0)) none) (cond (Nat.beq pc 16) (some (.iconst 0, 17, 0, nI 0)) none))))) (cond (Nat.ble pc 21) (cond (Nat.ble pc 18) (cond (Nat.ble pc 17) (cond (Nat.beq pc 17) (some (.istore_n 1, 18, 1, 0)) none) (cond (Nat.beq pc 18) (some (.iconst 0, 19, 0, nI 0)) none)) (cond (Nat.ble pc 19) (cond (Nat.beq pc 19) (some (.istore_n 2, 20, 2, 0)) none) (cond (Nat.ble pc 20) (cond (Nat.beq pc 20) (some (.iload_n 2, 21, 2, 0)) none) (cond (Nat.beq pc 21) (some (.aload_n 0, 22, 0, 0)) none)))) (cond (Nat.ble pc 25) (cond (Nat.ble pc 22) (cond (Nat.beq pc 22) (some (.getfield 7, 25, 0, 0)) none) (cond (Nat.beq pc 25) (some (.if_icmp .ge 40, 28, 65, 0)) none)) (cond (Nat.ble pc 28) (cond (Nat.beq pc 28) (some (.aload_n 0, 29, 0, 0)) none) (cond (Nat.ble pc 29) (cond (Nat.beq pc 29) (some (.getfield 39, 32, 0, 0)) none) (cond (Nat.beq pc 32) (some (.ifCond .ne 33, 35, 65, 0)) none)))))) (cond (Nat.ble pc 50) (cond (Nat.ble pc 41) (cond (Nat.ble pc 36) (cond (Nat.ble pc 35) (cond (Nat.beq pc 35) (some (.aload_n 0, 36, 0, 0)) none) (cond (Nat.beq pc 36) (some (.getfield 20, 39, 0, 0)) none)) (cond (Nat.ble pc 39) (cond (Nat.beq pc 39) (some (.iload_n 2, 40, 2, 0)) none) (cond (Nat.ble pc 40) (cond (Nat.beq pc 40) (some (.baload, 41, 0, 0)) none) (cond (Nat.beq pc 41) (some (.ifCond .eq 7, 44, 48, 0)) none)))) (cond (Nat.ble pc 45) (cond (Nat.ble pc 44) (cond (Nat.beq pc 44) (some (.iload_n 1, 45, 1, 0)) none) (cond (Nat.beq pc 45) (some (.goto 13, 48, 58, 0)) none)) (cond (Nat.ble pc 48) (cond (Nat.beq pc 48) (some (.iload_n 1, 49, 1, 0)) none) (cond (Nat.ble pc 49) (cond (Nat.beq pc 49) (some (.aload_n 0, 50, 0, 0)) none) (cond (Nat.beq pc 50) (some (.getfield 17, 53, 0, 0)) none))))) (cond (Nat.ble pc 57) (cond (Nat.ble pc 54) (cond (Nat.ble pc 53) (cond (Nat.beq pc 53) (some (.iload_n 2, 54, 2, 0)) none) (cond (Nat.beq pc 54) (some (.iaload, 55, 0, 0)) none)) (cond (Nat.ble pc 55) (cond (Nat.beq pc 55) (some (.iadd, 56, 0, 0)) none) (cond (Nat.ble pc 56) (cond (Nat.beq pc 56) (some (.iconst 2, 57, 0, nI 2)) none) (cond (Nat.beq pc 57) (some (.isub, 58, 0, 0)) none)))) (cond (Nat.ble pc 59) (cond (Nat.ble pc 58) (cond (Nat.beq pc 58) (some (.istore_n 1, 59, 1, 0)) none) (cond (Nat.beq pc 59) (some (.iinc 2 1, 62, 2, nI 1)) none)) (cond (Nat.ble pc 62) (cond (Nat.beq pc 62) (some (.goto (-42), 65, 20, 0)) none) (cond (Nat.ble pc 65) (cond (Nat.beq pc 65) (some (.iload_n 1, 66, 1, 0)) none) (cond (Nat.beq pc 66) (some (.ireturn, 67, 0, 0)) none))))))
set_option maxRecDepth 100000 in
theorem k_M_freeWords : (List.range 67).all (fun pc => match f_M_freeWords pc with | none => true | some q => chk b_M_freeWords 3 pc q) = true := by decide +kernel
abbrev b_M_largestFree : ByteArray := prog_4_method_23_code
def y_M_largestFree : MethodName := ⟨"RootedWordsModel", "largestFree", "()I"⟩
def f_M_largestFree : Nat → Option TE := fun pc => cond (Nat.ble pc 39) (cond (Nat.ble pc 18) (cond (Nat.ble pc 8) (cond (Nat.ble pc 1) (cond (Nat.ble pc 0) (cond (Nat.beq pc 0) (some (.aload_n 0, 1, 0, 0)) none) (cond (Nat.beq pc 1) (some (.aload_n 0, 2, 0, 0)) none)) (cond (Nat.ble pc 2) (cond (Nat.beq pc 2) (some (.getfield 45, 5, 0, 0)) none) (cond (Nat.ble pc 5) (cond (Nat.beq pc 5) (some (.ifCond .eq 7, 8, 12, 0)) none) (cond (Nat.beq pc 8) (some (.iconst 1, 9, 0, nI 1)) none)))) (cond (Nat.ble pc 13) (cond (Nat.ble pc 9) (cond (Nat.beq pc 9) (some (.goto 4, 12, 13, 0)) none) (cond (Nat.ble pc 12) (cond (Nat.beq pc 12) (some (.iconst 0, 13, 0, nI 0)) none) (cond (Nat.beq pc 13) (some (.putfield 39, 16, 0, 0)) none))) (cond (Nat.ble pc 16) (cond (Nat.beq pc 16) (some (.iconst 0, 17, 0, nI 0)) none) (cond (Nat.ble pc 17) (cond (Nat.beq pc 17) (some (.istore_n 1, 18, 1, 0)) none) (cond (Nat.beq pc 18) (some (.iconst 0, 19, 0, nI 0)) none))))) (cond (Nat.ble pc 25) (cond (Nat.ble pc 20) (cond (Nat.ble pc 19) (cond (Nat.beq pc 19) (some (.istore_n 2, 20, 2, 0)) none) (cond (Nat.beq pc 20) (some (.iload_n 2, 21, 2, 0)) none)) (cond (Nat.ble pc 21) (cond (Nat.beq pc 21) (some (.aload_n 0, 22, 0, 0)) none) (cond (Nat.ble pc 22) (cond (Nat.beq pc 22) (some (.getfield 7, 25, 0, 0)) none) (cond (Nat.beq pc 25) (some (.if_icmp .ge 50, 28, 75, 0)) none)))) (cond (Nat.ble pc 32) (cond (Nat.ble pc 28) (cond (Nat.beq pc 28) (some (.aload_n 0, 29, 0, 0)) none) (cond (Nat.ble pc 29) (cond (Nat.beq pc 29) (some (.getfield 39, 32, 0, 0)) none) (cond (Nat.beq pc 32) (some (.ifCond .ne 43, 35, 75, 0)) none))) (cond (Nat.ble pc 35) (cond (Nat.beq pc 35) (some (.aload_n 0, 36, 0, 0)) none) (cond (Nat.ble pc 36) (cond (Nat.beq pc 36) (some (.getfield 20, 39, 0, 0)) none) (cond (Nat.beq pc 39) (some (.iload_n 2, 40, 2, 0)) none)))))) (cond (Nat.ble pc 56) (cond (Nat.ble pc 48) (cond (Nat.ble pc 41) (cond (Nat.ble pc 40) (cond (Nat.beq pc 40) (some (.baload, 41, 0, 0)) none) (cond (Nat.beq pc 41) (some (.ifCond .ne 26, 44, 67, 0)) none)) (cond (Nat.ble pc 44) (cond (Nat.beq pc 44) (some (.aload_n 0, 45, 0, 0)) none) (cond (Nat.ble pc 45) (cond (Nat.beq pc 45) (some (.getfield 17, 48, 0, 0)) none) (cond (Nat.beq pc 48) (some (.iload_n 2, 49, 2, 0)) none)))) (cond (Nat.ble pc 51) (cond (Nat.ble pc 49) (cond (Nat.beq pc 49) (some (.iaload, 50, 0, 0)) none) (cond (Nat.ble pc 50) (cond (Nat.beq pc 50) (some (.iconst 2, 51, 0, nI 2)) none) (cond (Nat.beq pc 51) (some (.isub, 52, 0, 0)) none))) (cond (Nat.ble pc 52) (cond (Nat.beq pc 52) (some (.iload_n 1, 53, 1, 0)) none) (cond (Nat.ble pc 53) (cond (Nat.beq pc 53) (some (.if_icmp .le 14, 56, 67, 0)) none) (cond (Nat.beq pc 56) (some (.aload_n 0, 57, 0, 0)) none))))) (cond (Nat.ble pc 64) (cond (Nat.ble pc 61) (cond (Nat.ble pc 57) (cond (Nat.beq pc 57) (some (.getfield 17, 60, 0, 0)) none) (cond (Nat.ble pc 60) (cond (Nat.beq pc 60) (some (.iload_n 2, 61, 2, 0)) none) (cond (Nat.beq pc 61) (some (.iaload, 62, 0, 0)) none))) (cond (Nat.ble pc 62) (cond (Nat.beq pc 62) (some (.iconst 2, 63, 0, nI 2)) none) (cond (Nat.ble pc 63) (cond (Nat.beq pc 63) (some (.isub, 64, 0, 0)) none) (cond (Nat.beq pc 64) (some (.goto 4, 67, 68, 0)) none)))) (cond (Nat.ble pc 69) (cond (Nat.ble pc 67) (cond (Nat.beq pc 67) (some (.iload_n 1, 68, 1, 0)) none) (cond (Nat.ble pc 68) (cond (Nat.beq pc 68) (some (.istore_n 1, 69, 1, 0)) none) (cond (Nat.beq pc 69) (some (.iinc 2 1, 72, 2, nI 1)) none))) (cond (Nat.ble pc 72) (cond (Nat.beq pc 72) (some (.goto (-52), 75, 20, 0)) none) (cond (Nat.ble pc 75) (cond (Nat.beq pc 75) (some (.iload_n 1, 76, 1, 0)) none) (cond (Nat.beq pc 76) (some (.ireturn, 77, 0, 0)) none))))))
set_option maxRecDepth 100000 in
theorem k_M_largestFree : (List.range 77).all (fun pc => match f_M_largestFree pc with | none => true | some q => chk b_M_largestFree 3 pc q) = true := by decide +kernel
abbrev b_M_extent : ByteArray := prog_4_method_24_code
def y_M_extent : MethodName := ⟨"RootedWordsModel", "extent", "(I)I"⟩
def f_M_extent : Nat → Option TE := fun pc => cond (Nat.ble pc 39) (cond (Nat.ble pc 17) (cond (Nat.ble pc 8) (cond (Nat.ble pc 1) (cond (Nat.ble pc 0) (cond (Nat.beq pc 0) (some (.aload_n 0, 1, 0, 0)) none) (cond (Nat.beq pc 1) (some (.aload_n 0, 2, 0, 0)) none)) (cond (Nat.ble pc 2) (cond (Nat.beq pc 2) (some (.getfield 45, 5, 0, 0)) none) (cond (Nat.ble pc 5) (cond (Nat.beq pc 5) (some (.ifCond .eq 7, 8, 12, 0)) none) (cond (Nat.beq pc 8) (some (.iconst 1, 9, 0, nI 1)) none)))) (cond (Nat.ble pc 12) (cond (Nat.ble pc 9) (cond (Nat.beq pc 9) (some (.goto 20, 12, 29, 0)) none) (cond (Nat.beq pc 12) (some (.iload_n 1, 13, 1, 0)) none)) (cond (Nat.ble pc 13) (cond (Nat.beq pc 13) (some (.ifCond .lt 11, 16, 24, 0)) none) (cond (Nat.ble pc 16) (cond (Nat.beq pc 16) (some (.iload_n 1, 17, 1, 0)) none) (cond (Nat.beq pc 17) (some (.aload_n 0, 18, 0, 0)) none))))) (cond (Nat.ble pc 28) (cond (Nat.ble pc 21) (cond (Nat.ble pc 18) (cond (Nat.beq pc 18) (some (.getfield 7, 21, 0, 0)) none) (cond (Nat.beq pc 21) (some (.if_icmp .lt 7, 24, 28, 0)) none)) (cond (Nat.ble pc 24) (cond (Nat.beq pc 24) (some (.iconst 2, 25, 0, nI 2)) none) (cond (Nat.ble pc 25) (cond (Nat.beq pc 25) (some (.goto 4, 28, 29, 0)) none) (cond (Nat.beq pc 28) (some (.iconst 0, 29, 0, nI 0)) none)))) (cond (Nat.ble pc 32) (cond (Nat.ble pc 29) (cond (Nat.beq pc 29) (some (.putfield 39, 32, 0, 0)) none) (cond (Nat.beq pc 32) (some (.aload_n 0, 33, 0, 0)) none)) (cond (Nat.ble pc 33) (cond (Nat.beq pc 33) (some (.getfield 39, 36, 0, 0)) none) (cond (Nat.ble pc 36) (cond (Nat.beq pc 36) (some (.ifCond .le 5, 39, 41, 0)) none) (cond (Nat.beq pc 39) (some (.iconst 0, 40, 0, nI 0)) none)))))) (cond (Nat.ble pc 55) (cond (Nat.ble pc 46) (cond (Nat.ble pc 41) (cond (Nat.ble pc 40) (cond (Nat.beq pc 40) (some (.ireturn, 41, 0, 0)) none) (cond (Nat.beq pc 41) (some (.aload_n 0, 42, 0, 0)) none)) (cond (Nat.ble pc 42) (cond (Nat.beq pc 42) (some (.getfield 20, 45, 0, 0)) none) (cond (Nat.ble pc 45) (cond (Nat.beq pc 45) (some (.iload_n 1, 46, 1, 0)) none) (cond (Nat.beq pc 46) (some (.baload, 47, 0, 0)) none)))) (cond (Nat.ble pc 50) (cond (Nat.ble pc 47) (cond (Nat.beq pc 47) (some (.ifCond .eq 14, 50, 61, 0)) none) (cond (Nat.beq pc 50) (some (.aload_n 0, 51, 0, 0)) none)) (cond (Nat.ble pc 51) (cond (Nat.beq pc 51) (some (.getfield 13, 54, 0, 0)) none) (cond (Nat.ble pc 54) (cond (Nat.beq pc 54) (some (.iload_n 1, 55, 1, 0)) none) (cond (Nat.beq pc 55) (some (.iaload, 56, 0, 0)) none))))) (cond (Nat.ble pc 62) (cond (Nat.ble pc 57) (cond (Nat.ble pc 56) (cond (Nat.beq pc 56) (some (.iconst 1, 57, 0, nI 1)) none) (cond (Nat.beq pc 57) (some (.iadd, 58, 0, 0)) none)) (cond (Nat.ble pc 58) (cond (Nat.beq pc 58) (some (.goto 12, 61, 70, 0)) none) (cond (Nat.ble pc 61) (cond (Nat.beq pc 61) (some (.aload_n 0, 62, 0, 0)) none) (cond (Nat.beq pc 62) (some (.getfield 13, 65, 0, 0)) none)))) (cond (Nat.ble pc 67) (cond (Nat.ble pc 65) (cond (Nat.beq pc 65) (some (.iload_n 1, 66, 1, 0)) none) (cond (Nat.ble pc 66) (cond (Nat.beq pc 66) (some (.iaload, 67, 0, 0)) none) (cond (Nat.beq pc 67) (some (.ineg, 68, 0, 0)) none))) (cond (Nat.ble pc 68) (cond (Nat.beq pc 68) (some (.iconst 1, 69, 0, nI 1)) none) (cond (Nat.ble pc 69) (cond (Nat.beq pc 69) (some (.isub, 70, 0, 0)) none) (cond (Nat.beq pc 70) (some (.ireturn, 71, 0, 0)) none))))))
set_option maxRecDepth 100000 in
theorem k_M_extent : (List.range 71).all (fun pc => match f_M_extent pc with | none => true | some q => chk b_M_extent 2 pc q) = true := by decide +kernel
abbrev b_M_reached : ByteArray := prog_4_method_25_code
def y_M_reached : MethodName := ⟨"RootedWordsModel", "reached", "()I"⟩
def f_M_reached : Nat → Option TE := fun pc => cond (Nat.ble pc 13) (cond (Nat.ble pc 5) (cond (Nat.ble pc 1) (cond (Nat.ble pc 0) (cond (Nat.beq pc 0) (some (.aload_n 0, 1, 0, 0)) none) (cond (Nat.beq pc 1) (some (.aload_n 0, 2, 0, 0)) none)) (cond (Nat.ble pc 2) (cond (Nat.beq pc 2) (some (.getfield 45, 5, 0, 0)) none) (cond (Nat.beq pc 5) (some (.ifCond .eq 7, 8, 12, 0)) none))) (cond (Nat.ble pc 9) (cond (Nat.ble pc 8) (cond (Nat.beq pc 8) (some (.iconst 1, 9, 0, nI 1)) none) (cond (Nat.beq pc 9) (some (.goto 4, 12, 13, 0)) none)) (cond (Nat.ble pc 12) (cond (Nat.beq pc 12) (some (.iconst 0, 13, 0, nI 0)) none) (cond (Nat.beq pc 13) (some (.putfield 39, 16, 0, 0)) none)))) (cond (Nat.ble pc 23) (cond (Nat.ble pc 17) (cond (Nat.ble pc 16) (cond (Nat.beq pc 16) (some (.aload_n 0, 17, 0, 0)) none) (cond (Nat.beq pc 17) (some (.getfield 39, 20, 0, 0)) none)) (cond (Nat.ble pc 20) (cond (Nat.beq pc 20) (some (.ifCond .le 7, 23, 27, 0)) none) (cond (Nat.beq pc 23) (some (.iconst 0, 24, 0, nI 0)) none))) (cond (Nat.ble pc 27) (cond (Nat.ble pc 24) (cond (Nat.beq pc 24) (some (.goto 7, 27, 31, 0)) none) (cond (Nat.beq pc 27) (some (.aload_n 0, 28, 0, 0)) none)) (cond (Nat.ble pc 28) (cond (Nat.beq pc 28) (some (.invokevirtual 91, 31, 0, 0)) none) (cond (Nat.beq pc 31) (some (.ireturn, 32, 0, 0)) none))))
set_option maxRecDepth 100000 in
theorem k_M_reached : (List.range 32).all (fun pc => match f_M_reached pc with | none => true | some q => chk b_M_reached 1 pc q) = true := by decide +kernel
abbrev b_M_order : ByteArray := prog_4_method_26_code
def y_M_order : MethodName := ⟨"RootedWordsModel", "order", "(I)Z"⟩
def f_M_order : Nat → Option TE := fun pc => cond (Nat.ble pc 10) (cond (Nat.ble pc 2) (cond (Nat.ble pc 0) (cond (Nat.beq pc 0) (some (.aload_n 0, 1, 0, 0)) none) (cond (Nat.ble pc 1) (cond (Nat.beq pc 1) (some (.iconst 0, 2, 0, nI 0)) none) (cond (Nat.beq pc 2) (some (.putfield 39, 5, 0, 0)) none))) (cond (Nat.ble pc 6) (cond (Nat.ble pc 5) (cond (Nat.beq pc 5) (some (.iload_n 1, 6, 1, 0)) none) (cond (Nat.beq pc 6) (some (.ifCond .lt 10, 9, 16, 0)) none)) (cond (Nat.ble pc 9) (cond (Nat.beq pc 9) (some (.iload_n 1, 10, 1, 0)) none) (cond (Nat.beq pc 10) (some (.sipush 1000, 13, 0, nI 1000)) none)))) (cond (Nat.ble pc 18) (cond (Nat.ble pc 16) (cond (Nat.ble pc 13) (cond (Nat.beq pc 13) (some (.if_icmp .le 5, 16, 18, 0)) none) (cond (Nat.beq pc 16) (some (.iconst 0, 17, 0, nI 0)) none)) (cond (Nat.ble pc 17) (cond (Nat.beq pc 17) (some (.ireturn, 18, 0, 0)) none) (cond (Nat.beq pc 18) (some (.aload_n 0, 19, 0, 0)) none))) (cond (Nat.ble pc 20) (cond (Nat.ble pc 19) (cond (Nat.beq pc 19) (some (.iload_n 1, 20, 1, 0)) none) (cond (Nat.beq pc 20) (some (.putfield 36, 23, 0, 0)) none)) (cond (Nat.ble pc 23) (cond (Nat.beq pc 23) (some (.iconst 1, 24, 0, nI 1)) none) (cond (Nat.beq pc 24) (some (.ireturn, 25, 0, 0)) none))))
set_option maxRecDepth 100000 in
theorem k_M_order : (List.range 25).all (fun pc => match f_M_order pc with | none => true | some q => chk b_M_order 2 pc q) = true := by decide +kernel
abbrev b_M_clean : ByteArray := prog_4_method_27_code
def y_M_clean : MethodName := ⟨"RootedWordsModel", "clean", "()Z"⟩
def f_M_clean : Nat → Option TE := fun pc => cond (Nat.ble pc 56) (cond (Nat.ble pc 29) (cond (Nat.ble pc 12) (cond (Nat.ble pc 3) (cond (Nat.ble pc 1) (cond (Nat.ble pc 0) (cond (Nat.beq pc 0) (some (.iconst 0, 1, 0, nI 0)) none) (cond (Nat.beq pc 1) (some (.istore_n 1, 2, 1, 0)) none)) (cond (Nat.ble pc 2) (cond (Nat.beq pc 2) (some (.iload_n 1, 3, 1, 0)) none) (cond (Nat.beq pc 3) (some (.aload_n 0, 4, 0, 0)) none))) (cond (Nat.ble pc 7) (cond (Nat.ble pc 4) (cond (Nat.beq pc 4) (some (.getfield 7, 7, 0, 0)) none) (cond (Nat.beq pc 7) (some (.if_icmp .ge 111, 10, 118, 0)) none)) (cond (Nat.ble pc 10) (cond (Nat.beq pc 10) (some (.iload_n 1, 11, 1, 0)) none) (cond (Nat.ble pc 11) (cond (Nat.beq pc 11) (some (.istore_n 2, 12, 2, 0)) none) (cond (Nat.beq pc 12) (some (.iload_n 2, 13, 2, 0)) none))))) (cond (Nat.ble pc 20) (cond (Nat.ble pc 14) (cond (Nat.ble pc 13) (cond (Nat.beq pc 13) (some (.aload_n 0, 14, 0, 0)) none) (cond (Nat.beq pc 14) (some (.getfield 7, 17, 0, 0)) none)) (cond (Nat.ble pc 17) (cond (Nat.beq pc 17) (some (.if_icmp .ge 19, 20, 36, 0)) none) (cond (Nat.beq pc 20) (some (.aload_n 0, 21, 0, 0)) none))) (cond (Nat.ble pc 24) (cond (Nat.ble pc 21) (cond (Nat.beq pc 21) (some (.getfield 27, 24, 0, 0)) none) (cond (Nat.beq pc 24) (some (.iload_n 2, 25, 2, 0)) none)) (cond (Nat.ble pc 25) (cond (Nat.beq pc 25) (some (.baload, 26, 0, 0)) none) (cond (Nat.ble pc 26) (cond (Nat.beq pc 26) (some (.ifCond .ne 10, 29, 36, 0)) none) (cond (Nat.beq pc 29) (some (.iload_n 2, 30, 2, 0)) none)))))) (cond (Nat.ble pc 40) (cond (Nat.ble pc 33) (cond (Nat.ble pc 31) (cond (Nat.ble pc 30) (cond (Nat.beq pc 30) (some (.iconst 1, 31, 0, nI 1)) none) (cond (Nat.beq pc 31) (some (.iadd, 32, 0, 0)) none)) (cond (Nat.ble pc 32) (cond (Nat.beq pc 32) (some (.istore_n 2, 33, 2, 0)) none) (cond (Nat.beq pc 33) (some (.goto (-21), 36, 12, 0)) none))) (cond (Nat.ble pc 37) (cond (Nat.ble pc 36) (cond (Nat.beq pc 36) (some (.iload_n 2, 37, 2, 0)) none) (cond (Nat.beq pc 37) (some (.iload_n 1, 38, 1, 0)) none)) (cond (Nat.ble pc 38) (cond (Nat.beq pc 38) (some (.isub, 39, 0, 0)) none) (cond (Nat.ble pc 39) (cond (Nat.beq pc 39) (some (.iconst 1, 40, 0, nI 1)) none) (cond (Nat.beq pc 40) (some (.if_icmp .gt 19, 43, 59, 0)) none))))) (cond (Nat.ble pc 47) (cond (Nat.ble pc 44) (cond (Nat.ble pc 43) (cond (Nat.beq pc 43) (some (.iload_n 2, 44, 2, 0)) none) (cond (Nat.beq pc 44) (some (.iload_n 1, 45, 1, 0)) none)) (cond (Nat.ble pc 45) (cond (Nat.beq pc 45) (some (.isub, 46, 0, 0)) none) (cond (Nat.ble pc 46) (cond (Nat.beq pc 46) (some (.iconst 1, 47, 0, nI 1)) none) (cond (Nat.beq pc 47) (some (.if_icmp .ne 16, 50, 63, 0)) none)))) (cond (Nat.ble pc 51) (cond (Nat.ble pc 50) (cond (Nat.beq pc 50) (some (.aload_n 0, 51, 0, 0)) none) (cond (Nat.beq pc 51) (some (.getfield 20, 54, 0, 0)) none)) (cond (Nat.ble pc 54) (cond (Nat.beq pc 54) (some (.iload_n 1, 55, 1, 0)) none) (cond (Nat.ble pc 55) (cond (Nat.beq pc 55) (some (.baload, 56, 0, 0)) none) (cond (Nat.beq pc 56) (some (.ifCond .eq 7, 59, 63, 0)) none))))))) (cond (Nat.ble pc 86) (cond (Nat.ble pc 71) (cond (Nat.ble pc 64) (cond (Nat.ble pc 60) (cond (Nat.ble pc 59) (cond (Nat.beq pc 59) (some (.iconst 1, 60, 0, nI 1)) none) (cond (Nat.beq pc 60) (some (.goto 4, 63, 64, 0)) none)) (cond (Nat.ble pc 63) (cond (Nat.beq pc 63) (some (.iconst 0, 64, 0, nI 0)) none) (cond (Nat.beq pc 64) (some (.istore_n 3, 65, 3, 0)) none))) (cond (Nat.ble pc 66) (cond (Nat.ble pc 65) (cond (Nat.beq pc 65) (some (.iload_n 3, 66, 3, 0)) none) (cond (Nat.beq pc 66) (some (.ifCond .eq 32, 69, 98, 0)) none)) (cond (Nat.ble pc 69) (cond (Nat.beq pc 69) (some (.aload_n 0, 70, 0, 0)) none) (cond (Nat.ble pc 70) (cond (Nat.beq pc 70) (some (.iconst 2, 71, 0, nI 2)) none) (cond (Nat.beq pc 71) (some (.invokevirtual 59, 74, 0, 0)) none))))) (cond (Nat.ble pc 81) (cond (Nat.ble pc 76) (cond (Nat.ble pc 74) (cond (Nat.beq pc 74) (some (.istore 4, 76, 4, 0)) none) (cond (Nat.beq pc 76) (some (.iload 4, 78, 4, 0)) none)) (cond (Nat.ble pc 78) (cond (Nat.beq pc 78) (some (.ifCond .eq 11, 81, 89, 0)) none) (cond (Nat.beq pc 81) (some (.aload_n 0, 82, 0, 0)) none))) (cond (Nat.ble pc 83) (cond (Nat.ble pc 82) (cond (Nat.beq pc 82) (some (.iload_n 1, 83, 1, 0)) none) (cond (Nat.beq pc 83) (some (.iload_n 2, 84, 2, 0)) none)) (cond (Nat.ble pc 84) (cond (Nat.beq pc 84) (some (.iconst 1, 85, 0, nI 1)) none) (cond (Nat.ble pc 85) (cond (Nat.beq pc 85) (some (.isub, 86, 0, 0)) none) (cond (Nat.beq pc 86) (some (.invokevirtual 70, 89, 0, 0)) none)))))) (cond (Nat.ble pc 103) (cond (Nat.ble pc 96) (cond (Nat.ble pc 90) (cond (Nat.ble pc 89) (cond (Nat.beq pc 89) (some (.aload_n 0, 90, 0, 0)) none) (cond (Nat.beq pc 90) (some (.getfield 39, 93, 0, 0)) none)) (cond (Nat.ble pc 93) (cond (Nat.beq pc 93) (some (.ifCond .le 5, 96, 98, 0)) none) (cond (Nat.beq pc 96) (some (.iconst 0, 97, 0, nI 0)) none))) (cond (Nat.ble pc 98) (cond (Nat.ble pc 97) (cond (Nat.beq pc 97) (some (.ireturn, 98, 0, 0)) none) (cond (Nat.beq pc 98) (some (.iload_n 3, 99, 3, 0)) none)) (cond (Nat.ble pc 99) (cond (Nat.beq pc 99) (some (.ifCond .ne 8, 102, 107, 0)) none) (cond (Nat.ble pc 102) (cond (Nat.beq pc 102) (some (.iload_n 2, 103, 2, 0)) none) (cond (Nat.beq pc 103) (some (.iload_n 1, 104, 1, 0)) none))))) (cond (Nat.ble pc 110) (cond (Nat.ble pc 107) (cond (Nat.ble pc 104) (cond (Nat.beq pc 104) (some (.if_icmp .ne 9, 107, 113, 0)) none) (cond (Nat.beq pc 107) (some (.iload_n 1, 108, 1, 0)) none)) (cond (Nat.ble pc 108) (cond (Nat.beq pc 108) (some (.iconst 1, 109, 0, nI 1)) none) (cond (Nat.ble pc 109) (cond (Nat.beq pc 109) (some (.iadd, 110, 0, 0)) none) (cond (Nat.beq pc 110) (some (.goto 4, 113, 114, 0)) none)))) (cond (Nat.ble pc 114) (cond (Nat.ble pc 113) (cond (Nat.beq pc 113) (some (.iload_n 2, 114, 2, 0)) none) (cond (Nat.beq pc 114) (some (.istore_n 1, 115, 1, 0)) none)) (cond (Nat.ble pc 115) (cond (Nat.beq pc 115) (some (.goto (-113), 118, 2, 0)) none) (cond (Nat.ble pc 118) (cond (Nat.beq pc 118) (some (.iconst 1, 119, 0, nI 1)) none) (cond (Nat.beq pc 119) (some (.ireturn, 120, 0, 0)) none)))))))
set_option maxRecDepth 100000 in
theorem k_M_clean : (List.range 120).all (fun pc => match f_M_clean pc with | none => true | some q => chk b_M_clean 5 pc q) = true := by decide +kernel
abbrev b_M_recover : ByteArray := prog_4_method_28_code
def y_M_recover : MethodName := ⟨"RootedWordsModel", "recover", "()I"⟩
def f_M_recover : Nat → Option TE := fun pc => cond (Nat.ble pc 51) (cond (Nat.ble pc 26) (cond (Nat.ble pc 12) (cond (Nat.ble pc 2) (cond (Nat.ble pc 0) (cond (Nat.beq pc 0) (some (.aload_n 0, 1, 0, 0)) none) (cond (Nat.ble pc 1) (cond (Nat.beq pc 1) (some (.iconst 0, 2, 0, nI 0)) none) (cond (Nat.beq pc 2) (some (.putfield 39, 5, 0, 0)) none))) (cond (Nat.ble pc 6) (cond (Nat.ble pc 5) (cond (Nat.beq pc 5) (some (.aload_n 0, 6, 0, 0)) none) (cond (Nat.beq pc 6) (some (.getfield 45, 9, 0, 0)) none)) (cond (Nat.ble pc 9) (cond (Nat.beq pc 9) (some (.ifCond .ne 5, 12, 14, 0)) none) (cond (Nat.beq pc 12) (some (.iconst (-1), 13, 0, -1)) none)))) (cond (Nat.ble pc 18) (cond (Nat.ble pc 14) (cond (Nat.ble pc 13) (cond (Nat.beq pc 13) (some (.ireturn, 14, 0, 0)) none) (cond (Nat.beq pc 14) (some (.aload_n 0, 15, 0, 0)) none)) (cond (Nat.ble pc 15) (cond (Nat.beq pc 15) (some (.getfield 53, 18, 0, 0)) none) (cond (Nat.beq pc 18) (some (.ifCond .le 23, 21, 41, 0)) none))) (cond (Nat.ble pc 22) (cond (Nat.ble pc 21) (cond (Nat.beq pc 21) (some (.aload_n 0, 22, 0, 0)) none) (cond (Nat.beq pc 22) (some (.aload_n 0, 23, 0, 0)) none)) (cond (Nat.ble pc 23) (cond (Nat.beq pc 23) (some (.getfield 53, 26, 0, 0)) none) (cond (Nat.beq pc 26) (some (.iconst 1, 27, 0, nI 1)) none))))) (cond (Nat.ble pc 39) (cond (Nat.ble pc 31) (cond (Nat.ble pc 27) (cond (Nat.beq pc 27) (some (.iadd, 28, 0, 0)) none) (cond (Nat.ble pc 28) (cond (Nat.beq pc 28) (some (.invokevirtual 49, 31, 0, 0)) none) (cond (Nat.beq pc 31) (some (.ifCond .lt 10, 34, 41, 0)) none))) (cond (Nat.ble pc 35) (cond (Nat.ble pc 34) (cond (Nat.beq pc 34) (some (.aload_n 0, 35, 0, 0)) none) (cond (Nat.beq pc 35) (some (.iconst 1, 36, 0, nI 1)) none)) (cond (Nat.ble pc 36) (cond (Nat.beq pc 36) (some (.putfield 39, 39, 0, 0)) none) (cond (Nat.beq pc 39) (some (.iconst 0, 40, 0, nI 0)) none)))) (cond (Nat.ble pc 43) (cond (Nat.ble pc 41) (cond (Nat.ble pc 40) (cond (Nat.beq pc 40) (some (.ireturn, 41, 0, 0)) none) (cond (Nat.beq pc 41) (some (.aload_n 0, 42, 0, 0)) none)) (cond (Nat.ble pc 42) (cond (Nat.beq pc 42) (some (.iconst 0, 43, 0, nI 0)) none) (cond (Nat.beq pc 43) (some (.putfield 53, 46, 0, 0)) none))) (cond (Nat.ble pc 47) (cond (Nat.ble pc 46) (cond (Nat.beq pc 46) (some (.aload_n 0, 47, 0, 0)) none) (cond (Nat.beq pc 47) (some (.invokevirtual 91, 50, 0, 0)) none)) (cond (Nat.ble pc 50) (cond (Nat.beq pc 50) (some (.pop, 51, 0, 0)) none) (cond (Nat.beq pc 51) (some (.aload_n 0, 52, 0, 0)) none)))))) (cond (Nat.ble pc 74) (cond (Nat.ble pc 62) (cond (Nat.ble pc 58) (cond (Nat.ble pc 52) (cond (Nat.beq pc 52) (some (.invokevirtual 94, 55, 0, 0)) none) (cond (Nat.ble pc 55) (cond (Nat.beq pc 55) (some (.ifCond .ne 5, 58, 60, 0)) none) (cond (Nat.beq pc 58) (some (.iconst 0, 59, 0, nI 0)) none))) (cond (Nat.ble pc 60) (cond (Nat.ble pc 59) (cond (Nat.beq pc 59) (some (.ireturn, 60, 0, 0)) none) (cond (Nat.beq pc 60) (some (.aload_n 0, 61, 0, 0)) none)) (cond (Nat.ble pc 61) (cond (Nat.beq pc 61) (some (.iconst 0, 62, 0, nI 0)) none) (cond (Nat.beq pc 62) (some (.putfield 45, 65, 0, 0)) none)))) (cond (Nat.ble pc 68) (cond (Nat.ble pc 66) (cond (Nat.ble pc 65) (cond (Nat.beq pc 65) (some (.iconst 0, 66, 0, nI 0)) none) (cond (Nat.beq pc 66) (some (.istore_n 1, 67, 1, 0)) none)) (cond (Nat.ble pc 67) (cond (Nat.beq pc 67) (some (.iconst 0, 68, 0, nI 0)) none) (cond (Nat.beq pc 68) (some (.istore_n 2, 69, 2, 0)) none))) (cond (Nat.ble pc 70) (cond (Nat.ble pc 69) (cond (Nat.beq pc 69) (some (.iload_n 2, 70, 2, 0)) none) (cond (Nat.beq pc 70) (some (.aload_n 0, 71, 0, 0)) none)) (cond (Nat.ble pc 71) (cond (Nat.beq pc 71) (some (.getfield 7, 74, 0, 0)) none) (cond (Nat.beq pc 74) (some (.if_icmp .ge 26, 77, 100, 0)) none))))) (cond (Nat.ble pc 87) (cond (Nat.ble pc 81) (cond (Nat.ble pc 77) (cond (Nat.beq pc 77) (some (.aload_n 0, 78, 0, 0)) none) (cond (Nat.ble pc 78) (cond (Nat.beq pc 78) (some (.getfield 20, 81, 0, 0)) none) (cond (Nat.beq pc 81) (some (.iload_n 2, 82, 2, 0)) none))) (cond (Nat.ble pc 83) (cond (Nat.ble pc 82) (cond (Nat.beq pc 82) (some (.baload, 83, 0, 0)) none) (cond (Nat.beq pc 83) (some (.ifCond .eq 9, 86, 92, 0)) none)) (cond (Nat.ble pc 86) (cond (Nat.beq pc 86) (some (.iload_n 1, 87, 1, 0)) none) (cond (Nat.beq pc 87) (some (.iconst 1, 88, 0, nI 1)) none)))) (cond (Nat.ble pc 93) (cond (Nat.ble pc 89) (cond (Nat.ble pc 88) (cond (Nat.beq pc 88) (some (.iadd, 89, 0, 0)) none) (cond (Nat.beq pc 89) (some (.goto 4, 92, 93, 0)) none)) (cond (Nat.ble pc 92) (cond (Nat.beq pc 92) (some (.iload_n 1, 93, 1, 0)) none) (cond (Nat.beq pc 93) (some (.istore_n 1, 94, 1, 0)) none))) (cond (Nat.ble pc 97) (cond (Nat.ble pc 94) (cond (Nat.beq pc 94) (some (.iinc 2 1, 97, 2, nI 1)) none) (cond (Nat.beq pc 97) (some (.goto (-28), 100, 69, 0)) none)) (cond (Nat.ble pc 100) (cond (Nat.beq pc 100) (some (.iload_n 1, 101, 1, 0)) none) (cond (Nat.beq pc 101) (some (.ireturn, 102, 0, 0)) none))))))
set_option maxRecDepth 100000 in
theorem k_M_recover : (List.range 102).all (fun pc => match f_M_recover pc with | none => true | some q => chk b_M_recover 3 pc q) = true := by decide +kernel
abbrev b_M_writes : ByteArray := prog_4_method_29_code
def y_M_writes : MethodName := ⟨"RootedWordsModel", "writes", "()I"⟩
def f_M_writes : Nat → Option TE := fun pc => cond (Nat.ble pc 2) (cond (Nat.ble pc 0) (cond (Nat.beq pc 0) (some (.aload_n 0, 1, 0, 0)) none) (cond (Nat.ble pc 1) (cond (Nat.beq pc 1) (some (.iconst 0, 2, 0, nI 0)) none) (cond (Nat.beq pc 2) (some (.putfield 39, 5, 0, 0)) none))) (cond (Nat.ble pc 5) (cond (Nat.beq pc 5) (some (.aload_n 0, 6, 0, 0)) none) (cond (Nat.ble pc 6) (cond (Nat.beq pc 6) (some (.getfield 42, 9, 0, 0)) none) (cond (Nat.beq pc 9) (some (.ireturn, 10, 0, 0)) none)))
set_option maxRecDepth 100000 in
theorem k_M_writes : (List.range 10).all (fun pc => match f_M_writes pc with | none => true | some q => chk b_M_writes 1 pc q) = true := by decide +kernel
abbrev b_M_down : ByteArray := prog_4_method_30_code
def y_M_down : MethodName := ⟨"RootedWordsModel", "down", "()Z"⟩
def f_M_down : Nat → Option TE := fun pc => cond (Nat.ble pc 2) (cond (Nat.ble pc 0) (cond (Nat.beq pc 0) (some (.aload_n 0, 1, 0, 0)) none) (cond (Nat.ble pc 1) (cond (Nat.beq pc 1) (some (.iconst 0, 2, 0, nI 0)) none) (cond (Nat.beq pc 2) (some (.putfield 39, 5, 0, 0)) none))) (cond (Nat.ble pc 5) (cond (Nat.beq pc 5) (some (.aload_n 0, 6, 0, 0)) none) (cond (Nat.ble pc 6) (cond (Nat.beq pc 6) (some (.getfield 45, 9, 0, 0)) none) (cond (Nat.beq pc 9) (some (.ireturn, 10, 0, 0)) none)))
set_option maxRecDepth 100000 in
theorem k_M_down : (List.range 10).all (fun pc => match f_M_down pc with | none => true | some q => chk b_M_down 1 pc q) = true := by decide +kernel
abbrev b_D_word : ByteArray := prog_2_method_2_code
def y_D_word : MethodName := ⟨"RootedWords$Disk", "word", "(I)I"⟩
def f_D_word : Nat → Option TE := fun pc => cond (Nat.ble pc 1) (cond (Nat.ble pc 0) (cond (Nat.beq pc 0) (some (.aload_n 0, 1, 0, 0)) none) (cond (Nat.beq pc 1) (some (.getfield 11, 4, 0, 0)) none)) (cond (Nat.ble pc 4) (cond (Nat.beq pc 4) (some (.iload_n 1, 5, 1, 0)) none) (cond (Nat.ble pc 5) (cond (Nat.beq pc 5) (some (.iaload, 6, 0, 0)) none) (cond (Nat.beq pc 6) (some (.ireturn, 7, 0, 0)) none)))
set_option maxRecDepth 100000 in
theorem k_D_word : (List.range 7).all (fun pc => match f_D_word pc with | none => true | some q => chk b_D_word 2 pc q) = true := by decide +kernel
abbrev b_D_preset : ByteArray := prog_2_method_3_code
def y_D_preset : MethodName := ⟨"RootedWords$Disk", "preset", "(II)V"⟩
def f_D_preset : Nat → Option TE := fun pc => cond (Nat.ble pc 4) (cond (Nat.ble pc 0) (cond (Nat.beq pc 0) (some (.aload_n 0, 1, 0, 0)) none) (cond (Nat.ble pc 1) (cond (Nat.beq pc 1) (some (.getfield 11, 4, 0, 0)) none) (cond (Nat.beq pc 4) (some (.iload_n 1, 5, 1, 0)) none))) (cond (Nat.ble pc 5) (cond (Nat.beq pc 5) (some (.iload_n 2, 6, 2, 0)) none) (cond (Nat.ble pc 6) (cond (Nat.beq pc 6) (some (.iastore, 7, 0, 0)) none) (cond (Nat.beq pc 7) (some (.return_, 8, 0, 0)) none)))
set_option maxRecDepth 100000 in
theorem k_D_preset : (List.range 8).all (fun pc => match f_D_preset pc with | none => true | some q => chk b_D_preset 3 pc q) = true := by decide +kernel
abbrev b_D_failAfter : ByteArray := prog_2_method_4_code
def y_D_failAfter : MethodName := ⟨"RootedWords$Disk", "failAfter", "(I)V"⟩
def f_D_failAfter : Nat → Option TE := fun pc => cond (Nat.ble pc 1) (cond (Nat.ble pc 0) (cond (Nat.beq pc 0) (some (.aload_n 0, 1, 0, 0)) none) (cond (Nat.beq pc 1) (some (.iload_n 1, 2, 1, 0)) none)) (cond (Nat.ble pc 2) (cond (Nat.beq pc 2) (some (.putfield 22, 5, 0, 0)) none) (cond (Nat.beq pc 5) (some (.return_, 6, 0, 0)) none))
set_option maxRecDepth 100000 in
theorem k_D_failAfter : (List.range 6).all (fun pc => match f_D_failAfter pc with | none => true | some q => chk b_D_failAfter 2 pc q) = true := by decide +kernel
abbrev b_D_writeCount : ByteArray := prog_2_method_5_code
def y_D_writeCount : MethodName := ⟨"RootedWords$Disk", "writeCount", "()I"⟩
def f_D_writeCount : Nat → Option TE := fun pc => cond (Nat.ble pc 0) (cond (Nat.beq pc 0) (some (.aload_n 0, 1, 0, 0)) none) (cond (Nat.ble pc 1) (cond (Nat.beq pc 1) (some (.getfield 18, 4, 0, 0)) none) (cond (Nat.beq pc 4) (some (.ireturn, 5, 0, 0)) none))
set_option maxRecDepth 100000 in
theorem k_D_writeCount : (List.range 5).all (fun pc => match f_D_writeCount pc with | none => true | some q => chk b_D_writeCount 1 pc q) = true := by decide +kernel
abbrev b_D_isDown : ByteArray := prog_2_method_6_code
def y_D_isDown : MethodName := ⟨"RootedWords$Disk", "isDown", "()Z"⟩
def f_D_isDown : Nat → Option TE := fun pc => cond (Nat.ble pc 0) (cond (Nat.beq pc 0) (some (.aload_n 0, 1, 0, 0)) none) (cond (Nat.ble pc 1) (cond (Nat.beq pc 1) (some (.getfield 25, 4, 0, 0)) none) (cond (Nat.beq pc 4) (some (.ireturn, 5, 0, 0)) none))
set_option maxRecDepth 100000 in
theorem k_D_isDown : (List.range 5).all (fun pc => match f_D_isDown pc with | none => true | some q => chk b_D_isDown 1 pc q) = true := by decide +kernel
abbrev b_D_goUp : ByteArray := prog_2_method_7_code
def y_D_goUp : MethodName := ⟨"RootedWords$Disk", "goUp", "()V"⟩
def f_D_goUp : Nat → Option TE := fun pc => cond (Nat.ble pc 1) (cond (Nat.ble pc 0) (cond (Nat.beq pc 0) (some (.aload_n 0, 1, 0, 0)) none) (cond (Nat.beq pc 1) (some (.iconst 0, 2, 0, nI 0)) none)) (cond (Nat.ble pc 2) (cond (Nat.beq pc 2) (some (.putfield 25, 5, 0, 0)) none) (cond (Nat.beq pc 5) (some (.return_, 6, 0, 0)) none))
set_option maxRecDepth 100000 in
theorem k_D_goUp : (List.range 6).all (fun pc => match f_D_goUp pc with | none => true | some q => chk b_D_goUp 1 pc q) = true := by decide +kernel
abbrev b_D_isPending : ByteArray := prog_2_method_8_code
def y_D_isPending : MethodName := ⟨"RootedWords$Disk", "isPending", "()Z"⟩
def f_D_isPending : Nat → Option TE := fun pc => cond (Nat.ble pc 7) (cond (Nat.ble pc 1) (cond (Nat.ble pc 0) (cond (Nat.beq pc 0) (some (.aload_n 0, 1, 0, 0)) none) (cond (Nat.beq pc 1) (some (.getfield 11, 4, 0, 0)) none)) (cond (Nat.ble pc 4) (cond (Nat.beq pc 4) (some (.sipush 265, 7, 0, nI 265)) none) (cond (Nat.beq pc 7) (some (.iaload, 8, 0, 0)) none))) (cond (Nat.ble pc 11) (cond (Nat.ble pc 8) (cond (Nat.beq pc 8) (some (.ifCond .eq 7, 11, 15, 0)) none) (cond (Nat.beq pc 11) (some (.iconst 1, 12, 0, nI 1)) none)) (cond (Nat.ble pc 12) (cond (Nat.beq pc 12) (some (.goto 4, 15, 16, 0)) none) (cond (Nat.ble pc 15) (cond (Nat.beq pc 15) (some (.iconst 0, 16, 0, nI 0)) none) (cond (Nat.beq pc 16) (some (.ireturn, 17, 0, 0)) none))))
set_option maxRecDepth 100000 in
theorem k_D_isPending : (List.range 17).all (fun pc => match f_D_isPending pc with | none => true | some q => chk b_D_isPending 1 pc q) = true := by decide +kernel
abbrev b_D_plan : ByteArray := prog_2_method_9_code
def y_D_plan : MethodName := ⟨"RootedWords$Disk", "plan", "(III)V"⟩
def f_D_plan : Nat → Option TE := fun pc => cond (Nat.ble pc 9) (cond (Nat.ble pc 5) (cond (Nat.ble pc 1) (cond (Nat.ble pc 0) (cond (Nat.beq pc 0) (some (.aload_n 0, 1, 0, 0)) none) (cond (Nat.beq pc 1) (some (.getfield 15, 4, 0, 0)) none)) (cond (Nat.ble pc 4) (cond (Nat.beq pc 4) (some (.iconst 2, 5, 0, nI 2)) none) (cond (Nat.beq pc 5) (some (.iload_n 1, 6, 1, 0)) none))) (cond (Nat.ble pc 7) (cond (Nat.ble pc 6) (cond (Nat.beq pc 6) (some (.imul, 7, 0, 0)) none) (cond (Nat.beq pc 7) (some (.iload_n 2, 8, 2, 0)) none)) (cond (Nat.ble pc 8) (cond (Nat.beq pc 8) (some (.iastore, 9, 0, 0)) none) (cond (Nat.beq pc 9) (some (.aload_n 0, 10, 0, 0)) none)))) (cond (Nat.ble pc 15) (cond (Nat.ble pc 13) (cond (Nat.ble pc 10) (cond (Nat.beq pc 10) (some (.getfield 15, 13, 0, 0)) none) (cond (Nat.beq pc 13) (some (.iconst 2, 14, 0, nI 2)) none)) (cond (Nat.ble pc 14) (cond (Nat.beq pc 14) (some (.iload_n 1, 15, 1, 0)) none) (cond (Nat.beq pc 15) (some (.imul, 16, 0, 0)) none))) (cond (Nat.ble pc 17) (cond (Nat.ble pc 16) (cond (Nat.beq pc 16) (some (.iconst 1, 17, 0, nI 1)) none) (cond (Nat.beq pc 17) (some (.iadd, 18, 0, 0)) none)) (cond (Nat.ble pc 18) (cond (Nat.beq pc 18) (some (.iload_n 3, 19, 3, 0)) none) (cond (Nat.ble pc 19) (cond (Nat.beq pc 19) (some (.iastore, 20, 0, 0)) none) (cond (Nat.beq pc 20) (some (.return_, 21, 0, 0)) none)))))
set_option maxRecDepth 100000 in
theorem k_D_plan : (List.range 21).all (fun pc => match f_D_plan pc with | none => true | some q => chk b_D_plan 4 pc q) = true := by decide +kernel
abbrev b_D_change : ByteArray := prog_2_method_10_code
def y_D_change : MethodName := ⟨"RootedWords$Disk", "change", "(I)V"⟩
def f_D_change : Nat → Option TE := fun pc => cond (Nat.ble pc 15) (cond (Nat.ble pc 5) (cond (Nat.ble pc 2) (cond (Nat.ble pc 0) (cond (Nat.beq pc 0) (some (.iconst 0, 1, 0, nI 0)) none) (cond (Nat.ble pc 1) (cond (Nat.beq pc 1) (some (.istore_n 2, 2, 2, 0)) none) (cond (Nat.beq pc 2) (some (.iload_n 2, 3, 2, 0)) none))) (cond (Nat.ble pc 3) (cond (Nat.beq pc 3) (some (.iconst 2, 4, 0, nI 2)) none) (cond (Nat.ble pc 4) (cond (Nat.beq pc 4) (some (.iload_n 1, 5, 1, 0)) none) (cond (Nat.beq pc 5) (some (.imul, 6, 0, 0)) none)))) (cond (Nat.ble pc 10) (cond (Nat.ble pc 6) (cond (Nat.beq pc 6) (some (.if_icmp .ge 24, 9, 30, 0)) none) (cond (Nat.ble pc 9) (cond (Nat.beq pc 9) (some (.aload_n 0, 10, 0, 0)) none) (cond (Nat.beq pc 10) (some (.sipush 266, 13, 0, nI 266)) none))) (cond (Nat.ble pc 13) (cond (Nat.beq pc 13) (some (.iload_n 2, 14, 2, 0)) none) (cond (Nat.ble pc 14) (cond (Nat.beq pc 14) (some (.iadd, 15, 0, 0)) none) (cond (Nat.beq pc 15) (some (.aload_n 0, 16, 0, 0)) none))))) (cond (Nat.ble pc 27) (cond (Nat.ble pc 20) (cond (Nat.ble pc 16) (cond (Nat.beq pc 16) (some (.getfield 15, 19, 0, 0)) none) (cond (Nat.ble pc 19) (cond (Nat.beq pc 19) (some (.iload_n 2, 20, 2, 0)) none) (cond (Nat.beq pc 20) (some (.iaload, 21, 0, 0)) none))) (cond (Nat.ble pc 21) (cond (Nat.beq pc 21) (some (.invokevirtual 29, 24, 0, 0)) none) (cond (Nat.ble pc 24) (cond (Nat.beq pc 24) (some (.iinc 2 1, 27, 2, nI 1)) none) (cond (Nat.beq pc 27) (some (.goto (-25), 30, 2, 0)) none)))) (cond (Nat.ble pc 34) (cond (Nat.ble pc 30) (cond (Nat.beq pc 30) (some (.aload_n 0, 31, 0, 0)) none) (cond (Nat.ble pc 31) (cond (Nat.beq pc 31) (some (.sipush 265, 34, 0, nI 265)) none) (cond (Nat.beq pc 34) (some (.iload_n 1, 35, 1, 0)) none))) (cond (Nat.ble pc 38) (cond (Nat.ble pc 35) (cond (Nat.beq pc 35) (some (.invokevirtual 29, 38, 0, 0)) none) (cond (Nat.beq pc 38) (some (.aload_n 0, 39, 0, 0)) none)) (cond (Nat.ble pc 39) (cond (Nat.beq pc 39) (some (.invokevirtual 33, 42, 0, 0)) none) (cond (Nat.beq pc 42) (some (.return_, 43, 0, 0)) none)))))
set_option maxRecDepth 100000 in
theorem k_D_change : (List.range 43).all (fun pc => match f_D_change pc with | none => true | some q => chk b_D_change 3 pc q) = true := by decide +kernel
abbrev b_D_finishChange : ByteArray := prog_2_method_11_code
def y_D_finishChange : MethodName := ⟨"RootedWords$Disk", "finishChange", "()V"⟩
def f_D_finishChange : Nat → Option TE := fun pc => cond (Nat.ble pc 27) (cond (Nat.ble pc 12) (cond (Nat.ble pc 7) (cond (Nat.ble pc 1) (cond (Nat.ble pc 0) (cond (Nat.beq pc 0) (some (.aload_n 0, 1, 0, 0)) none) (cond (Nat.beq pc 1) (some (.getfield 11, 4, 0, 0)) none)) (cond (Nat.ble pc 4) (cond (Nat.beq pc 4) (some (.sipush 265, 7, 0, nI 265)) none) (cond (Nat.beq pc 7) (some (.iaload, 8, 0, 0)) none))) (cond (Nat.ble pc 9) (cond (Nat.ble pc 8) (cond (Nat.beq pc 8) (some (.istore_n 1, 9, 1, 0)) none) (cond (Nat.beq pc 9) (some (.iconst 0, 10, 0, nI 0)) none)) (cond (Nat.ble pc 10) (cond (Nat.beq pc 10) (some (.istore_n 2, 11, 2, 0)) none) (cond (Nat.ble pc 11) (cond (Nat.beq pc 11) (some (.iload_n 2, 12, 2, 0)) none) (cond (Nat.beq pc 12) (some (.iload_n 1, 13, 1, 0)) none))))) (cond (Nat.ble pc 18) (cond (Nat.ble pc 16) (cond (Nat.ble pc 13) (cond (Nat.beq pc 13) (some (.if_icmp .ge 39, 16, 52, 0)) none) (cond (Nat.beq pc 16) (some (.aload_n 0, 17, 0, 0)) none)) (cond (Nat.ble pc 17) (cond (Nat.beq pc 17) (some (.aload_n 0, 18, 0, 0)) none) (cond (Nat.beq pc 18) (some (.getfield 11, 21, 0, 0)) none))) (cond (Nat.ble pc 24) (cond (Nat.ble pc 21) (cond (Nat.beq pc 21) (some (.sipush 266, 24, 0, nI 266)) none) (cond (Nat.beq pc 24) (some (.iconst 2, 25, 0, nI 2)) none)) (cond (Nat.ble pc 25) (cond (Nat.beq pc 25) (some (.iload_n 2, 26, 2, 0)) none) (cond (Nat.ble pc 26) (cond (Nat.beq pc 26) (some (.imul, 27, 0, 0)) none) (cond (Nat.beq pc 27) (some (.iadd, 28, 0, 0)) none)))))) (cond (Nat.ble pc 40) (cond (Nat.ble pc 33) (cond (Nat.ble pc 29) (cond (Nat.ble pc 28) (cond (Nat.beq pc 28) (some (.iaload, 29, 0, 0)) none) (cond (Nat.beq pc 29) (some (.aload_n 0, 30, 0, 0)) none)) (cond (Nat.ble pc 30) (cond (Nat.beq pc 30) (some (.getfield 11, 33, 0, 0)) none) (cond (Nat.beq pc 33) (some (.sipush 266, 36, 0, nI 266)) none))) (cond (Nat.ble pc 37) (cond (Nat.ble pc 36) (cond (Nat.beq pc 36) (some (.iconst 2, 37, 0, nI 2)) none) (cond (Nat.beq pc 37) (some (.iload_n 2, 38, 2, 0)) none)) (cond (Nat.ble pc 38) (cond (Nat.beq pc 38) (some (.imul, 39, 0, 0)) none) (cond (Nat.ble pc 39) (cond (Nat.beq pc 39) (some (.iadd, 40, 0, 0)) none) (cond (Nat.beq pc 40) (some (.iconst 1, 41, 0, nI 1)) none))))) (cond (Nat.ble pc 49) (cond (Nat.ble pc 42) (cond (Nat.ble pc 41) (cond (Nat.beq pc 41) (some (.iadd, 42, 0, 0)) none) (cond (Nat.beq pc 42) (some (.iaload, 43, 0, 0)) none)) (cond (Nat.ble pc 43) (cond (Nat.beq pc 43) (some (.invokevirtual 29, 46, 0, 0)) none) (cond (Nat.ble pc 46) (cond (Nat.beq pc 46) (some (.iinc 2 1, 49, 2, nI 1)) none) (cond (Nat.beq pc 49) (some (.goto (-38), 52, 11, 0)) none)))) (cond (Nat.ble pc 53) (cond (Nat.ble pc 52) (cond (Nat.beq pc 52) (some (.aload_n 0, 53, 0, 0)) none) (cond (Nat.beq pc 53) (some (.sipush 265, 56, 0, nI 265)) none)) (cond (Nat.ble pc 56) (cond (Nat.beq pc 56) (some (.iconst 0, 57, 0, nI 0)) none) (cond (Nat.ble pc 57) (cond (Nat.beq pc 57) (some (.invokevirtual 29, 60, 0, 0)) none) (cond (Nat.beq pc 60) (some (.return_, 61, 0, 0)) none))))))
set_option maxRecDepth 100000 in
theorem k_D_finishChange : (List.range 61).all (fun pc => match f_D_finishChange pc with | none => true | some q => chk b_D_finishChange 3 pc q) = true := by decide +kernel
abbrev b_D_write : ByteArray := prog_2_method_12_code
def y_D_write : MethodName := ⟨"RootedWords$Disk", "write", "(II)V"⟩
def f_D_write : Nat → Option TE := fun pc => cond (Nat.ble pc 35) (cond (Nat.ble pc 12) (cond (Nat.ble pc 4) (cond (Nat.ble pc 0) (cond (Nat.beq pc 0) (some (.aload_n 0, 1, 0, 0)) none) (cond (Nat.ble pc 1) (cond (Nat.beq pc 1) (some (.getfield 22, 4, 0, 0)) none) (cond (Nat.beq pc 4) (some (.ifCond .ne 23, 7, 27, 0)) none))) (cond (Nat.ble pc 8) (cond (Nat.ble pc 7) (cond (Nat.beq pc 7) (some (.aload_n 0, 8, 0, 0)) none) (cond (Nat.beq pc 8) (some (.iconst (-1), 9, 0, -1)) none)) (cond (Nat.ble pc 9) (cond (Nat.beq pc 9) (some (.putfield 22, 12, 0, 0)) none) (cond (Nat.beq pc 12) (some (.aload_n 0, 13, 0, 0)) none)))) (cond (Nat.ble pc 27) (cond (Nat.ble pc 14) (cond (Nat.ble pc 13) (cond (Nat.beq pc 13) (some (.iconst 1, 14, 0, nI 1)) none) (cond (Nat.beq pc 14) (some (.putfield 25, 17, 0, 0)) none)) (cond (Nat.ble pc 17) (cond (Nat.beq pc 17) (some (.new 36, 20, 0, 0)) none) (cond (Nat.beq pc 27) (some (.aload_n 0, 28, 0, 0)) none))) (cond (Nat.ble pc 31) (cond (Nat.ble pc 28) (cond (Nat.beq pc 28) (some (.getfield 22, 31, 0, 0)) none) (cond (Nat.beq pc 31) (some (.ifCond .le 13, 34, 44, 0)) none)) (cond (Nat.ble pc 34) (cond (Nat.beq pc 34) (some (.aload_n 0, 35, 0, 0)) none) (cond (Nat.beq pc 35) (some (.dup, 36, 0, 0)) none))))) (cond (Nat.ble pc 49) (cond (Nat.ble pc 41) (cond (Nat.ble pc 39) (cond (Nat.ble pc 36) (cond (Nat.beq pc 36) (some (.getfield 22, 39, 0, 0)) none) (cond (Nat.beq pc 39) (some (.iconst 1, 40, 0, nI 1)) none)) (cond (Nat.ble pc 40) (cond (Nat.beq pc 40) (some (.isub, 41, 0, 0)) none) (cond (Nat.beq pc 41) (some (.putfield 22, 44, 0, 0)) none))) (cond (Nat.ble pc 45) (cond (Nat.ble pc 44) (cond (Nat.beq pc 44) (some (.aload_n 0, 45, 0, 0)) none) (cond (Nat.beq pc 45) (some (.getfield 11, 48, 0, 0)) none)) (cond (Nat.ble pc 48) (cond (Nat.beq pc 48) (some (.iload_n 1, 49, 1, 0)) none) (cond (Nat.beq pc 49) (some (.iload_n 2, 50, 2, 0)) none)))) (cond (Nat.ble pc 53) (cond (Nat.ble pc 51) (cond (Nat.ble pc 50) (cond (Nat.beq pc 50) (some (.iastore, 51, 0, 0)) none) (cond (Nat.beq pc 51) (some (.aload_n 0, 52, 0, 0)) none)) (cond (Nat.ble pc 52) (cond (Nat.beq pc 52) (some (.dup, 53, 0, 0)) none) (cond (Nat.beq pc 53) (some (.getfield 18, 56, 0, 0)) none))) (cond (Nat.ble pc 57) (cond (Nat.ble pc 56) (cond (Nat.beq pc 56) (some (.iconst 1, 57, 0, nI 1)) none) (cond (Nat.beq pc 57) (some (.iadd, 58, 0, 0)) none)) (cond (Nat.ble pc 58) (cond (Nat.beq pc 58) (some (.putfield 18, 61, 0, 0)) none) (cond (Nat.beq pc 61) (some (.return_, 62, 0, 0)) none)))))
set_option maxRecDepth 100000 in
theorem k_D_write : (List.range 62).all (fun pc => match f_D_write pc with | none => true | some q => chk b_D_write 3 pc q) = true := by decide +kernel
end
section
/-! words of the tables by their places: printed by a program, checked by the kernel -/
theorem vv_X_take : Jvm.Cond.instanceMethod y_X_take ∈ gtbl ∧ Jvm.Cond.selects (y_X_take).cls y_X_take y_X_take ∈ gtbl ∧ Jvm.Cond.initialized (y_X_take).cls ∈ gtbl ∧ Jvm.Cond.code y_X_take b_X_take 7 (some .int) ∈ gtbl := ⟨gw 130 (by decide +kernel) rfl, gw 131 (by decide +kernel) rfl, gw 36 (by decide +kernel) rfl, gw 132 (by decide +kernel) rfl⟩
theorem vv_X_give : Jvm.Cond.instanceMethod y_X_give ∈ gtbl ∧ Jvm.Cond.selects (y_X_give).cls y_X_give y_X_give ∈ gtbl ∧ Jvm.Cond.initialized (y_X_give).cls ∈ gtbl ∧ Jvm.Cond.code y_X_give b_X_give 4 (some .int) ∈ gtbl := ⟨gw 304 (by decide +kernel) rfl, gw 305 (by decide +kernel) rfl, gw 36 (by decide +kernel) rfl, gw 306 (by decide +kernel) rfl⟩
theorem vv_X_store : Jvm.Cond.instanceMethod y_X_store ∈ gtbl ∧ Jvm.Cond.selects (y_X_store).cls y_X_store y_X_store ∈ gtbl ∧ Jvm.Cond.initialized (y_X_store).cls ∈ gtbl ∧ Jvm.Cond.code y_X_store b_X_store 5 (some .int) ∈ gtbl := ⟨gw 340 (by decide +kernel) rfl, gw 341 (by decide +kernel) rfl, gw 36 (by decide +kernel) rfl, gw 342 (by decide +kernel) rfl⟩
theorem vv_X_load : Jvm.Cond.instanceMethod y_X_load ∈ gtbl ∧ Jvm.Cond.selects (y_X_load).cls y_X_load y_X_load ∈ gtbl ∧ Jvm.Cond.initialized (y_X_load).cls ∈ gtbl ∧ Jvm.Cond.code y_X_load b_X_load 3 (some .int) ∈ gtbl := ⟨gw 376 (by decide +kernel) rfl, gw 377 (by decide +kernel) rfl, gw 36 (by decide +kernel) rfl, gw 378 (by decide +kernel) rfl⟩
theorem vv_X_size : Jvm.Cond.instanceMethod y_X_size ∈ gtbl ∧ Jvm.Cond.selects (y_X_size).cls y_X_size y_X_size ∈ gtbl ∧ Jvm.Cond.initialized (y_X_size).cls ∈ gtbl ∧ Jvm.Cond.code y_X_size b_X_size 3 (some .int) ∈ gtbl := ⟨gw 383 (by decide +kernel) rfl, gw 384 (by decide +kernel) rfl, gw 36 (by decide +kernel) rfl, gw 385 (by decide +kernel) rfl⟩
theorem vv_X_setRoot : Jvm.Cond.instanceMethod y_X_setRoot ∈ gtbl ∧ Jvm.Cond.selects (y_X_setRoot).cls y_X_setRoot y_X_setRoot ∈ gtbl ∧ Jvm.Cond.initialized (y_X_setRoot).cls ∈ gtbl ∧ Jvm.Cond.code y_X_setRoot b_X_setRoot 4 (some .int) ∈ gtbl := ⟨gw 390 (by decide +kernel) rfl, gw 391 (by decide +kernel) rfl, gw 36 (by decide +kernel) rfl, gw 392 (by decide +kernel) rfl⟩
theorem vv_X_root : Jvm.Cond.instanceMethod y_X_root ∈ gtbl ∧ Jvm.Cond.selects (y_X_root).cls y_X_root y_X_root ∈ gtbl ∧ Jvm.Cond.initialized (y_X_root).cls ∈ gtbl ∧ Jvm.Cond.code y_X_root b_X_root 2 (some .int) ∈ gtbl := ⟨gw 406 (by decide +kernel) rfl, gw 407 (by decide +kernel) rfl, gw 36 (by decide +kernel) rfl, gw 408 (by decide +kernel) rfl⟩
theorem vv_X_freeWords : Jvm.Cond.instanceMethod y_X_freeWords ∈ gtbl ∧ Jvm.Cond.selects (y_X_freeWords).cls y_X_freeWords y_X_freeWords ∈ gtbl ∧ Jvm.Cond.initialized (y_X_freeWords).cls ∈ gtbl ∧ Jvm.Cond.code y_X_freeWords b_X_freeWords 4 (some .int) ∈ gtbl := ⟨gw 413 (by decide +kernel) rfl, gw 414 (by decide +kernel) rfl, gw 36 (by decide +kernel) rfl, gw 415 (by decide +kernel) rfl⟩
theorem vv_X_largestFree : Jvm.Cond.instanceMethod y_X_largestFree ∈ gtbl ∧ Jvm.Cond.selects (y_X_largestFree).cls y_X_largestFree y_X_largestFree ∈ gtbl ∧ Jvm.Cond.initialized (y_X_largestFree).cls ∈ gtbl ∧ Jvm.Cond.code y_X_largestFree b_X_largestFree 4 (some .int) ∈ gtbl := ⟨gw 420 (by decide +kernel) rfl, gw 421 (by decide +kernel) rfl, gw 36 (by decide +kernel) rfl, gw 422 (by decide +kernel) rfl⟩
theorem vv_X_extent : Jvm.Cond.instanceMethod y_X_extent ∈ gtbl ∧ Jvm.Cond.selects (y_X_extent).cls y_X_extent y_X_extent ∈ gtbl ∧ Jvm.Cond.initialized (y_X_extent).cls ∈ gtbl ∧ Jvm.Cond.code y_X_extent b_X_extent 3 (some .int) ∈ gtbl := ⟨gw 427 (by decide +kernel) rfl, gw 428 (by decide +kernel) rfl, gw 36 (by decide +kernel) rfl, gw 429 (by decide +kernel) rfl⟩
theorem vv_X_reached : Jvm.Cond.instanceMethod y_X_reached ∈ gtbl ∧ Jvm.Cond.selects (y_X_reached).cls y_X_reached y_X_reached ∈ gtbl ∧ Jvm.Cond.initialized (y_X_reached).cls ∈ gtbl ∧ Jvm.Cond.code y_X_reached b_X_reached 1 (some .int) ∈ gtbl := ⟨gw 435 (by decide +kernel) rfl, gw 436 (by decide +kernel) rfl, gw 36 (by decide +kernel) rfl, gw 437 (by decide +kernel) rfl⟩
theorem vv_X_order : Jvm.Cond.instanceMethod y_X_order ∈ gtbl ∧ Jvm.Cond.selects (y_X_order).cls y_X_order y_X_order ∈ gtbl ∧ Jvm.Cond.initialized (y_X_order).cls ∈ gtbl ∧ Jvm.Cond.code y_X_order b_X_order 2 (some .boolean) ∈ gtbl := ⟨gw 100 (by decide +kernel) rfl, gw 101 (by decide +kernel) rfl, gw 36 (by decide +kernel) rfl, gw 102 (by decide +kernel) rfl⟩
theorem vv_X_recover : Jvm.Cond.instanceMethod y_X_recover ∈ gtbl ∧ Jvm.Cond.selects (y_X_recover).cls y_X_recover y_X_recover ∈ gtbl ∧ Jvm.Cond.initialized (y_X_recover).cls ∈ gtbl ∧ Jvm.Cond.code y_X_recover b_X_recover 2 (some .int) ∈ gtbl := ⟨gw 454 (by decide +kernel) rfl, gw 455 (by decide +kernel) rfl, gw 36 (by decide +kernel) rfl, gw 456 (by decide +kernel) rfl⟩
theorem vv_X_writes : Jvm.Cond.instanceMethod y_X_writes ∈ gtbl ∧ Jvm.Cond.selects (y_X_writes).cls y_X_writes y_X_writes ∈ gtbl ∧ Jvm.Cond.initialized (y_X_writes).cls ∈ gtbl ∧ Jvm.Cond.code y_X_writes b_X_writes 1 (some .int) ∈ gtbl := ⟨gw 108 (by decide +kernel) rfl, gw 109 (by decide +kernel) rfl, gw 36 (by decide +kernel) rfl, gw 110 (by decide +kernel) rfl⟩
theorem vv_X_down : Jvm.Cond.instanceMethod y_X_down ∈ gtbl ∧ Jvm.Cond.selects (y_X_down).cls y_X_down y_X_down ∈ gtbl ∧ Jvm.Cond.initialized (y_X_down).cls ∈ gtbl ∧ Jvm.Cond.code y_X_down b_X_down 1 (some .boolean) ∈ gtbl := ⟨gw 116 (by decide +kernel) rfl, gw 117 (by decide +kernel) rfl, gw 36 (by decide +kernel) rfl, gw 118 (by decide +kernel) rfl⟩
theorem vv_X_refuseWhenDown : Jvm.Cond.instanceMethod y_X_refuseWhenDown ∈ gtbl ∧ Jvm.Cond.selects (y_X_refuseWhenDown).cls y_X_refuseWhenDown y_X_refuseWhenDown ∈ gtbl ∧ Jvm.Cond.initialized (y_X_refuseWhenDown).cls ∈ gtbl ∧ Jvm.Cond.code y_X_refuseWhenDown b_X_refuseWhenDown 1 (none) ∈ gtbl := ⟨gw 135 (by decide +kernel) rfl, gw 0 (by decide +kernel) rfl, gw 36 (by decide +kernel) rfl, gw 136 (by decide +kernel) rfl⟩
theorem vv_X_refuseUnlessUsed : Jvm.Cond.instanceMethod y_X_refuseUnlessUsed ∈ gtbl ∧ Jvm.Cond.selects (y_X_refuseUnlessUsed).cls y_X_refuseUnlessUsed y_X_refuseUnlessUsed ∈ gtbl ∧ Jvm.Cond.initialized (y_X_refuseUnlessUsed).cls ∈ gtbl ∧ Jvm.Cond.code y_X_refuseUnlessUsed b_X_refuseUnlessUsed 2 (none) ∈ gtbl := ⟨gw 309 (by decide +kernel) rfl, gw 10 (by decide +kernel) rfl, gw 36 (by decide +kernel) rfl, gw 310 (by decide +kernel) rfl⟩
theorem vv_X_refuseUnlessWord : Jvm.Cond.instanceMethod y_X_refuseUnlessWord ∈ gtbl ∧ Jvm.Cond.selects (y_X_refuseUnlessWord).cls y_X_refuseUnlessWord y_X_refuseUnlessWord ∈ gtbl ∧ Jvm.Cond.initialized (y_X_refuseUnlessWord).cls ∈ gtbl ∧ Jvm.Cond.code y_X_refuseUnlessWord b_X_refuseUnlessWord 3 (none) ∈ gtbl := ⟨gw 345 (by decide +kernel) rfl, gw 13 (by decide +kernel) rfl, gw 36 (by decide +kernel) rfl, gw 346 (by decide +kernel) rfl⟩
theorem vv_X_refuseUnlessRoot : Jvm.Cond.instanceMethod y_X_refuseUnlessRoot ∈ gtbl ∧ Jvm.Cond.selects (y_X_refuseUnlessRoot).cls y_X_refuseUnlessRoot y_X_refuseUnlessRoot ∈ gtbl ∧ Jvm.Cond.initialized (y_X_refuseUnlessRoot).cls ∈ gtbl ∧ Jvm.Cond.code y_X_refuseUnlessRoot b_X_refuseUnlessRoot 2 (none) ∈ gtbl := ⟨gw 395 (by decide +kernel) rfl, gw 16 (by decide +kernel) rfl, gw 36 (by decide +kernel) rfl, gw 396 (by decide +kernel) rfl⟩
theorem vs_X_tag : Jvm.Cond.static y_X_tag ∈ gtbl ∧ Jvm.Cond.initialized (y_X_tag).cls ∈ gtbl ∧ Jvm.Cond.code y_X_tag b_X_tag 2 (some .int) ∈ gtbl := ⟨gw 80 (by decide +kernel) rfl, gw 36 (by decide +kernel) rfl, gw 81 (by decide +kernel) rfl⟩
theorem vv_X_lengthAt : Jvm.Cond.instanceMethod y_X_lengthAt ∈ gtbl ∧ Jvm.Cond.selects (y_X_lengthAt).cls y_X_lengthAt y_X_lengthAt ∈ gtbl ∧ Jvm.Cond.initialized (y_X_lengthAt).cls ∈ gtbl ∧ Jvm.Cond.code y_X_lengthAt b_X_lengthAt 2 (some .int) ∈ gtbl := ⟨gw 234 (by decide +kernel) rfl, gw 4 (by decide +kernel) rfl, gw 36 (by decide +kernel) rfl, gw 235 (by decide +kernel) rfl⟩
theorem vv_X_kindAt : Jvm.Cond.instanceMethod y_X_kindAt ∈ gtbl ∧ Jvm.Cond.selects (y_X_kindAt).cls y_X_kindAt y_X_kindAt ∈ gtbl ∧ Jvm.Cond.initialized (y_X_kindAt).cls ∈ gtbl ∧ Jvm.Cond.code y_X_kindAt b_X_kindAt 2 (some .int) ∈ gtbl := ⟨gw 249 (by decide +kernel) rfl, gw 6 (by decide +kernel) rfl, gw 36 (by decide +kernel) rfl, gw 250 (by decide +kernel) rfl⟩
theorem vv_X_isFreeAt : Jvm.Cond.instanceMethod y_X_isFreeAt ∈ gtbl ∧ Jvm.Cond.selects (y_X_isFreeAt).cls y_X_isFreeAt y_X_isFreeAt ∈ gtbl ∧ Jvm.Cond.initialized (y_X_isFreeAt).cls ∈ gtbl ∧ Jvm.Cond.code y_X_isFreeAt b_X_isFreeAt 2 (some .boolean) ∈ gtbl := ⟨gw 245 (by decide +kernel) rfl, gw 5 (by decide +kernel) rfl, gw 36 (by decide +kernel) rfl, gw 246 (by decide +kernel) rfl⟩
theorem vv_X_contentAt : Jvm.Cond.instanceMethod y_X_contentAt ∈ gtbl ∧ Jvm.Cond.selects (y_X_contentAt).cls y_X_contentAt y_X_contentAt ∈ gtbl ∧ Jvm.Cond.initialized (y_X_contentAt).cls ∈ gtbl ∧ Jvm.Cond.code y_X_contentAt b_X_contentAt 2 (some .int) ∈ gtbl := ⟨gw 253 (by decide +kernel) rfl, gw 7 (by decide +kernel) rfl, gw 36 (by decide +kernel) rfl, gw 254 (by decide +kernel) rfl⟩
theorem vv_X_pointersAt : Jvm.Cond.instanceMethod y_X_pointersAt ∈ gtbl ∧ Jvm.Cond.selects (y_X_pointersAt).cls y_X_pointersAt y_X_pointersAt ∈ gtbl ∧ Jvm.Cond.initialized (y_X_pointersAt).cls ∈ gtbl ∧ Jvm.Cond.code y_X_pointersAt b_X_pointersAt 2 (some .int) ∈ gtbl := ⟨gw 365 (by decide +kernel) rfl, gw 14 (by decide +kernel) rfl, gw 36 (by decide +kernel) rfl, gw 366 (by decide +kernel) rfl⟩
theorem vv_X_listExtents : Jvm.Cond.instanceMethod y_X_listExtents ∈ gtbl ∧ Jvm.Cond.selects (y_X_listExtents).cls y_X_listExtents y_X_listExtents ∈ gtbl ∧ Jvm.Cond.initialized (y_X_listExtents).cls ∈ gtbl ∧ Jvm.Cond.code y_X_listExtents b_X_listExtents 3 (some .int) ∈ gtbl := ⟨gw 230 (by decide +kernel) rfl, gw 3 (by decide +kernel) rfl, gw 36 (by decide +kernel) rfl, gw 231 (by decide +kernel) rfl⟩
theorem vv_X_isUsedAddress : Jvm.Cond.instanceMethod y_X_isUsedAddress ∈ gtbl ∧ Jvm.Cond.selects (y_X_isUsedAddress).cls y_X_isUsedAddress y_X_isUsedAddress ∈ gtbl ∧ Jvm.Cond.initialized (y_X_isUsedAddress).cls ∈ gtbl ∧ Jvm.Cond.code y_X_isUsedAddress b_X_isUsedAddress 4 (some .boolean) ∈ gtbl := ⟨gw 313 (by decide +kernel) rfl, gw 11 (by decide +kernel) rfl, gw 36 (by decide +kernel) rfl, gw 314 (by decide +kernel) rfl⟩
theorem vv_X_lowestFree : Jvm.Cond.instanceMethod y_X_lowestFree ∈ gtbl ∧ Jvm.Cond.selects (y_X_lowestFree).cls y_X_lowestFree y_X_lowestFree ∈ gtbl ∧ Jvm.Cond.initialized (y_X_lowestFree).cls ∈ gtbl ∧ Jvm.Cond.code y_X_lowestFree b_X_lowestFree 4 (some .int) ∈ gtbl := ⟨gw 226 (by decide +kernel) rfl, gw 2 (by decide +kernel) rfl, gw 36 (by decide +kernel) rfl, gw 227 (by decide +kernel) rfl⟩
theorem vv_X_usedRoot : Jvm.Cond.instanceMethod y_X_usedRoot ∈ gtbl ∧ Jvm.Cond.selects (y_X_usedRoot).cls y_X_usedRoot y_X_usedRoot ∈ gtbl ∧ Jvm.Cond.initialized (y_X_usedRoot).cls ∈ gtbl ∧ Jvm.Cond.code y_X_usedRoot b_X_usedRoot 3 (some .int) ∈ gtbl := ⟨gw 400 (by decide +kernel) rfl, gw 17 (by decide +kernel) rfl, gw 36 (by decide +kernel) rfl, gw 401 (by decide +kernel) rfl⟩
theorem vv_X_clearContent : Jvm.Cond.instanceMethod y_X_clearContent ∈ gtbl ∧ Jvm.Cond.selects (y_X_clearContent).cls y_X_clearContent y_X_clearContent ∈ gtbl ∧ Jvm.Cond.initialized (y_X_clearContent).cls ∈ gtbl ∧ Jvm.Cond.code y_X_clearContent b_X_clearContent 4 (none) ∈ gtbl := ⟨gw 273 (by decide +kernel) rfl, gw 8 (by decide +kernel) rfl, gw 36 (by decide +kernel) rfl, gw 274 (by decide +kernel) rfl⟩
theorem vv_X_planExtent : Jvm.Cond.instanceMethod y_X_planExtent ∈ gtbl ∧ Jvm.Cond.selects (y_X_planExtent).cls y_X_planExtent y_X_planExtent ∈ gtbl ∧ Jvm.Cond.initialized (y_X_planExtent).cls ∈ gtbl ∧ Jvm.Cond.code y_X_planExtent b_X_planExtent 5 (none) ∈ gtbl := ⟨gw 284 (by decide +kernel) rfl, gw 9 (by decide +kernel) rfl, gw 36 (by decide +kernel) rfl, gw 285 (by decide +kernel) rfl⟩
theorem vv_X_makeFree : Jvm.Cond.instanceMethod y_X_makeFree ∈ gtbl ∧ Jvm.Cond.selects (y_X_makeFree).cls y_X_makeFree y_X_makeFree ∈ gtbl ∧ Jvm.Cond.initialized (y_X_makeFree).cls ∈ gtbl ∧ Jvm.Cond.code y_X_makeFree b_X_makeFree 3 (none) ∈ gtbl := ⟨gw 333 (by decide +kernel) rfl, gw 12 (by decide +kernel) rfl, gw 36 (by decide +kernel) rfl, gw 334 (by decide +kernel) rfl⟩
theorem vv_X_changeWord : Jvm.Cond.instanceMethod y_X_changeWord ∈ gtbl ∧ Jvm.Cond.selects (y_X_changeWord).cls y_X_changeWord y_X_changeWord ∈ gtbl ∧ Jvm.Cond.initialized (y_X_changeWord).cls ∈ gtbl ∧ Jvm.Cond.code y_X_changeWord b_X_changeWord 3 (none) ∈ gtbl := ⟨gw 370 (by decide +kernel) rfl, gw 15 (by decide +kernel) rfl, gw 36 (by decide +kernel) rfl, gw 371 (by decide +kernel) rfl⟩
theorem vv_X_searchFromRoots : Jvm.Cond.instanceMethod y_X_searchFromRoots ∈ gtbl ∧ Jvm.Cond.selects (y_X_searchFromRoots).cls y_X_searchFromRoots y_X_searchFromRoots ∈ gtbl ∧ Jvm.Cond.initialized (y_X_searchFromRoots).cls ∈ gtbl ∧ Jvm.Cond.code y_X_searchFromRoots b_X_searchFromRoots 6 (some .int) ∈ gtbl := ⟨gw 440 (by decide +kernel) rfl, gw 18 (by decide +kernel) rfl, gw 36 (by decide +kernel) rfl, gw 441 (by decide +kernel) rfl⟩
theorem vv_X_markUsed : Jvm.Cond.instanceMethod y_X_markUsed ∈ gtbl ∧ Jvm.Cond.selects (y_X_markUsed).cls y_X_markUsed y_X_markUsed ∈ gtbl ∧ Jvm.Cond.initialized (y_X_markUsed).cls ∈ gtbl ∧ Jvm.Cond.code y_X_markUsed b_X_markUsed 3 (none) ∈ gtbl := ⟨gw 444 (by decide +kernel) rfl, gw 19 (by decide +kernel) rfl, gw 36 (by decide +kernel) rfl, gw 445 (by decide +kernel) rfl⟩
theorem vv_X_reach : Jvm.Cond.instanceMethod y_X_reach ∈ gtbl ∧ Jvm.Cond.selects (y_X_reach).cls y_X_reach y_X_reach ∈ gtbl ∧ Jvm.Cond.initialized (y_X_reach).cls ∈ gtbl ∧ Jvm.Cond.code y_X_reach b_X_reach 3 (some .int) ∈ gtbl := ⟨gw 448 (by decide +kernel) rfl, gw 20 (by decide +kernel) rfl, gw 36 (by decide +kernel) rfl, gw 449 (by decide +kernel) rfl⟩
theorem vv_X_freeUnreached : Jvm.Cond.instanceMethod y_X_freeUnreached ∈ gtbl ∧ Jvm.Cond.selects (y_X_freeUnreached).cls y_X_freeUnreached y_X_freeUnreached ∈ gtbl ∧ Jvm.Cond.initialized (y_X_freeUnreached).cls ∈ gtbl ∧ Jvm.Cond.code y_X_freeUnreached b_X_freeUnreached 4 (none) ∈ gtbl := ⟨gw 464 (by decide +kernel) rfl, gw 21 (by decide +kernel) rfl, gw 36 (by decide +kernel) rfl, gw 465 (by decide +kernel) rfl⟩
theorem vv_X_isReachedAt : Jvm.Cond.instanceMethod y_X_isReachedAt ∈ gtbl ∧ Jvm.Cond.selects (y_X_isReachedAt).cls y_X_isReachedAt y_X_isReachedAt ∈ gtbl ∧ Jvm.Cond.initialized (y_X_isReachedAt).cls ∈ gtbl ∧ Jvm.Cond.code y_X_isReachedAt b_X_isReachedAt 2 (some .boolean) ∈ gtbl := ⟨gw 468 (by decide +kernel) rfl, gw 22 (by decide +kernel) rfl, gw 36 (by decide +kernel) rfl, gw 469 (by decide +kernel) rfl⟩
theorem vv_M_thrown : Jvm.Cond.instanceMethod y_M_thrown ∈ gtbl ∧ Jvm.Cond.selects (y_M_thrown).cls y_M_thrown y_M_thrown ∈ gtbl ∧ Jvm.Cond.initialized (y_M_thrown).cls ∈ gtbl ∧ Jvm.Cond.code y_M_thrown b_M_thrown 1 (some .int) ∈ gtbl := ⟨gw 522 (by decide +kernel) rfl, gw 523 (by decide +kernel) rfl, gw 38 (by decide +kernel) rfl, gw 524 (by decide +kernel) rfl⟩
theorem vv_M_spend : Jvm.Cond.instanceMethod y_M_spend ∈ gtbl ∧ Jvm.Cond.selects (y_M_spend).cls y_M_spend y_M_spend ∈ gtbl ∧ Jvm.Cond.initialized (y_M_spend).cls ∈ gtbl ∧ Jvm.Cond.code y_M_spend b_M_spend 4 (some .int) ∈ gtbl := ⟨gw 531 (by decide +kernel) rfl, gw 23 (by decide +kernel) rfl, gw 38 (by decide +kernel) rfl, gw 532 (by decide +kernel) rfl⟩
theorem vv_M_change : Jvm.Cond.instanceMethod y_M_change ∈ gtbl ∧ Jvm.Cond.selects (y_M_change).cls y_M_change y_M_change ∈ gtbl ∧ Jvm.Cond.initialized (y_M_change).cls ∈ gtbl ∧ Jvm.Cond.code y_M_change b_M_change 3 (some .int) ∈ gtbl := ⟨gw 539 (by decide +kernel) rfl, gw 25 (by decide +kernel) rfl, gw 38 (by decide +kernel) rfl, gw 540 (by decide +kernel) rfl⟩
theorem vv_M_does : Jvm.Cond.instanceMethod y_M_does ∈ gtbl ∧ Jvm.Cond.selects (y_M_does).cls y_M_does y_M_does ∈ gtbl ∧ Jvm.Cond.initialized (y_M_does).cls ∈ gtbl ∧ Jvm.Cond.code y_M_does b_M_does 3 (some .boolean) ∈ gtbl := ⟨gw 535 (by decide +kernel) rfl, gw 24 (by decide +kernel) rfl, gw 38 (by decide +kernel) rfl, gw 536 (by decide +kernel) rfl⟩
theorem vv_M_at : Jvm.Cond.instanceMethod y_M_at ∈ gtbl ∧ Jvm.Cond.selects (y_M_at).cls y_M_at y_M_at ∈ gtbl ∧ Jvm.Cond.initialized (y_M_at).cls ∈ gtbl ∧ Jvm.Cond.code y_M_at b_M_at 4 (some .int) ∈ gtbl := ⟨gw 551 (by decide +kernel) rfl, gw 27 (by decide +kernel) rfl, gw 38 (by decide +kernel) rfl, gw 552 (by decide +kernel) rfl⟩
theorem vv_M_join : Jvm.Cond.instanceMethod y_M_join ∈ gtbl ∧ Jvm.Cond.selects (y_M_join).cls y_M_join y_M_join ∈ gtbl ∧ Jvm.Cond.initialized (y_M_join).cls ∈ gtbl ∧ Jvm.Cond.code y_M_join b_M_join 5 (none) ∈ gtbl := ⟨gw 555 (by decide +kernel) rfl, gw 28 (by decide +kernel) rfl, gw 38 (by decide +kernel) rfl, gw 556 (by decide +kernel) rfl⟩
theorem vv_M_cut : Jvm.Cond.instanceMethod y_M_cut ∈ gtbl ∧ Jvm.Cond.selects (y_M_cut).cls y_M_cut y_M_cut ∈ gtbl ∧ Jvm.Cond.initialized (y_M_cut).cls ∈ gtbl ∧ Jvm.Cond.code y_M_cut b_M_cut 4 (none) ∈ gtbl := ⟨gw 543 (by decide +kernel) rfl, gw 26 (by decide +kernel) rfl, gw 38 (by decide +kernel) rfl, gw 544 (by decide +kernel) rfl⟩
theorem vv_M_take : Jvm.Cond.instanceMethod y_M_take ∈ gtbl ∧ Jvm.Cond.selects (y_M_take).cls y_M_take y_M_take ∈ gtbl ∧ Jvm.Cond.initialized (y_M_take).cls ∈ gtbl ∧ Jvm.Cond.code y_M_take b_M_take 7 (some .int) ∈ gtbl := ⟨gw 526 (by decide +kernel) rfl, gw 527 (by decide +kernel) rfl, gw 38 (by decide +kernel) rfl, gw 528 (by decide +kernel) rfl⟩
theorem vv_M_give : Jvm.Cond.instanceMethod y_M_give ∈ gtbl ∧ Jvm.Cond.selects (y_M_give).cls y_M_give y_M_give ∈ gtbl ∧ Jvm.Cond.initialized (y_M_give).cls ∈ gtbl ∧ Jvm.Cond.code y_M_give b_M_give 6 (some .int) ∈ gtbl := ⟨gw 546 (by decide +kernel) rfl, gw 547 (by decide +kernel) rfl, gw 38 (by decide +kernel) rfl, gw 548 (by decide +kernel) rfl⟩
theorem vv_M_isWord : Jvm.Cond.instanceMethod y_M_isWord ∈ gtbl ∧ Jvm.Cond.selects (y_M_isWord).cls y_M_isWord y_M_isWord ∈ gtbl ∧ Jvm.Cond.initialized (y_M_isWord).cls ∈ gtbl ∧ Jvm.Cond.code y_M_isWord b_M_isWord 3 (some .boolean) ∈ gtbl := ⟨gw 563 (by decide +kernel) rfl, gw 29 (by decide +kernel) rfl, gw 38 (by decide +kernel) rfl, gw 564 (by decide +kernel) rfl⟩
theorem vv_M_store : Jvm.Cond.instanceMethod y_M_store ∈ gtbl ∧ Jvm.Cond.selects (y_M_store).cls y_M_store y_M_store ∈ gtbl ∧ Jvm.Cond.initialized (y_M_store).cls ∈ gtbl ∧ Jvm.Cond.code y_M_store b_M_store 6 (some .int) ∈ gtbl := ⟨gw 558 (by decide +kernel) rfl, gw 559 (by decide +kernel) rfl, gw 38 (by decide +kernel) rfl, gw 560 (by decide +kernel) rfl⟩
theorem vv_M_load : Jvm.Cond.instanceMethod y_M_load ∈ gtbl ∧ Jvm.Cond.selects (y_M_load).cls y_M_load y_M_load ∈ gtbl ∧ Jvm.Cond.initialized (y_M_load).cls ∈ gtbl ∧ Jvm.Cond.code y_M_load b_M_load 4 (some .int) ∈ gtbl := ⟨gw 566 (by decide +kernel) rfl, gw 567 (by decide +kernel) rfl, gw 38 (by decide +kernel) rfl, gw 568 (by decide +kernel) rfl⟩
theorem vv_M_size : Jvm.Cond.instanceMethod y_M_size ∈ gtbl ∧ Jvm.Cond.selects (y_M_size).cls y_M_size y_M_size ∈ gtbl ∧ Jvm.Cond.initialized (y_M_size).cls ∈ gtbl ∧ Jvm.Cond.code y_M_size b_M_size 4 (some .int) ∈ gtbl := ⟨gw 570 (by decide +kernel) rfl, gw 571 (by decide +kernel) rfl, gw 38 (by decide +kernel) rfl, gw 572 (by decide +kernel) rfl⟩
theorem vs_M_isRoot : Jvm.Cond.static y_M_isRoot ∈ gtbl ∧ Jvm.Cond.initialized (y_M_isRoot).cls ∈ gtbl ∧ Jvm.Cond.code y_M_isRoot b_M_isRoot 1 (some .boolean) ∈ gtbl := ⟨gw 578 (by decide +kernel) rfl, gw 38 (by decide +kernel) rfl, gw 579 (by decide +kernel) rfl⟩
theorem vv_M_rootNow : Jvm.Cond.instanceMethod y_M_rootNow ∈ gtbl ∧ Jvm.Cond.selects (y_M_rootNow).cls y_M_rootNow y_M_rootNow ∈ gtbl ∧ Jvm.Cond.initialized (y_M_rootNow).cls ∈ gtbl ∧ Jvm.Cond.code y_M_rootNow b_M_rootNow 2 (some .int) ∈ gtbl := ⟨gw 582 (by decide +kernel) rfl, gw 30 (by decide +kernel) rfl, gw 38 (by decide +kernel) rfl, gw 583 (by decide +kernel) rfl⟩
theorem vv_M_setRoot : Jvm.Cond.instanceMethod y_M_setRoot ∈ gtbl ∧ Jvm.Cond.selects (y_M_setRoot).cls y_M_setRoot y_M_setRoot ∈ gtbl ∧ Jvm.Cond.initialized (y_M_setRoot).cls ∈ gtbl ∧ Jvm.Cond.code y_M_setRoot b_M_setRoot 4 (some .int) ∈ gtbl := ⟨gw 574 (by decide +kernel) rfl, gw 575 (by decide +kernel) rfl, gw 38 (by decide +kernel) rfl, gw 576 (by decide +kernel) rfl⟩
theorem vv_M_root : Jvm.Cond.instanceMethod y_M_root ∈ gtbl ∧ Jvm.Cond.selects (y_M_root).cls y_M_root y_M_root ∈ gtbl ∧ Jvm.Cond.initialized (y_M_root).cls ∈ gtbl ∧ Jvm.Cond.code y_M_root b_M_root 2 (some .int) ∈ gtbl := ⟨gw 585 (by decide +kernel) rfl, gw 586 (by decide +kernel) rfl, gw 38 (by decide +kernel) rfl, gw 587 (by decide +kernel) rfl⟩
theorem vv_M_mark : Jvm.Cond.instanceMethod y_M_mark ∈ gtbl ∧ Jvm.Cond.selects (y_M_mark).cls y_M_mark y_M_mark ∈ gtbl ∧ Jvm.Cond.initialized (y_M_mark).cls ∈ gtbl ∧ Jvm.Cond.code y_M_mark b_M_mark 3 (none) ∈ gtbl := ⟨gw 610 (by decide +kernel) rfl, gw 32 (by decide +kernel) rfl, gw 38 (by decide +kernel) rfl, gw 611 (by decide +kernel) rfl⟩
theorem vv_M_countMarked : Jvm.Cond.instanceMethod y_M_countMarked ∈ gtbl ∧ Jvm.Cond.selects (y_M_countMarked).cls y_M_countMarked y_M_countMarked ∈ gtbl ∧ Jvm.Cond.initialized (y_M_countMarked).cls ∈ gtbl ∧ Jvm.Cond.code y_M_countMarked b_M_countMarked 3 (some .int) ∈ gtbl := ⟨gw 614 (by decide +kernel) rfl, gw 33 (by decide +kernel) rfl, gw 38 (by decide +kernel) rfl, gw 615 (by decide +kernel) rfl⟩
theorem vv_M_markAll : Jvm.Cond.instanceMethod y_M_markAll ∈ gtbl ∧ Jvm.Cond.selects (y_M_markAll).cls y_M_markAll y_M_markAll ∈ gtbl ∧ Jvm.Cond.initialized (y_M_markAll).cls ∈ gtbl ∧ Jvm.Cond.code y_M_markAll b_M_markAll 4 (some .int) ∈ gtbl := ⟨gw 606 (by decide +kernel) rfl, gw 31 (by decide +kernel) rfl, gw 38 (by decide +kernel) rfl, gw 607 (by decide +kernel) rfl⟩
theorem vv_M_freeWords : Jvm.Cond.instanceMethod y_M_freeWords ∈ gtbl ∧ Jvm.Cond.selects (y_M_freeWords).cls y_M_freeWords y_M_freeWords ∈ gtbl ∧ Jvm.Cond.initialized (y_M_freeWords).cls ∈ gtbl ∧ Jvm.Cond.code y_M_freeWords b_M_freeWords 3 (some .int) ∈ gtbl := ⟨gw 589 (by decide +kernel) rfl, gw 590 (by decide +kernel) rfl, gw 38 (by decide +kernel) rfl, gw 591 (by decide +kernel) rfl⟩
theorem vv_M_largestFree : Jvm.Cond.instanceMethod y_M_largestFree ∈ gtbl ∧ Jvm.Cond.selects (y_M_largestFree).cls y_M_largestFree y_M_largestFree ∈ gtbl ∧ Jvm.Cond.initialized (y_M_largestFree).cls ∈ gtbl ∧ Jvm.Cond.code y_M_largestFree b_M_largestFree 3 (some .int) ∈ gtbl := ⟨gw 593 (by decide +kernel) rfl, gw 594 (by decide +kernel) rfl, gw 38 (by decide +kernel) rfl, gw 595 (by decide +kernel) rfl⟩
theorem vv_M_extent : Jvm.Cond.instanceMethod y_M_extent ∈ gtbl ∧ Jvm.Cond.selects (y_M_extent).cls y_M_extent y_M_extent ∈ gtbl ∧ Jvm.Cond.initialized (y_M_extent).cls ∈ gtbl ∧ Jvm.Cond.code y_M_extent b_M_extent 2 (some .int) ∈ gtbl := ⟨gw 597 (by decide +kernel) rfl, gw 598 (by decide +kernel) rfl, gw 38 (by decide +kernel) rfl, gw 599 (by decide +kernel) rfl⟩
theorem vv_M_reached : Jvm.Cond.instanceMethod y_M_reached ∈ gtbl ∧ Jvm.Cond.selects (y_M_reached).cls y_M_reached y_M_reached ∈ gtbl ∧ Jvm.Cond.initialized (y_M_reached).cls ∈ gtbl ∧ Jvm.Cond.code y_M_reached b_M_reached 1 (some .int) ∈ gtbl := ⟨gw 601 (by decide +kernel) rfl, gw 602 (by decide +kernel) rfl, gw 38 (by decide +kernel) rfl, gw 603 (by decide +kernel) rfl⟩
theorem vv_M_order : Jvm.Cond.instanceMethod y_M_order ∈ gtbl ∧ Jvm.Cond.selects (y_M_order).cls y_M_order y_M_order ∈ gtbl ∧ Jvm.Cond.initialized (y_M_order).cls ∈ gtbl ∧ Jvm.Cond.code y_M_order b_M_order 2 (some .boolean) ∈ gtbl := ⟨gw 617 (by decide +kernel) rfl, gw 618 (by decide +kernel) rfl, gw 38 (by decide +kernel) rfl, gw 619 (by decide +kernel) rfl⟩
theorem vv_M_clean : Jvm.Cond.instanceMethod y_M_clean ∈ gtbl ∧ Jvm.Cond.selects (y_M_clean).cls y_M_clean y_M_clean ∈ gtbl ∧ Jvm.Cond.initialized (y_M_clean).cls ∈ gtbl ∧ Jvm.Cond.code y_M_clean b_M_clean 5 (some .boolean) ∈ gtbl := ⟨gw 626 (by decide +kernel) rfl, gw 34 (by decide +kernel) rfl, gw 38 (by decide +kernel) rfl, gw 627 (by decide +kernel) rfl⟩
theorem vv_M_recover : Jvm.Cond.instanceMethod y_M_recover ∈ gtbl ∧ Jvm.Cond.selects (y_M_recover).cls y_M_recover y_M_recover ∈ gtbl ∧ Jvm.Cond.initialized (y_M_recover).cls ∈ gtbl ∧ Jvm.Cond.code y_M_recover b_M_recover 3 (some .int) ∈ gtbl := ⟨gw 621 (by decide +kernel) rfl, gw 622 (by decide +kernel) rfl, gw 38 (by decide +kernel) rfl, gw 623 (by decide +kernel) rfl⟩
theorem vv_M_writes : Jvm.Cond.instanceMethod y_M_writes ∈ gtbl ∧ Jvm.Cond.selects (y_M_writes).cls y_M_writes y_M_writes ∈ gtbl ∧ Jvm.Cond.initialized (y_M_writes).cls ∈ gtbl ∧ Jvm.Cond.code y_M_writes b_M_writes 1 (some .int) ∈ gtbl := ⟨gw 629 (by decide +kernel) rfl, gw 630 (by decide +kernel) rfl, gw 38 (by decide +kernel) rfl, gw 631 (by decide +kernel) rfl⟩
theorem vv_M_down : Jvm.Cond.instanceMethod y_M_down ∈ gtbl ∧ Jvm.Cond.selects (y_M_down).cls y_M_down y_M_down ∈ gtbl ∧ Jvm.Cond.initialized (y_M_down).cls ∈ gtbl ∧ Jvm.Cond.code y_M_down b_M_down 1 (some .boolean) ∈ gtbl := ⟨gw 633 (by decide +kernel) rfl, gw 634 (by decide +kernel) rfl, gw 38 (by decide +kernel) rfl, gw 635 (by decide +kernel) rfl⟩
theorem vv_D_word : Jvm.Cond.instanceMethod y_D_word ∈ gtbl ∧ Jvm.Cond.selects (y_D_word).cls y_D_word y_D_word ∈ gtbl ∧ Jvm.Cond.initialized (y_D_word).cls ∈ gtbl ∧ Jvm.Cond.code y_D_word b_D_word 2 (some .int) ∈ gtbl := ⟨gw 237 (by decide +kernel) rfl, gw 238 (by decide +kernel) rfl, gw 37 (by decide +kernel) rfl, gw 239 (by decide +kernel) rfl⟩
theorem vv_D_preset : Jvm.Cond.instanceMethod y_D_preset ∈ gtbl ∧ Jvm.Cond.selects (y_D_preset).cls y_D_preset y_D_preset ∈ gtbl ∧ Jvm.Cond.initialized (y_D_preset).cls ∈ gtbl ∧ Jvm.Cond.code y_D_preset b_D_preset 3 (none) ∈ gtbl := ⟨gw 83 (by decide +kernel) rfl, gw 84 (by decide +kernel) rfl, gw 37 (by decide +kernel) rfl, gw 85 (by decide +kernel) rfl⟩
theorem vv_D_failAfter : Jvm.Cond.instanceMethod y_D_failAfter ∈ gtbl ∧ Jvm.Cond.selects (y_D_failAfter).cls y_D_failAfter y_D_failAfter ∈ gtbl ∧ Jvm.Cond.initialized (y_D_failAfter).cls ∈ gtbl ∧ Jvm.Cond.code y_D_failAfter b_D_failAfter 2 (none) ∈ gtbl := ⟨gw 104 (by decide +kernel) rfl, gw 105 (by decide +kernel) rfl, gw 37 (by decide +kernel) rfl, gw 106 (by decide +kernel) rfl⟩
theorem vv_D_writeCount : Jvm.Cond.instanceMethod y_D_writeCount ∈ gtbl ∧ Jvm.Cond.selects (y_D_writeCount).cls y_D_writeCount y_D_writeCount ∈ gtbl ∧ Jvm.Cond.initialized (y_D_writeCount).cls ∈ gtbl ∧ Jvm.Cond.code y_D_writeCount b_D_writeCount 1 (some .int) ∈ gtbl := ⟨gw 112 (by decide +kernel) rfl, gw 113 (by decide +kernel) rfl, gw 37 (by decide +kernel) rfl, gw 114 (by decide +kernel) rfl⟩
theorem vv_D_isDown : Jvm.Cond.instanceMethod y_D_isDown ∈ gtbl ∧ Jvm.Cond.selects (y_D_isDown).cls y_D_isDown y_D_isDown ∈ gtbl ∧ Jvm.Cond.initialized (y_D_isDown).cls ∈ gtbl ∧ Jvm.Cond.code y_D_isDown b_D_isDown 1 (some .boolean) ∈ gtbl := ⟨gw 120 (by decide +kernel) rfl, gw 121 (by decide +kernel) rfl, gw 37 (by decide +kernel) rfl, gw 122 (by decide +kernel) rfl⟩
theorem vv_D_goUp : Jvm.Cond.instanceMethod y_D_goUp ∈ gtbl ∧ Jvm.Cond.selects (y_D_goUp).cls y_D_goUp y_D_goUp ∈ gtbl ∧ Jvm.Cond.initialized (y_D_goUp).cls ∈ gtbl ∧ Jvm.Cond.code y_D_goUp b_D_goUp 1 (none) ∈ gtbl := ⟨gw 471 (by decide +kernel) rfl, gw 472 (by decide +kernel) rfl, gw 37 (by decide +kernel) rfl, gw 473 (by decide +kernel) rfl⟩
theorem vv_D_isPending : Jvm.Cond.instanceMethod y_D_isPending ∈ gtbl ∧ Jvm.Cond.selects (y_D_isPending).cls y_D_isPending y_D_isPending ∈ gtbl ∧ Jvm.Cond.initialized (y_D_isPending).cls ∈ gtbl ∧ Jvm.Cond.code y_D_isPending b_D_isPending 1 (some .boolean) ∈ gtbl := ⟨gw 458 (by decide +kernel) rfl, gw 459 (by decide +kernel) rfl, gw 37 (by decide +kernel) rfl, gw 460 (by decide +kernel) rfl⟩
theorem vv_D_plan : Jvm.Cond.instanceMethod y_D_plan ∈ gtbl ∧ Jvm.Cond.selects (y_D_plan).cls y_D_plan y_D_plan ∈ gtbl ∧ Jvm.Cond.initialized (y_D_plan).cls ∈ gtbl ∧ Jvm.Cond.code y_D_plan b_D_plan 4 (none) ∈ gtbl := ⟨gw 287 (by decide +kernel) rfl, gw 288 (by decide +kernel) rfl, gw 37 (by decide +kernel) rfl, gw 289 (by decide +kernel) rfl⟩
theorem vv_D_change : Jvm.Cond.instanceMethod y_D_change ∈ gtbl ∧ Jvm.Cond.selects (y_D_change).cls y_D_change y_D_change ∈ gtbl ∧ Jvm.Cond.initialized (y_D_change).cls ∈ gtbl ∧ Jvm.Cond.code y_D_change b_D_change 3 (none) ∈ gtbl := ⟨gw 291 (by decide +kernel) rfl, gw 292 (by decide +kernel) rfl, gw 37 (by decide +kernel) rfl, gw 293 (by decide +kernel) rfl⟩
theorem vv_D_finishChange : Jvm.Cond.instanceMethod y_D_finishChange ∈ gtbl ∧ Jvm.Cond.selects (y_D_finishChange).cls y_D_finishChange y_D_finishChange ∈ gtbl ∧ Jvm.Cond.initialized (y_D_finishChange).cls ∈ gtbl ∧ Jvm.Cond.code y_D_finishChange b_D_finishChange 3 (none) ∈ gtbl := ⟨gw 296 (by decide +kernel) rfl, gw 297 (by decide +kernel) rfl, gw 37 (by decide +kernel) rfl, gw 298 (by decide +kernel) rfl⟩
theorem vv_D_write : Jvm.Cond.instanceMethod y_D_write ∈ gtbl ∧ Jvm.Cond.selects (y_D_write).cls y_D_write y_D_write ∈ gtbl ∧ Jvm.Cond.initialized (y_D_write).cls ∈ gtbl ∧ Jvm.Cond.code y_D_write b_D_write 3 (none) ∈ gtbl := ⟨gw 276 (by decide +kernel) rfl, gw 277 (by decide +kernel) rfl, gw 37 (by decide +kernel) rfl, gw 278 (by decide +kernel) rfl⟩
theorem lk_X_34 : Jvm.Cond.methodLink "RootedWords" 34 y_X_refuseWhenDown ∈ gtbl := gw 133 (by decide +kernel) rfl
theorem lk_X_46 : Jvm.Cond.methodLink "RootedWords" 46 y_X_lowestFree ∈ gtbl := gw 224 (by decide +kernel) rfl
theorem lk_X_55 : Jvm.Cond.methodLink "RootedWords" 55 y_X_lengthAt ∈ gtbl := gw 232 (by decide +kernel) rfl
theorem lk_X_58 : Jvm.Cond.methodLink "RootedWords" 58 y_X_clearContent ∈ gtbl := gw 271 (by decide +kernel) rfl
theorem lk_X_61 : Jvm.Cond.methodLink "RootedWords" 61 y_X_planExtent ∈ gtbl := gw 282 (by decide +kernel) rfl
theorem lk_X_65 : Jvm.Cond.methodLink "RootedWords" 65 y_D_change ∈ gtbl := gw 290 (by decide +kernel) rfl
theorem lk_X_69 : Jvm.Cond.methodLink "RootedWords" 69 y_X_refuseUnlessUsed ∈ gtbl := gw 307 (by decide +kernel) rfl
theorem lk_X_72 : Jvm.Cond.methodLink "RootedWords" 72 y_X_isFreeAt ∈ gtbl := gw 243 (by decide +kernel) rfl
theorem lk_X_76 : Jvm.Cond.methodLink "RootedWords" 76 y_X_makeFree ∈ gtbl := gw 331 (by decide +kernel) rfl
theorem lk_X_79 : Jvm.Cond.methodLink "RootedWords" 79 y_X_refuseUnlessWord ∈ gtbl := gw 343 (by decide +kernel) rfl
theorem lk_X_82 : Jvm.Cond.methodLink "RootedWords" 82 y_X_pointersAt ∈ gtbl := gw 363 (by decide +kernel) rfl
theorem lk_X_85 : Jvm.Cond.methodLink "RootedWords" 85 y_X_isUsedAddress ∈ gtbl := gw 311 (by decide +kernel) rfl
theorem lk_X_90 : Jvm.Cond.methodLink "RootedWords" 90 y_D_word ∈ gtbl := gw 236 (by decide +kernel) rfl
theorem lk_X_93 : Jvm.Cond.methodLink "RootedWords" 93 y_X_changeWord ∈ gtbl := gw 368 (by decide +kernel) rfl
theorem lk_X_96 : Jvm.Cond.methodLink "RootedWords" 96 y_X_contentAt ∈ gtbl := gw 251 (by decide +kernel) rfl
theorem lk_X_99 : Jvm.Cond.methodLink "RootedWords" 99 y_X_refuseUnlessRoot ∈ gtbl := gw 393 (by decide +kernel) rfl
theorem lk_X_102 : Jvm.Cond.methodLink "RootedWords" 102 y_X_usedRoot ∈ gtbl := gw 398 (by decide +kernel) rfl
theorem lk_X_105 : Jvm.Cond.methodLink "RootedWords" 105 y_X_listExtents ∈ gtbl := gw 228 (by decide +kernel) rfl
theorem lk_X_109 : Jvm.Cond.methodLink "RootedWords" 109 Lib.Math.max.name ∈ gtbl := gw 240 (by decide +kernel) rfl
theorem lk_X_119 : Jvm.Cond.methodLink "RootedWords" 119 y_X_searchFromRoots ∈ gtbl := gw 438 (by decide +kernel) rfl
theorem lk_X_122 : Jvm.Cond.methodLink "RootedWords" 122 y_D_failAfter ∈ gtbl := gw 103 (by decide +kernel) rfl
theorem lk_X_125 : Jvm.Cond.methodLink "RootedWords" 125 y_D_isDown ∈ gtbl := gw 119 (by decide +kernel) rfl
theorem lk_X_129 : Jvm.Cond.methodLink "RootedWords" 129 y_D_isPending ∈ gtbl := gw 457 (by decide +kernel) rfl
theorem lk_X_132 : Jvm.Cond.methodLink "RootedWords" 132 y_D_finishChange ∈ gtbl := gw 461 (by decide +kernel) rfl
theorem lk_X_135 : Jvm.Cond.methodLink "RootedWords" 135 y_X_freeUnreached ∈ gtbl := gw 462 (by decide +kernel) rfl
theorem lk_X_138 : Jvm.Cond.methodLink "RootedWords" 138 y_D_goUp ∈ gtbl := gw 470 (by decide +kernel) rfl
theorem lk_X_141 : Jvm.Cond.methodLink "RootedWords" 141 y_D_writeCount ∈ gtbl := gw 111 (by decide +kernel) rfl
theorem lk_X_158 : Jvm.Cond.methodLink "RootedWords" 158 y_X_kindAt ∈ gtbl := gw 247 (by decide +kernel) rfl
theorem lk_X_161 : Jvm.Cond.methodLink "RootedWords" 161 y_D_write ∈ gtbl := gw 275 (by decide +kernel) rfl
theorem lk_X_26 : Jvm.Cond.methodLink "RootedWords" 26 y_X_tag ∈ gtbl := gw 79 (by decide +kernel) rfl
theorem lk_X_164 : Jvm.Cond.methodLink "RootedWords" 164 y_D_plan ∈ gtbl := gw 286 (by decide +kernel) rfl
theorem lk_X_168 : Jvm.Cond.methodLink "RootedWords" 168 y_X_markUsed ∈ gtbl := gw 442 (by decide +kernel) rfl
theorem lk_X_171 : Jvm.Cond.methodLink "RootedWords" 171 y_X_reach ∈ gtbl := gw 446 (by decide +kernel) rfl
theorem lk_X_174 : Jvm.Cond.methodLink "RootedWords" 174 y_X_isReachedAt ∈ gtbl := gw 466 (by decide +kernel) rfl
theorem lk_M_49 : Jvm.Cond.methodLink "RootedWordsModel" 49 y_M_spend ∈ gtbl := gw 529 (by decide +kernel) rfl
theorem lk_M_56 : Jvm.Cond.methodLink "RootedWordsModel" 56 y_M_change ∈ gtbl := gw 537 (by decide +kernel) rfl
theorem lk_M_59 : Jvm.Cond.methodLink "RootedWordsModel" 59 y_M_does ∈ gtbl := gw 533 (by decide +kernel) rfl
theorem lk_M_63 : Jvm.Cond.methodLink "RootedWordsModel" 63 y_M_cut ∈ gtbl := gw 541 (by decide +kernel) rfl
theorem lk_M_67 : Jvm.Cond.methodLink "RootedWordsModel" 67 y_M_at ∈ gtbl := gw 549 (by decide +kernel) rfl
theorem lk_M_70 : Jvm.Cond.methodLink "RootedWordsModel" 70 y_M_join ∈ gtbl := gw 553 (by decide +kernel) rfl
theorem lk_M_73 : Jvm.Cond.methodLink "RootedWordsModel" 73 y_M_isWord ∈ gtbl := gw 561 (by decide +kernel) rfl
theorem lk_M_77 : Jvm.Cond.methodLink "RootedWordsModel" 77 y_M_isRoot ∈ gtbl := gw 577 (by decide +kernel) rfl
theorem lk_M_80 : Jvm.Cond.methodLink "RootedWordsModel" 80 y_M_rootNow ∈ gtbl := gw 580 (by decide +kernel) rfl
theorem lk_M_83 : Jvm.Cond.methodLink "RootedWordsModel" 83 y_M_mark ∈ gtbl := gw 608 (by decide +kernel) rfl
theorem lk_M_87 : Jvm.Cond.methodLink "RootedWordsModel" 87 y_M_countMarked ∈ gtbl := gw 612 (by decide +kernel) rfl
theorem lk_M_91 : Jvm.Cond.methodLink "RootedWordsModel" 91 y_M_markAll ∈ gtbl := gw 604 (by decide +kernel) rfl
theorem lk_M_94 : Jvm.Cond.methodLink "RootedWordsModel" 94 y_M_clean ∈ gtbl := gw 624 (by decide +kernel) rfl
theorem lk_D_29 : Jvm.Cond.methodLink "RootedWords$Disk" 29 y_D_write ∈ gtbl := gw 294 (by decide +kernel) rfl
theorem lk_D_33 : Jvm.Cond.methodLink "RootedWords$Disk" 33 y_D_finishChange ∈ gtbl := gw 295 (by decide +kernel) rfl
theorem vs_max : Jvm.Cond.static Lib.Math.max.name ∈ gtbl ∧ Jvm.Cond.initialized "java/lang/Math" ∈ gtbl ∧ Jvm.Cond.code Lib.Math.max.name Lib.Math.max.code 2 (some .int) ∈ gtbl := ⟨gw 241 (by decide +kernel) rfl, gw 44 (by decide +kernel) rfl, gw 242 (by decide +kernel) rfl⟩
def fl_X : List (Nat × (Nat × Nat)) := [(12, (0, 0)), (16, (0, 1)), (20, (0, 2)), (23, (0, 3))]
theorem flok_X {M : MI} (h : m_own M = R_X) : ∀ q ∈ fl_X, FlOK M q := by
  unfold FlOK
  rw [h]
  exact List.forall_mem_cons.mpr ⟨⟨rfl, gw 86 (by decide +kernel) rfl⟩, List.forall_mem_cons.mpr ⟨⟨rfl, gw 87 (by decide +kernel) rfl⟩, List.forall_mem_cons.mpr ⟨⟨rfl, gw 88 (by decide +kernel) rfl⟩, List.forall_mem_cons.mpr ⟨⟨rfl, gw 89 (by decide +kernel) rfl⟩, (fun _ h => absurd h List.not_mem_nil)⟩⟩⟩⟩
def fl_D : List (Nat × (Nat × Nat)) := [(11, (1, 0)), (15, (1, 1)), (18, (1, 2)), (22, (1, 3)), (25, (1, 4))]
theorem flok_D {M : MI} (h : m_own M = R_D) : ∀ q ∈ fl_D, FlOK M q := by
  unfold FlOK
  rw [h]
  exact List.forall_mem_cons.mpr ⟨⟨rfl, gw 62 (by decide +kernel) rfl⟩, List.forall_mem_cons.mpr ⟨⟨rfl, gw 63 (by decide +kernel) rfl⟩, List.forall_mem_cons.mpr ⟨⟨rfl, gw 64 (by decide +kernel) rfl⟩, List.forall_mem_cons.mpr ⟨⟨rfl, gw 65 (by decide +kernel) rfl⟩, List.forall_mem_cons.mpr ⟨⟨rfl, gw 66 (by decide +kernel) rfl⟩, (fun _ h => absurd h List.not_mem_nil)⟩⟩⟩⟩⟩
def fl_M : List (Nat × (Nat × Nat)) := [(7, (2, 1)), (13, (2, 2)), (17, (2, 3)), (20, (2, 4)), (24, (2, 5)), (27, (2, 6)), (30, (2, 7)), (33, (2, 8)), (36, (2, 10)), (39, (2, 0)), (42, (2, 9)), (45, (2, 11)), (53, (2, 12))]
theorem flok_M {M : MI} (h : m_own M = R_M) : ∀ q ∈ fl_M, FlOK M q := by
  unfold FlOK
  rw [h]
  exact List.forall_mem_cons.mpr ⟨⟨rfl, gw 481 (by decide +kernel) rfl⟩, List.forall_mem_cons.mpr ⟨⟨rfl, gw 482 (by decide +kernel) rfl⟩, List.forall_mem_cons.mpr ⟨⟨rfl, gw 483 (by decide +kernel) rfl⟩, List.forall_mem_cons.mpr ⟨⟨rfl, gw 484 (by decide +kernel) rfl⟩, List.forall_mem_cons.mpr ⟨⟨rfl, gw 485 (by decide +kernel) rfl⟩, List.forall_mem_cons.mpr ⟨⟨rfl, gw 486 (by decide +kernel) rfl⟩, List.forall_mem_cons.mpr ⟨⟨rfl, gw 487 (by decide +kernel) rfl⟩, List.forall_mem_cons.mpr ⟨⟨rfl, gw 488 (by decide +kernel) rfl⟩, List.forall_mem_cons.mpr ⟨⟨rfl, gw 490 (by decide +kernel) rfl⟩, List.forall_mem_cons.mpr ⟨⟨rfl, gw 480 (by decide +kernel) rfl⟩, List.forall_mem_cons.mpr ⟨⟨rfl, gw 489 (by decide +kernel) rfl⟩, List.forall_mem_cons.mpr ⟨⟨rfl, gw 491 (by decide +kernel) rfl⟩, List.forall_mem_cons.mpr ⟨⟨rfl, gw 492 (by decide +kernel) rfl⟩, (fun _ h => absurd h List.not_mem_nil)⟩⟩⟩⟩⟩⟩⟩⟩⟩⟩⟩⟩⟩
theorem thr_of {own E : String} {ik ic : Nat} (h1 : Jvm.Cond.classLink own ik E ∈ gtbl) (h2 : Jvm.Cond.initialized E ∈ gtbl) (h3 : (vx_atS own ic E names2).all (fun w => decide (w ∈ lw_tbl) && (goodWord w || isDC w)) = true) (h4 : Bundle.fit E = true) : ThrW own ik ic E := by
  refine ⟨h1, h2, fun w hw => ?_, h4⟩
  have h := List.all_eq_true.mp h3 w hw
  simp only [Bool.and_eq_true, Bool.or_eq_true, decide_eq_true_eq] at h
  rcases h.2 with h5 | h5
  · exact Or.inl (List.mem_filter.mpr ⟨h.1, h5⟩)
  · exact Or.inr (List.mem_filter.mpr ⟨h.1, h5⟩)
theorem thn_of {own E : String} {ik ic : Nat} (h1 : Jvm.Cond.classLink own ik E ∈ gtbl) (h2 : Jvm.Cond.initialized E ∈ gtbl) (h3 : (atN own ic E).all (fun w => decide (w ∈ lw_tbl) && (goodWord w || isDC w)) = true) (h4 : Bundle.fit E = true) : ThrN own ik ic E := by
  refine ⟨h1, h2, fun w hw => ?_, h4⟩
  have h := List.all_eq_true.mp h3 w hw
  simp only [Bool.and_eq_true, Bool.or_eq_true, decide_eq_true_eq] at h
  rcases h.2 with h5 | h5
  · exact Or.inl (List.mem_filter.mpr ⟨h.1, h5⟩)
  · exact Or.inr (List.mem_filter.mpr ⟨h.1, h5⟩)
set_option maxRecDepth 100000 in
theorem th_X_37 : ThrW "RootedWords" 37 41 "java/lang/IllegalArgumentException" := thr_of (gw 207 (by decide +kernel) rfl) (gw 43 (by decide +kernel) rfl) (by decide +kernel) (by decide +kernel)
set_option maxRecDepth 100000 in
theorem th_X_50 : ThrW "RootedWords" 50 54 "java/lang/UnsupportedOperationException" := thr_of (gw 255 (by decide +kernel) rfl) (gw 45 (by decide +kernel) rfl) (by decide +kernel) (by decide +kernel)
set_option maxRecDepth 100000 in
theorem th_X_114 : ThrW "RootedWords" 114 118 "java/lang/IndexOutOfBoundsException" := thr_of (gw 347 (by decide +kernel) rfl) (gw 47 (by decide +kernel) rfl) (by decide +kernel) (by decide +kernel)
set_option maxRecDepth 100000 in
theorem th_X_144 : ThrW "RootedWords" 144 148 "java/lang/IllegalStateException" := thr_of (gw 137 (by decide +kernel) rfl) (gw 42 (by decide +kernel) rfl) (by decide +kernel) (by decide +kernel)
set_option maxRecDepth 100000 in
theorem th_X_149 : ThrN "RootedWords" 149 153 "java/util/NoSuchElementException" := thn_of (gw 315 (by decide +kernel) rfl) (gw 46 (by decide +kernel) rfl) (by decide +kernel) (by decide +kernel)
set_option maxRecDepth 100000 in
theorem th_D_36 : ThrW "RootedWords$Disk" 36 40 "java/lang/IllegalStateException" := thr_of (gw 279 (by decide +kernel) rfl) (gw 42 (by decide +kernel) rfl) (by decide +kernel) (by decide +kernel)
end
section
def noLs : List AV → Prop
  | [] => True
  | v :: l => noL v ∧ noLs l
theorem nls : ∀ {as : List AV}, noLs as → ∀ v ∈ as, noL v
  | [], _, v, h => absurd h List.not_mem_nil
  | w :: l, h, v, hv => (List.mem_cons.mp hv).elim (fun e => e ▸ h.1) (nls h.2 v)
/-- a method's contract from its walk -/
theorem met_go {y : MethodName} {M : MI} {as : List AV} {σ : Mem} {oc : OC} (hM : MOK M) (hy : y.cls = m_own M ∧ plainName y.cls = true) (hs : ∀ q ∈ m_tr M, SiteF M q) (hlen : as.length ≤ m_nL M) (hno : noLs as) (stops : List Nat) (n : Nat)
    (h : ∀ (X : CT), CxO X M oc → ∀ (K : Nat → List (Option AV) → List AV → Mem → Prop) (R1 : Option AV → Mem → Prop) (T1 : Nat → String → Mem → Prop), (∀ pc L S σ, Go X M pc L S σ → K pc L S σ) → (∀ r σ, oc = .inl (r, σ) → R1 r σ) → (∀ pc E σ, oc = .inr (E, σ) → T1 pc E σ) →
      wpn M stops n 0 (as.map some ++ List.replicate (m_nL M - as.length) none) [] σ K R1 T1) : MetO y M as σ oc :=
  met_of hy hs hlen (nls hno) fun X hX => Go_run hM hX stops n fun K R1 T1 hK hR hT => h X hX K R1 T1 hK (fun r σ e => hR r σ e) (fun pc E σ e => hT pc E σ e)
def bl (x : Int32) : Prop := x = 0 ∨ x = 1
theorem bl_and {x : Int32} (h : bl x) : x &&& 1 = x := by rcases h with rfl | rfl <;> rfl
/-! ===== the disk ===== -/
def mi_D_word : MI := (b_D_word, 2, "RootedWords$Disk", some .int, 0, tbl_of 7 f_D_word, fl_D, [], [])
theorem ok_D_word : MOK mi_D_word := ⟨tbl_ok k_D_word, flok_D rfl, (fun _ h => absurd h List.not_mem_nil)⟩
theorem si_D_word : ∀ q ∈ m_tr mi_D_word, SiteF mi_D_word q := (fun _ h => absurd h List.not_mem_nil)
theorem c_D_word (p : Int32) (σ : Mem) (hp : vp_in p 274) : MetO y_D_word mi_D_word [.inr (.inl 1), .inl p] σ (.inl (some (.inl (σ 2 p.toNatClampNeg)), σ)) := by
  refine met_go ok_D_word ⟨rfl, rfl⟩ si_D_word (Nat.le_of_ble_eq_true rfl) ⟨trivial, trivial, trivial⟩ [] 40 (fun X hX K R1 T1 hK hR hT => ?_)
  conv => whnf
  refine ⟨hp, ?_⟩
  conv => whnf
  exact hR _ _ rfl
def ct_D_word : CTy := fun as σ KN _ => match as with
  | [.inl p] => vp_in p 274 ∧ KN (some (.inl (σ 2 p.toNatClampNeg))) σ
  | _ => False
theorem s_D_word : Snd y_D_word mi_D_word 1 1 ct_D_word := by
  intro as σ KN KX _ hf
  match as, hf with
  | [.inl p], hf => exact ⟨.inl (_, _), hf.2, c_D_word p σ hf.1⟩
def mi_D_failAfter : MI := (b_D_failAfter, 2, "RootedWords$Disk", none, 0, tbl_of 6 f_D_failAfter, fl_D, [], [])
theorem ok_D_failAfter : MOK mi_D_failAfter := ⟨tbl_ok k_D_failAfter, flok_D rfl, (fun _ h => absurd h List.not_mem_nil)⟩
theorem si_D_failAfter : ∀ q ∈ m_tr mi_D_failAfter, SiteF mi_D_failAfter q := (fun _ h => absurd h List.not_mem_nil)
theorem c_D_failAfter (n : Int32) (σ : Mem) : MetO y_D_failAfter mi_D_failAfter [.inr (.inl 1), .inl n] σ (.inl (none, st σ 1 3 n)) := by
  refine met_go ok_D_failAfter ⟨rfl, rfl⟩ si_D_failAfter (Nat.le_of_ble_eq_true rfl) ⟨trivial, trivial, trivial⟩ [] 40 (fun X hX K R1 T1 hK hR hT => ?_)
  conv => whnf
  exact hR _ _ rfl
def ct_D_failAfter : CTy := fun as σ KN _ => match as with
  | [.inl n] => KN none (st σ 1 3 n)
  | _ => False
theorem s_D_failAfter : Snd y_D_failAfter mi_D_failAfter 1 1 ct_D_failAfter := by
  intro as σ KN KX _ hf
  match as, hf with
  | [.inl n], hf => exact ⟨.inl (_, _), hf, c_D_failAfter n σ⟩
def mi_D_writeCount : MI := (b_D_writeCount, 1, "RootedWords$Disk", some .int, 0, tbl_of 5 f_D_writeCount, fl_D, [], [])
theorem ok_D_writeCount : MOK mi_D_writeCount := ⟨tbl_ok k_D_writeCount, flok_D rfl, (fun _ h => absurd h List.not_mem_nil)⟩
theorem si_D_writeCount : ∀ q ∈ m_tr mi_D_writeCount, SiteF mi_D_writeCount q := (fun _ h => absurd h List.not_mem_nil)
theorem c_D_writeCount (σ : Mem) : MetO y_D_writeCount mi_D_writeCount [.inr (.inl 1)] σ (.inl (some (.inl (σ 1 2)), σ)) := by
  refine met_go ok_D_writeCount ⟨rfl, rfl⟩ si_D_writeCount (Nat.le_of_ble_eq_true rfl) ⟨trivial, trivial⟩ [] 40 (fun X hX K R1 T1 hK hR hT => ?_)
  conv => whnf
  exact hR _ _ rfl
def ct_D_writeCount : CTy := fun as σ KN _ => match as with
  | [] => KN (some (.inl (σ 1 2))) σ
  | _ => False
theorem s_D_writeCount : Snd y_D_writeCount mi_D_writeCount 1 0 ct_D_writeCount := by
  intro as σ KN KX _ hf
  match as, hf with
  | [], hf => exact ⟨.inl (_, _), hf, c_D_writeCount σ⟩
def mi_D_isDown : MI := (b_D_isDown, 1, "RootedWords$Disk", some .boolean, 0, tbl_of 5 f_D_isDown, fl_D, [], [])
theorem ok_D_isDown : MOK mi_D_isDown := ⟨tbl_ok k_D_isDown, flok_D rfl, (fun _ h => absurd h List.not_mem_nil)⟩
theorem si_D_isDown : ∀ q ∈ m_tr mi_D_isDown, SiteF mi_D_isDown q := (fun _ h => absurd h List.not_mem_nil)
theorem c_D_isDown (σ : Mem) (h : bl (σ 1 4)) : MetO y_D_isDown mi_D_isDown [.inr (.inl 1)] σ (.inl (some (.inl (σ 1 4)), σ)) := by
  refine met_go ok_D_isDown ⟨rfl, rfl⟩ si_D_isDown (Nat.le_of_ble_eq_true rfl) ⟨trivial, trivial⟩ [] 40 (fun X hX K R1 T1 hK hR hT => ?_)
  conv => whnf
  exact ⟨bl_and h, hR _ _ rfl⟩
def ct_D_isDown : CTy := fun as σ KN _ => match as with
  | [] => bl (σ 1 4) ∧ KN (some (.inl (σ 1 4))) σ
  | _ => False
theorem s_D_isDown : Snd y_D_isDown mi_D_isDown 1 0 ct_D_isDown := by
  intro as σ KN KX _ hf
  match as, hf with
  | [], hf => exact ⟨.inl (_, _), hf.2, c_D_isDown σ hf.1⟩
def mi_D_goUp : MI := (b_D_goUp, 1, "RootedWords$Disk", none, 0, tbl_of 6 f_D_goUp, fl_D, [], [])
theorem ok_D_goUp : MOK mi_D_goUp := ⟨tbl_ok k_D_goUp, flok_D rfl, (fun _ h => absurd h List.not_mem_nil)⟩
theorem si_D_goUp : ∀ q ∈ m_tr mi_D_goUp, SiteF mi_D_goUp q := (fun _ h => absurd h List.not_mem_nil)
theorem c_D_goUp (σ : Mem) : MetO y_D_goUp mi_D_goUp [.inr (.inl 1)] σ (.inl (none, st σ 1 4 0)) := by
  refine met_go ok_D_goUp ⟨rfl, rfl⟩ si_D_goUp (Nat.le_of_ble_eq_true rfl) ⟨trivial, trivial⟩ [] 40 (fun X hX K R1 T1 hK hR hT => ?_)
  conv => whnf
  refine ⟨Or.inl rfl, ?_⟩
  conv => whnf
  exact hR _ _ rfl
def ct_D_goUp : CTy := fun as σ KN _ => match as with
  | [] => KN none (st σ 1 4 0)
  | _ => False
theorem s_D_goUp : Snd y_D_goUp mi_D_goUp 1 0 ct_D_goUp := by
  intro as σ KN KX _ hf
  match as, hf with
  | [], hf => exact ⟨.inl (_, _), hf, c_D_goUp σ⟩
def mi_D_isPending : MI := (b_D_isPending, 1, "RootedWords$Disk", some .boolean, 0, tbl_of 17 f_D_isPending, fl_D, [], [])
theorem ok_D_isPending : MOK mi_D_isPending := ⟨tbl_ok k_D_isPending, flok_D rfl, (fun _ h => absurd h List.not_mem_nil)⟩
theorem si_D_isPending : ∀ q ∈ m_tr mi_D_isPending, SiteF mi_D_isPending q := (fun _ h => absurd h List.not_mem_nil)
theorem c_D_isPending (σ : Mem) : MetO y_D_isPending mi_D_isPending [.inr (.inl 1)] σ (.inl (some (.inl (if σ 2 265 = 0 then 0 else 1)), σ)) := by
  refine met_go ok_D_isPending ⟨rfl, rfl⟩ si_D_isPending (Nat.le_of_ble_eq_true rfl) ⟨trivial, trivial⟩ [] 40 (fun X hX K R1 T1 hK hR hT => ?_)
  conv => whnf
  refine ⟨vp_in_nI (by decide) (by decide), ?_⟩
  conv => whnf
  refine ⟨fun h => ?_, fun h => ?_⟩
  · conv => whnf
    refine ⟨rfl, hR _ _ ?_⟩
    have h : σ 2 265 = 0 := h
    rw [if_pos h]; rfl
  · conv => whnf
    refine ⟨rfl, hR _ _ ?_⟩
    have h : ¬ σ 2 265 = 0 := h
    rw [if_neg h]; rfl
def ct_D_isPending : CTy := fun as σ KN _ => match as with
  | [] => KN (some (.inl (if σ 2 265 = 0 then 0 else 1))) σ
  | _ => False
theorem s_D_isPending : Snd y_D_isPending mi_D_isPending 1 0 ct_D_isPending := by
  intro as σ KN KX _ hf
  match as, hf with
  | [], hf => exact ⟨.inl (_, _), hf, c_D_isPending σ⟩
def mi_D_plan : MI := (b_D_plan, 4, "RootedWords$Disk", none, 0, tbl_of 21 f_D_plan, fl_D, [], [])
theorem ok_D_plan : MOK mi_D_plan := ⟨tbl_ok k_D_plan, flok_D rfl, (fun _ h => absurd h List.not_mem_nil)⟩
theorem si_D_plan : ∀ q ∈ m_tr mi_D_plan, SiteF mi_D_plan q := (fun _ h => absurd h List.not_mem_nil)
theorem c_D_plan (i : Nat) (p w : Int32) (σ : Mem) (hi : i < 4) : MetO y_D_plan mi_D_plan [.inr (.inl 1), .inl (nI i), .inl p, .inl w] σ (.inl (none, st (st σ 3 (2 * i) p) 3 (2 * i + 1) w)) := by
  have e1 : nI 2 * nI i = nI (2 * i) := pk_mul 2 i
  have e2 : nI 2 * nI i + nI 1 = nI (2 * i + 1) := by rw [e1, nI_add]
  refine met_go ok_D_plan ⟨rfl, rfl⟩ si_D_plan (Nat.le_of_ble_eq_true rfl) ⟨trivial, trivial, trivial, trivial, trivial⟩ [] 40 (fun X hX K R1 T1 hK hR hT => ?_)
  conv => whnf
  rw [e1]
  refine ⟨vp_in_nI (by omega) (by decide), ?_⟩
  rw [nI_clamp (by omega)]
  conv => whnf
  rw [e2]
  refine ⟨vp_in_nI (by omega) (by decide), ?_⟩
  rw [nI_clamp (by omega)]
  conv => whnf
  exact hR _ _ rfl
def ct_D_plan : CTy := fun as σ KN _ => ∃ (i : Nat) (p w : Int32), as = [.inl (nI i), .inl p, .inl w] ∧ i < 4 ∧ KN none (st (st σ 3 (2 * i) p) 3 (2 * i + 1) w)
theorem s_D_plan : Snd y_D_plan mi_D_plan 1 3 ct_D_plan := by
  intro as σ KN KX _ ⟨i, p, w, e, hi, hf⟩
  subst e
  exact ⟨.inl (_, _), hf, c_D_plan i p w σ hi⟩
/-! one write: the power fails, or the word is there and the count -/
def wrF (σ : Mem) : Mem := st (st σ 1 3 (-1)) 1 4 1
def wrD (σ : Mem) : Mem := if σ 1 3 ≤ 0 then σ else st σ 1 3 (σ 1 3 - 1)
def wrO (σ : Mem) (p : Nat) (w : Int32) : Mem := st (st (wrD σ) 2 p w) 1 2 (σ 1 2 + 1)
def mi_D_write : MI := (b_D_write, 3, "RootedWords$Disk", none, 0, tbl_of 62 f_D_write, fl_D, [], [(17, "java/lang/IllegalStateException")])
theorem ok_D_write : MOK mi_D_write := ⟨tbl_ok k_D_write, flok_D rfl, (fun _ h => absurd h List.not_mem_nil)⟩
theorem si_D_write : ∀ q ∈ m_tr mi_D_write, SiteF mi_D_write q := List.forall_mem_cons.mpr ⟨⟨36, 38, 40, "the power has failed", ⟨by decide +kernel, by decide +kernel, by decide +kernel, by decide +kernel, by decide +kernel⟩, by decide +kernel, Or.inl th_D_36⟩, (fun _ h => absurd h List.not_mem_nil)⟩
theorem c_D_writeF (p w : Int32) (σ : Mem) (h : σ 1 3 = 0) : MetO y_D_write mi_D_write [.inr (.inl 1), .inl p, .inl w] σ (.inr (eIS, wrF σ)) := by
  refine met_go ok_D_write ⟨rfl, rfl⟩ si_D_write (Nat.le_of_ble_eq_true rfl) ⟨trivial, trivial, trivial, trivial⟩ [] 60 (fun X hX K R1 T1 hK hR hT => ?_)
  conv => whnf
  refine ⟨fun h1 => absurd h h1, fun _ => ?_⟩
  conv => whnf
  refine ⟨Or.inr rfl, ?_⟩
  conv => whnf
  exact hT _ _ _ rfl
theorem c_D_writeO (p w : Int32) (σ : Mem) (hp : vp_in p 274) (h : ¬ σ 1 3 = 0) : MetO y_D_write mi_D_write [.inr (.inl 1), .inl p, .inl w] σ (.inl (none, wrO σ p.toNatClampNeg w)) := by
  refine met_go ok_D_write ⟨rfl, rfl⟩ si_D_write (Nat.le_of_ble_eq_true rfl) ⟨trivial, trivial, trivial, trivial⟩ [] 60 (fun X hX K R1 T1 hK hR hT => ?_)
  conv => whnf
  refine ⟨fun _ => ?_, fun h1 => absurd h1 h⟩
  conv => whnf
  refine ⟨fun h2 => ?_, fun h2 => ?_⟩
  · conv => whnf
    refine ⟨hp, ?_⟩
    conv => whnf
    refine hR _ _ ?_
    unfold wrO wrD
    rw [if_pos h2]; rfl
  · conv => whnf
    refine ⟨hp, ?_⟩
    conv => whnf
    refine hR _ _ ?_
    unfold wrO wrD
    rw [if_neg h2]; rfl
def ct_D_write : CTy := fun as σ KN KX => match as with
  | [.inl p, .inl w] => vp_in p 274 ∧ (σ 1 3 = 0 → KX eIS (wrF σ)) ∧ (¬ σ 1 3 = 0 → KN none (wrO σ p.toNatClampNeg w))
  | _ => False
theorem s_D_write : Snd y_D_write mi_D_write 1 2 ct_D_write := by
  intro as σ KN KX _ hf
  match as, hf with
  | [.inl p, .inl w], hf =>
    by_cases h : σ 1 3 = 0
    · exact ⟨.inr (_, _), hf.2.1 h, c_D_writeF p w σ h⟩
    · exact ⟨.inl (_, _), hf.2.2 h, c_D_writeO p w σ hf.1 h⟩
/-! many writes: what they leave, and whether the power failed -/
def wrs : Mem → List (Nat × Int32) → Mem × Bool
  | σ, [] => (σ, false)
  | σ, q :: l => if σ 1 3 = 0 then (wrF σ, true) else wrs (wrO σ q.1 q.2) l
def wou (σ : Mem) (l : List (Nat × Int32)) (r : Option AV) : OC := if (wrs σ l).2 = true then .inr (eIS, (wrs σ l).1) else .inl (r, (wrs σ l).1)
theorem wou_nil (σ : Mem) (r : Option AV) : wou σ [] r = .inl (r, σ) := rfl
theorem wou_fail {σ : Mem} (h : σ 1 3 = 0) (q : Nat × Int32) (l : List (Nat × Int32)) (r : Option AV) : wou σ (q :: l) r = .inr (eIS, wrF σ) := by
  unfold wou wrs
  rw [if_pos h]; rfl
theorem wou_step {σ : Mem} (h : ¬ σ 1 3 = 0) (p : Nat) (w : Int32) (l : List (Nat × Int32)) (r : Option AV) : wou σ ((p, w) :: l) r = wou (wrO σ p w) l r := by
  have e : wrs σ ((p, w) :: l) = wrs (wrO σ p w) l := by
    show (if σ 1 3 = 0 then (wrF σ, true) else wrs (wrO σ p w) l) = _
    rw [if_neg h]
  unfold wou
  rw [e]
theorem wrs_app : ∀ (l1 l2 : List (Nat × Int32)) (σ : Mem), wrs σ (l1 ++ l2) = if (wrs σ l1).2 = true then wrs σ l1 else wrs (wrs σ l1).1 l2
  | [], l2, σ => rfl
  | q :: l1, l2, σ => by
    show (if σ 1 3 = 0 then (wrF σ, true) else wrs (wrO σ q.1 q.2) (l1 ++ l2)) = (if (if σ 1 3 = 0 then (wrF σ, true) else wrs (wrO σ q.1 q.2) l1).2 = true then (if σ 1 3 = 0 then (wrF σ, true) else wrs (wrO σ q.1 q.2) l1) else wrs (if σ 1 3 = 0 then (wrF σ, true) else wrs (wrO σ q.1 q.2) l1).1 l2)
    by_cases h : σ 1 3 = 0
    · rw [if_pos h, if_pos h]; rfl
    · rw [if_neg h, if_neg h]; exact wrs_app l1 l2 _
/-- a write changes the disk's words, counts, and failure alone -/
theorem wrO_ne (σ : Mem) (p : Nat) (w : Int32) (a : Nat) (h1 : a ≠ 1) (h2 : a ≠ 2) : wrO σ p w a = σ a := by
  unfold wrO wrD
  rw [st_ne _ _ _ h1, st_ne _ _ _ h2]
  split
  · rfl
  · rw [st_ne _ _ _ h1]
theorem wrO_2 (σ : Mem) (p : Nat) (w : Int32) : wrO σ p w 2 = upd (σ 2) p w := by
  unfold wrO wrD
  rw [st_ne _ _ _ (by decide), st_self]
  split
  · rfl
  · rw [st_ne _ _ _ (by decide)]
theorem wrO_4 (σ : Mem) (p : Nat) (w : Int32) : wrO σ p w 1 4 = σ 1 4 := by
  unfold wrO wrD
  split <;> rfl
theorem wrF_ne (σ : Mem) (a : Nat) (h1 : a ≠ 1) : wrF σ a = σ a := by
  unfold wrF
  rw [st_ne _ _ _ h1, st_ne _ _ _ h1]
theorem upd_s (f : Nat → Int32) (k : Nat) (x : Int32) : upd f k x k = x := if_pos rfl
theorem upd_n (f : Nat → Int32) {k j : Nat} (x : Int32) (h : j ≠ k) : upd f k x j = f j := if_neg h
/-- what a note says: pairs of place and word -/
def fin : (Nat → Int32) → Nat → Nat → List (Nat × Int32)
  | _, _, 0 => []
  | w, i, n + 1 => ((w (266 + 2 * i)).toNatClampNeg, w (267 + 2 * i)) :: fin w (i + 1) n
theorem fin_cong {w v : Nat → Int32} : ∀ (n i : Nat), (∀ j, 266 ≤ j → w j = v j) → fin w i n = fin v i n
  | 0, _, _ => rfl
  | n + 1, i, h => by
    show (_, _) :: _ = (_, _) :: _
    rw [h _ (by omega), h _ (by omega), fin_cong n (i + 1) h]
def nOK (w : Nat → Int32) (k : Nat) : Prop := w 265 = nI k ∧ k ≤ 4 ∧ ∀ i, i < k → ∃ q, q < 265 ∧ w (266 + 2 * i) = nI q
def mi_D_finishChange : MI := (b_D_finishChange, 3, "RootedWords$Disk", none, 1, tbl_of 61 f_D_finishChange, fl_D, [(29, (1, 2, ct_D_write))], [])
theorem ok_D_finishChange : MOK mi_D_finishChange := ⟨tbl_ok k_D_finishChange, flok_D rfl, List.forall_mem_cons.mpr ⟨okV 1 (by decide) s_D_write rfl (Nat.le_of_ble_eq_true rfl) (Nat.le_of_ble_eq_true rfl) (by decide +kernel) lk_D_29 vv_D_write, (fun _ h => absurd h List.not_mem_nil)⟩⟩
theorem si_D_finishChange : ∀ q ∈ m_tr mi_D_finishChange, SiteF mi_D_finishChange q := (fun _ h => absurd h List.not_mem_nil)
theorem c_D_finishChange_loop {X : CT} {oc : OC} (hX : CxO X mi_D_finishChange oc) (k : Nat) (w : Nat → Int32) (hw : nOK w k) : ∀ (n i : Nat) (σ : Mem), i + n = k → (∀ j, 265 ≤ j → σ 2 j = w j) → oc = wou σ (fin w i n ++ [(265, 0)]) none →
    Go X mi_D_finishChange 11 [some (.inr (.inl 1)), some (.inl (nI k)), some (.inl (nI i))] [] σ := by
  intro n
  induction n with
  | zero =>
    intro i σ hi hσ ho
    obtain rfl : i = k := by omega
    refine Go_run ok_D_finishChange hX [11] 60 (fun K R1 T1 hK hR hT => ?_)
    conv => whnf
    refine ⟨fun _ => ?_, fun h => absurd (nI_le (Nat.le_refl i) (by have := hw.2.1; omega)) h⟩
    conv => whnf
    refine ⟨vp_in_nI (by decide) (by decide), fun h0 => ?_, fun h0 => ?_⟩
    · exact hT _ _ _ (by rw [ho]; exact wou_fail h0 _ _ _)
    · conv => whnf
      exact hR _ _ (by rw [ho]; exact wou_step h0 _ _ _ _)
  | succ n ih =>
    intro i σ hi hσ ho
    have hk := hw.2.1
    obtain ⟨q, hq, hq2⟩ := hw.2.2 i (by omega)
    have e1 : nI 266 + nI 2 * nI i = nI (266 + 2 * i) := by rw [pk_mul, nI_add]
    have e2 : nI 266 + nI 2 * nI i + nI 1 = nI (267 + 2 * i) := by rw [e1, nI_add, show 266 + 2 * i + 1 = 267 + 2 * i by omega]
    refine Go_run ok_D_finishChange hX [11] 60 (fun K R1 T1 hK hR hT => ?_)
    conv => whnf
    refine ⟨fun h => absurd h (nI_ge (by omega) (by omega)), fun _ => ?_⟩
    conv => whnf
    rw [e1]
    refine ⟨vp_in_nI (by omega) (by decide), ?_⟩
    rw [nI_clamp (by omega), hσ _ (by omega)]
    conv => whnf
    rw [e2]
    refine ⟨vp_in_nI (by omega) (by decide), ?_⟩
    rw [nI_clamp (by omega), hσ _ (by omega)]
    conv => whnf
    rw [hq2]
    refine ⟨vp_in_nI (by omega) (by decide), fun h0 => ?_, fun h0 => ?_⟩
    · exact hT _ _ _ (by rw [ho]; exact wou_fail h0 _ _ _)
    · conv => whnf
      refine hK _ _ _ _ ?_
      have e3 : nI i + nI 1 = nI (i + 1) := nI_add i 1
      show Go X mi_D_finishChange 11 [some (.inr (.inl 1)), some (.inl (nI k)), some (.inl (nI i + nI 1))] [] _
      rw [e3]
      refine ih (i + 1) _ (by omega) (fun j hj => ?_) ?_
      · rw [wrO_2, upd_n _ _ (by rw [nI_clamp (by omega)]; omega)]
        exact hσ j hj
      · rw [ho]
        show wou σ (((w (266 + 2 * i)).toNatClampNeg, w (267 + 2 * i)) :: (fin w (i + 1) n ++ [(265, 0)])) none = _
        rw [hq2, wou_step h0]
theorem c_D_finishChange (k : Nat) (σ : Mem) (hw : nOK (σ 2) k) : MetO y_D_finishChange mi_D_finishChange [.inr (.inl 1)] σ (wou σ (fin (σ 2) 0 k ++ [(265, 0)]) none) := by
  refine met_go ok_D_finishChange ⟨rfl, rfl⟩ si_D_finishChange (Nat.le_of_ble_eq_true rfl) ⟨trivial, trivial⟩ [11] 60 (fun X hX K R1 T1 hK hR hT => ?_)
  conv => whnf
  refine ⟨vp_in_nI (by decide) (by decide), ?_⟩
  conv => whnf
  refine hK _ _ _ _ ?_
  show Go X mi_D_finishChange 11 [some (.inr (.inl 1)), some (.inl (σ 2 265)), some (.inl (nI 0))] [] σ
  rw [hw.1]
  exact c_D_finishChange_loop hX k (σ 2) hw k 0 σ (by omega) (fun j _ => rfl) rfl
def ct_D_finishChange : CTy := fun as σ KN KX => match as with
  | [] => ∃ k, nOK (σ 2) k ∧ (∀ σ', wrs σ (fin (σ 2) 0 k ++ [(265, 0)]) = (σ', false) → KN none σ') ∧ (∀ σ', wrs σ (fin (σ 2) 0 k ++ [(265, 0)]) = (σ', true) → KX eIS σ')
  | _ => False
theorem wou_use {y : MethodName} {M : MI} {as : List AV} {σ : Mem} {l : List (Nat × Int32)} {r : Option AV} {KN : Option AV → Mem → Prop} {KX : String → Mem → Prop} (hm : MetO y M as σ (wou σ l r)) (h1 : ∀ σ', wrs σ l = (σ', false) → KN r σ') (h2 : ∀ σ', wrs σ l = (σ', true) → KX eIS σ') :
    ∃ oc : OC, (match oc with | .inl z => KN z.1 z.2 | .inr z => KX z.1 z.2) ∧ MetO y M as σ oc := by
  refine ⟨_, ?_, hm⟩
  unfold wou
  by_cases h : (wrs σ l).2 = true
  · rw [if_pos h]; exact h2 _ (Prod.ext rfl h)
  · rw [if_neg h]; exact h1 _ (Prod.ext rfl (Bool.not_eq_true _ ▸ h))
theorem s_D_finishChange : Snd y_D_finishChange mi_D_finishChange 1 0 ct_D_finishChange := by
  intro as σ KN KX _ hf
  match as, hf with
  | [], ⟨k, hw, h1, h2⟩ => exact wou_use (c_D_finishChange k σ hw) h1 h2
end
section
/-! the heap, abstractly: N extents, their lengths, their kinds (0 free, one more than the pointers of a used one) -/
def pos (ln : Nat → Nat) : Nat → Nat
  | 0 => 1
  | i + 1 => pos ln i + ln i
def HP (w : Nat → Int32) (N : Nat) (ln kd : Nat → Nat) : Prop := pos ln N = 257 ∧ ∀ i, i < N → 3 ≤ ln i ∧ kd i + 1 ≤ ln i ∧ w (pos ln i) = nI (256 * ln i + kd i) ∧ w (pos ln i + ln i - 1) = nI (256 * ln i + kd i)
theorem pos_mono {ln : Nat → Nat} {i : Nat} : ∀ {j : Nat}, i ≤ j → pos ln i ≤ pos ln j
  | 0, h => by obtain rfl : i = 0 := by omega
               exact Nat.le_refl _
  | j + 1, h => by
    rcases Nat.lt_or_ge j i with q | q
    · obtain rfl : i = j + 1 := by omega
      exact Nat.le_refl _
    · exact Nat.le_trans (pos_mono (j := j) q) (Nat.le_add_right _ _)
theorem pos_lo {ln : Nat → Nat} {N : Nat} (h : ∀ i, i < N → 3 ≤ ln i) : ∀ i, i ≤ N → 1 + 3 * i ≤ pos ln i
  | 0, _ => Nat.le_refl _
  | i + 1, hi => by
    have h1 := pos_lo h i (by omega)
    have h2 := h i (by omega)
    show 1 + 3 * (i + 1) ≤ pos ln i + ln i
    omega
theorem pos_pos (ln : Nat → Nat) : ∀ i, 1 ≤ pos ln i
  | 0 => Nat.le_refl _
  | i + 1 => Nat.le_trans (pos_pos ln i) (Nat.le_add_right _ _)
section HP
variable {w : Nat → Int32} {N : Nat} {ln kd : Nat → Nat}
theorem HP.ln3 (h : HP w N ln kd) {i : Nat} (hi : i < N) : 3 ≤ ln i := (h.2 i hi).1
theorem HP.kdl (h : HP w N ln kd) {i : Nat} (hi : i < N) : kd i + 1 ≤ ln i := (h.2 i hi).2.1
theorem HP.tag (h : HP w N ln kd) {i : Nat} (hi : i < N) : w (pos ln i) = nI (256 * ln i + kd i) := (h.2 i hi).2.2.1
theorem HP.tag2 (h : HP w N ln kd) {i : Nat} (hi : i < N) : w (pos ln i + ln i - 1) = nI (256 * ln i + kd i) := (h.2 i hi).2.2.2
theorem HP.end (h : HP w N ln kd) {i : Nat} (hi : i < N) : pos ln i + ln i ≤ 257 := by
  have h1 := pos_mono (ln := ln) (i := i + 1) (j := N) hi
  rw [h.1] at h1
  exact h1
theorem HP.N85 (h : HP w N ln kd) : N ≤ 85 := by
  have h1 := pos_lo (fun i hi => h.ln3 hi) N (Nat.le_refl N)
  rw [h.1] at h1
  omega
theorem HP.pos1 (h : HP w N ln kd) : 1 ≤ N := by
  rcases Nat.eq_zero_or_pos N with q | q
  · have h1 := h.1
    rw [q] at h1
    exact absurd h1 (by show ¬ 1 = 257; decide)
  · exact q
theorem HP.lt (h : HP w N ln kd) {i : Nat} (hi : i < N) : pos ln i ≤ 254 ∧ pos ln i + 1 < 257 ∧ ln i ≤ 256 ∧ kd i < 256 ∧ 1 ≤ pos ln i := by
  have h1 := h.end hi
  have h2 := h.ln3 hi
  have h3 := h.kdl hi
  have h4 := pos_pos ln i
  omega
theorem HP.inj (h : HP w N ln kd) {i j : Nat} (hi : i < N) (hj : j < N) (e : pos ln i = pos ln j) : i = j := by
  rcases Nat.lt_trichotomy i j with q | q | q
  · have h1 := pos_mono (ln := ln) (i := i + 1) (j := j) q
    have h2 := h.ln3 hi
    have : pos ln (i + 1) = pos ln i + ln i := rfl
    omega
  · exact q
  · have h1 := pos_mono (ln := ln) (i := j + 1) (j := i) q
    have h2 := h.ln3 hj
    have : pos ln (j + 1) = pos ln j + ln j := rfl
    omega
theorem HP.sep (h : HP w N ln kd) {i j : Nat} (hi : i < N) (q : i < j) : pos ln i + ln i ≤ pos ln j := pos_mono (ln := ln) (i := i + 1) (j := j) q
/-- what the heap is, is read of the words 1 .. 256 alone -/
theorem HP.cong {v : Nat → Int32} (h : HP w N ln kd) (e : ∀ j, 1 ≤ j → j ≤ 256 → v j = w j) : HP v N ln kd := by
  refine ⟨h.1, fun i hi => ?_⟩
  have h1 := h.lt hi
  have h2 := h.end hi
  have h3 := h.ln3 hi
  refine ⟨h3, h.kdl hi, ?_, ?_⟩
  · rw [e _ (by omega) (by omega)]; exact h.tag hi
  · rw [e _ (by omega) (by omega)]; exact h.tag2 hi
end HP
theorem nI_inj {a b : Nat} (ha : a < 2 ^ 31) (hb : b < 2 ^ 31) (h : nI a = nI b) : a = b := (nI_eq ha hb).mp h
theorem nI_eqI {a b : Nat} (h : a = b) : nI a = nI b := by rw [h]
theorem tag_len {n k : Nat} (hk : k < 256) (hn : n < 1000) : nI (256 * n + k) / nI 256 = nI n := by
  rw [pk_div (by omega) (by decide) (by decide)]
  exact nI_eqI (by omega)
theorem tag_kind {n k : Nat} (hk : k < 256) (hn : n < 1000) : nI (256 * n + k) - nI (256 * n + k) / nI 256 * nI 256 = nI k := by
  rw [pk_rem (by omega) (by decide) (by decide)]
  exact nI_eqI (by omega)
/-- an array as a whole -/
def stA (σ : Mem) (o : Nat) (f : Nat → Int32) : Mem := fun a => if a = o then f else σ a
theorem st_stA (σ : Mem) (o k : Nat) (v : Int32) : st σ o k v = stA σ o (upd (σ o) k v) := rfl
theorem stA_self (σ : Mem) (o : Nat) (f : Nat → Int32) : stA σ o f o = f := if_pos rfl
theorem stA_ne (σ : Mem) {o a : Nat} (f : Nat → Int32) (h : a ≠ o) : stA σ o f a = σ a := if_neg h
theorem stA_stA (σ : Mem) (o : Nat) (f g : Nat → Int32) : stA (stA σ o f) o g = stA σ o g := by
  funext a
  unfold stA
  split <;> rfl
theorem stA_id (σ : Mem) (o : Nat) : stA σ o (σ o) = σ := by
  funext a
  unfold stA
  split
  · rename_i h; rw [h]
  · rfl
theorem stA_comm (σ : Mem) {o p : Nat} (f g : Nat → Int32) (h : o ≠ p) : stA (stA σ o f) p g = stA (stA σ p g) o f := by
  funext a
  unfold stA
  by_cases h1 : a = o
  · rw [if_pos h1, if_neg (by rw [h1]; exact h), if_pos h1]
  · rw [if_neg h1, if_neg h1]
/-- the first i places filled -/
def fl0 (g f : Nat → Int32) (i : Nat) : Nat → Int32 := fun j => if j < i then g j else f j
theorem fl0_0 (g f : Nat → Int32) : fl0 g f 0 = f := funext fun _ => if_neg (Nat.not_lt_zero _)
theorem fl0_s (g f : Nat → Int32) (i : Nat) : upd (fl0 g f i) i (g i) = fl0 g f (i + 1) := by
  funext j
  unfold upd fl0
  by_cases h : j = i
  · rw [if_pos h, if_pos (by omega), h]
  · rw [if_neg h]
    by_cases h2 : j < i
    · rw [if_pos h2, if_pos (by omega)]
    · rw [if_neg h2, if_neg (by omega)]
theorem fl0_in {g f : Nat → Int32} {i j : Nat} (h : j < i) : fl0 g f i j = g j := if_pos h
theorem fl0_out {g f : Nat → Int32} {i j : Nat} (h : i ≤ j) : fl0 g f i j = f j := if_neg (by omega)
def lsF (σ : Mem) (ln : Nat → Nat) (N : Nat) : Mem := stA σ 4 (fl0 (fun j => nI (pos ln j)) (σ 4) N)
theorem lsF_ne (σ : Mem) (ln : Nat → Nat) (N a : Nat) (h : a ≠ 4) : lsF σ ln N a = σ a := stA_ne _ _ h
theorem lsF_4 (σ : Mem) (ln : Nat → Nat) (N j : Nat) (h : j < N) : lsF σ ln N 4 j = nI (pos ln j) := by
  unfold lsF
  rw [stA_self, fl0_in h]
theorem lsF_lsF (σ : Mem) (ln : Nat → Nat) (N : Nat) : lsF (lsF σ ln N) ln N = lsF σ ln N := by
  unfold lsF
  rw [stA_stA, stA_self]
  congr 1
  funext j
  unfold fl0
  by_cases h : j < N
  · rw [if_pos h, if_pos h]
  · rw [if_neg h, if_neg h]
end
section
/-! ===== the class: small methods ===== -/
def mi_X_tag : MI := (b_X_tag, 2, "RootedWords", some .int, 0, tbl_of 8 f_X_tag, fl_X, [], [])
theorem ok_X_tag : MOK mi_X_tag := ⟨tbl_ok k_X_tag, flok_X rfl, (fun _ h => absurd h List.not_mem_nil)⟩
theorem si_X_tag : ∀ q ∈ m_tr mi_X_tag, SiteF mi_X_tag q := (fun _ h => absurd h List.not_mem_nil)
theorem c_X_tag (n k : Int32) (σ : Mem) : MetO y_X_tag mi_X_tag [.inl n, .inl k] σ (.inl (some (.inl (n * nI 256 + k)), σ)) := by
  refine met_go ok_X_tag ⟨rfl, rfl⟩ si_X_tag (Nat.le_of_ble_eq_true rfl) ⟨trivial, trivial, trivial⟩ [] 40 (fun X hX K R1 T1 hK hR hT => ?_)
  conv => whnf
  exact hR _ _ rfl
def ct_X_tag : CTy := fun as σ KN _ => match as with
  | [.inl n, .inl k] => KN (some (.inl (n * nI 256 + k))) σ
  | _ => False
theorem s_X_tag : SndS y_X_tag mi_X_tag 2 ct_X_tag := by
  intro as σ KN KX _ hf
  match as, hf with
  | [.inl n, .inl k], hf => exact ⟨.inl (_, _), hf, c_X_tag n k σ⟩
def mi_X_lengthAt : MI := (b_X_lengthAt, 2, "RootedWords", some .int, 1, tbl_of 13 f_X_lengthAt, fl_X, [(90, (1, 1, ct_D_word))], [])
theorem ok_X_lengthAt : MOK mi_X_lengthAt := ⟨tbl_ok k_X_lengthAt, flok_X rfl, List.forall_mem_cons.mpr ⟨okV 1 (by decide) s_D_word rfl (Nat.le_of_ble_eq_true rfl) (Nat.le_of_ble_eq_true rfl) (by decide +kernel) lk_X_90 vv_D_word, (fun _ h => absurd h List.not_mem_nil)⟩⟩
theorem si_X_lengthAt : ∀ q ∈ m_tr mi_X_lengthAt, SiteF mi_X_lengthAt q := (fun _ h => absurd h List.not_mem_nil)
theorem c_X_lengthAt (p : Int32) (σ : Mem) (hp : vp_in p 274) : MetO y_X_lengthAt mi_X_lengthAt [.inr (.inl 0), .inl p] σ (.inl (some (.inl (σ 2 p.toNatClampNeg / nI 256)), σ)) := by
  refine met_go ok_X_lengthAt ⟨rfl, rfl⟩ si_X_lengthAt (Nat.le_of_ble_eq_true rfl) ⟨trivial, trivial, trivial⟩ [] 40 (fun X hX K R1 T1 hK hR hT => ?_)
  conv => whnf
  refine ⟨hp, ?_⟩
  conv => whnf
  refine ⟨by decide, ?_⟩
  conv => whnf
  exact hR _ _ rfl
/-- the tag at a place -/
def tgAt (w : Nat → Int32) (p n k : Nat) : Prop := w p = nI (256 * n + k) ∧ n < 1000 ∧ k < 256 ∧ p < 274
def ct_X_lengthAt : CTy := fun as σ KN _ => ∃ p n k, as = [.inl (nI p)] ∧ tgAt (σ 2) p n k ∧ KN (some (.inl (nI n))) σ
theorem s_X_lengthAt : Snd y_X_lengthAt mi_X_lengthAt 0 1 ct_X_lengthAt := by
  intro as σ KN KX _ ⟨p, n, k, e, ht, hf⟩
  subst e
  have h := c_X_lengthAt (nI p) σ (vp_in_nI ht.2.2.2 (by decide))
  rw [nI_clamp (by have := ht.2.2.2; omega), ht.1, tag_len ht.2.2.1 ht.2.1] at h
  exact ⟨.inl (_, _), hf, h⟩
def mi_X_kindAt : MI := (b_X_kindAt, 2, "RootedWords", some .int, 1, tbl_of 13 f_X_kindAt, fl_X, [(90, (1, 1, ct_D_word))], [])
theorem ok_X_kindAt : MOK mi_X_kindAt := ⟨tbl_ok k_X_kindAt, flok_X rfl, List.forall_mem_cons.mpr ⟨okV 1 (by decide) s_D_word rfl (Nat.le_of_ble_eq_true rfl) (Nat.le_of_ble_eq_true rfl) (by decide +kernel) lk_X_90 vv_D_word, (fun _ h => absurd h List.not_mem_nil)⟩⟩
theorem si_X_kindAt : ∀ q ∈ m_tr mi_X_kindAt, SiteF mi_X_kindAt q := (fun _ h => absurd h List.not_mem_nil)
theorem c_X_kindAt (p : Int32) (σ : Mem) (hp : vp_in p 274) : MetO y_X_kindAt mi_X_kindAt [.inr (.inl 0), .inl p] σ (.inl (some (.inl (σ 2 p.toNatClampNeg - σ 2 p.toNatClampNeg / nI 256 * nI 256)), σ)) := by
  refine met_go ok_X_kindAt ⟨rfl, rfl⟩ si_X_kindAt (Nat.le_of_ble_eq_true rfl) ⟨trivial, trivial, trivial⟩ [] 40 (fun X hX K R1 T1 hK hR hT => ?_)
  conv => whnf
  refine ⟨hp, ?_⟩
  conv => whnf
  refine ⟨by decide, ?_⟩
  conv => whnf
  exact hR _ _ rfl
def ct_X_kindAt : CTy := fun as σ KN _ => ∃ p n k, as = [.inl (nI p)] ∧ tgAt (σ 2) p n k ∧ KN (some (.inl (nI k))) σ
theorem s_X_kindAt : Snd y_X_kindAt mi_X_kindAt 0 1 ct_X_kindAt := by
  intro as σ KN KX _ ⟨p, n, k, e, ht, hf⟩
  subst e
  have h := c_X_kindAt (nI p) σ (vp_in_nI ht.2.2.2 (by decide))
  rw [nI_clamp (by have := ht.2.2.2; omega), ht.1, tag_kind ht.2.2.1 ht.2.1] at h
  exact ⟨.inl (_, _), hf, h⟩
def mi_X_isFreeAt : MI := (b_X_isFreeAt, 2, "RootedWords", some .boolean, 2, tbl_of 14 f_X_isFreeAt, fl_X, [(158, (0, 1, ct_X_kindAt))], [])
theorem ok_X_isFreeAt : MOK mi_X_isFreeAt := ⟨tbl_ok k_X_isFreeAt, flok_X rfl, List.forall_mem_cons.mpr ⟨okV 0 (by decide) s_X_kindAt rfl (Nat.le_of_ble_eq_true rfl) (Nat.le_of_ble_eq_true rfl) (by decide +kernel) lk_X_158 vv_X_kindAt, (fun _ h => absurd h List.not_mem_nil)⟩⟩
theorem si_X_isFreeAt : ∀ q ∈ m_tr mi_X_isFreeAt, SiteF mi_X_isFreeAt q := (fun _ h => absurd h List.not_mem_nil)
def fr (k : Nat) : Int32 := if k = 0 then 1 else 0
theorem c_X_isFreeAt (p n k : Nat) (σ : Mem) (ht : tgAt (σ 2) p n k) : MetO y_X_isFreeAt mi_X_isFreeAt [.inr (.inl 0), .inl (nI p)] σ (.inl (some (.inl (fr k)), σ)) := by
  refine met_go ok_X_isFreeAt ⟨rfl, rfl⟩ si_X_isFreeAt (Nat.le_of_ble_eq_true rfl) ⟨trivial, trivial, trivial⟩ [] 40 (fun X hX K R1 T1 hK hR hT => ?_)
  conv => whnf
  refine ⟨p, n, k, rfl, ht, ?_⟩
  conv => whnf
  refine ⟨fun h => ?_, fun h => ?_⟩
  · conv => whnf
    refine ⟨rfl, hR _ _ ?_⟩
    have h1 : ¬ k = 0 := fun e => h (by rw [e]; rfl)
    unfold fr
    rw [if_neg h1]; rfl
  · conv => whnf
    refine ⟨rfl, hR _ _ ?_⟩
    have h1 : k = 0 := nI_inj (by have := ht.2.2.1; omega) (by decide) h
    unfold fr
    rw [if_pos h1]; rfl
def ct_X_isFreeAt : CTy := fun as σ KN _ => ∃ p n k, as = [.inl (nI p)] ∧ tgAt (σ 2) p n k ∧ KN (some (.inl (fr k))) σ
theorem s_X_isFreeAt : Snd y_X_isFreeAt mi_X_isFreeAt 0 1 ct_X_isFreeAt := by
  intro as σ KN KX _ ⟨p, n, k, e, ht, hf⟩
  subst e
  exact ⟨.inl (_, _), hf, c_X_isFreeAt p n k σ ht⟩
def mi_X_contentAt : MI := (b_X_contentAt, 2, "RootedWords", some .int, 2, tbl_of 8 f_X_contentAt, fl_X, [(55, (0, 1, ct_X_lengthAt))], [])
theorem ok_X_contentAt : MOK mi_X_contentAt := ⟨tbl_ok k_X_contentAt, flok_X rfl, List.forall_mem_cons.mpr ⟨okV 0 (by decide) s_X_lengthAt rfl (Nat.le_of_ble_eq_true rfl) (Nat.le_of_ble_eq_true rfl) (by decide +kernel) lk_X_55 vv_X_lengthAt, (fun _ h => absurd h List.not_mem_nil)⟩⟩
theorem si_X_contentAt : ∀ q ∈ m_tr mi_X_contentAt, SiteF mi_X_contentAt q := (fun _ h => absurd h List.not_mem_nil)
theorem c_X_contentAt (p n k : Nat) (σ : Mem) (ht : tgAt (σ 2) p n k) (h2 : 2 ≤ n) : MetO y_X_contentAt mi_X_contentAt [.inr (.inl 0), .inl (nI p)] σ (.inl (some (.inl (nI (n - 2))), σ)) := by
  refine met_go ok_X_contentAt ⟨rfl, rfl⟩ si_X_contentAt (Nat.le_of_ble_eq_true rfl) ⟨trivial, trivial, trivial⟩ [] 40 (fun X hX K R1 T1 hK hR hT => ?_)
  conv => whnf
  refine ⟨p, n, k, rfl, ht, ?_⟩
  conv => whnf
  refine hR _ _ ?_
  rw [pk_sub h2]
def ct_X_contentAt : CTy := fun as σ KN _ => ∃ p n k, as = [.inl (nI p)] ∧ tgAt (σ 2) p n k ∧ 2 ≤ n ∧ KN (some (.inl (nI (n - 2)))) σ
theorem s_X_contentAt : Snd y_X_contentAt mi_X_contentAt 0 1 ct_X_contentAt := by
  intro as σ KN KX _ ⟨p, n, k, e, ht, h2, hf⟩
  subst e
  exact ⟨.inl (_, _), hf, c_X_contentAt p n k σ ht h2⟩
def mi_X_pointersAt : MI := (b_X_pointersAt, 2, "RootedWords", some .int, 2, tbl_of 8 f_X_pointersAt, fl_X, [(158, (0, 1, ct_X_kindAt))], [])
theorem ok_X_pointersAt : MOK mi_X_pointersAt := ⟨tbl_ok k_X_pointersAt, flok_X rfl, List.forall_mem_cons.mpr ⟨okV 0 (by decide) s_X_kindAt rfl (Nat.le_of_ble_eq_true rfl) (Nat.le_of_ble_eq_true rfl) (by decide +kernel) lk_X_158 vv_X_kindAt, (fun _ h => absurd h List.not_mem_nil)⟩⟩
theorem si_X_pointersAt : ∀ q ∈ m_tr mi_X_pointersAt, SiteF mi_X_pointersAt q := (fun _ h => absurd h List.not_mem_nil)
theorem c_X_pointersAt (p n k : Nat) (σ : Mem) (ht : tgAt (σ 2) p n k) (h2 : 1 ≤ k) : MetO y_X_pointersAt mi_X_pointersAt [.inr (.inl 0), .inl (nI p)] σ (.inl (some (.inl (nI (k - 1))), σ)) := by
  refine met_go ok_X_pointersAt ⟨rfl, rfl⟩ si_X_pointersAt (Nat.le_of_ble_eq_true rfl) ⟨trivial, trivial, trivial⟩ [] 40 (fun X hX K R1 T1 hK hR hT => ?_)
  conv => whnf
  refine ⟨p, n, k, rfl, ht, ?_⟩
  conv => whnf
  refine hR _ _ ?_
  rw [pk_sub h2]
def ct_X_pointersAt : CTy := fun as σ KN _ => ∃ p n k, as = [.inl (nI p)] ∧ tgAt (σ 2) p n k ∧ 1 ≤ k ∧ KN (some (.inl (nI (k - 1)))) σ
theorem s_X_pointersAt : Snd y_X_pointersAt mi_X_pointersAt 0 1 ct_X_pointersAt := by
  intro as σ KN KX _ ⟨p, n, k, e, ht, h2, hf⟩
  subst e
  exact ⟨.inl (_, _), hf, c_X_pointersAt p n k σ ht h2⟩
def mi_X_isReachedAt : MI := (b_X_isReachedAt, 2, "RootedWords", some .boolean, 0, tbl_of 18 f_X_isReachedAt, fl_X, [], [])
theorem ok_X_isReachedAt : MOK mi_X_isReachedAt := ⟨tbl_ok k_X_isReachedAt, flok_X rfl, (fun _ h => absurd h List.not_mem_nil)⟩
theorem si_X_isReachedAt : ∀ q ∈ m_tr mi_X_isReachedAt, SiteF mi_X_isReachedAt q := (fun _ h => absurd h List.not_mem_nil)
theorem c_X_isReachedAt (p : Nat) (σ : Mem) (hp : p < 257) : MetO y_X_isReachedAt mi_X_isReachedAt [.inr (.inl 0), .inl (nI p)] σ (.inl (some (.inl (if σ 5 (p + 1) = 2 then 1 else 0)), σ)) := by
  have e1 : nI p + nI 1 = nI (p + 1) := nI_add p 1
  refine met_go ok_X_isReachedAt ⟨rfl, rfl⟩ si_X_isReachedAt (Nat.le_of_ble_eq_true rfl) ⟨trivial, trivial, trivial⟩ [] 40 (fun X hX K R1 T1 hK hR hT => ?_)
  conv => whnf
  rw [e1]
  refine ⟨vp_in_nI (by omega) (by decide), ?_⟩
  rw [nI_clamp (by omega)]
  conv => whnf
  refine ⟨fun h => ?_, fun h => ?_⟩
  · conv => whnf
    refine ⟨rfl, hR _ _ ?_⟩
    have h : ¬ σ 5 (p + 1) = 2 := h
    rw [if_neg h]; rfl
  · conv => whnf
    refine ⟨rfl, hR _ _ ?_⟩
    have h : σ 5 (p + 1) = 2 := h
    rw [if_pos h]; rfl
def ct_X_isReachedAt : CTy := fun as σ KN _ => ∃ p, as = [.inl (nI p)] ∧ p < 257 ∧ KN (some (.inl (if σ 5 (p + 1) = 2 then 1 else 0))) σ
theorem s_X_isReachedAt : Snd y_X_isReachedAt mi_X_isReachedAt 0 1 ct_X_isReachedAt := by
  intro as σ KN KX _ ⟨p, e, hp, hf⟩
  subst e
  exact ⟨.inl (_, _), hf, c_X_isReachedAt p σ hp⟩
def mi_X_refuseWhenDown : MI := (b_X_refuseWhenDown, 1, "RootedWords", none, 1, tbl_of 21 f_X_refuseWhenDown, fl_X, [(125, (1, 0, ct_D_isDown))], [(10, "java/lang/IllegalStateException")])
theorem ok_X_refuseWhenDown : MOK mi_X_refuseWhenDown := ⟨tbl_ok k_X_refuseWhenDown, flok_X rfl, List.forall_mem_cons.mpr ⟨okV 1 (by decide) s_D_isDown rfl (Nat.le_of_ble_eq_true rfl) (Nat.le_of_ble_eq_true rfl) (by decide +kernel) lk_X_125 vv_D_isDown, (fun _ h => absurd h List.not_mem_nil)⟩⟩
theorem si_X_refuseWhenDown : ∀ q ∈ m_tr mi_X_refuseWhenDown, SiteF mi_X_refuseWhenDown q := List.forall_mem_cons.mpr ⟨⟨144, 146, 148, "the heap is down", ⟨by decide +kernel, by decide +kernel, by decide +kernel, by decide +kernel, by decide +kernel⟩, by decide +kernel, Or.inl th_X_144⟩, (fun _ h => absurd h List.not_mem_nil)⟩
theorem c_X_refuseWhenDown_up (σ : Mem) (h : σ 1 4 = 0) : MetO y_X_refuseWhenDown mi_X_refuseWhenDown [.inr (.inl 0)] σ (.inl (none, σ)) := by
  refine met_go ok_X_refuseWhenDown ⟨rfl, rfl⟩ si_X_refuseWhenDown (Nat.le_of_ble_eq_true rfl) ⟨trivial, trivial⟩ [] 40 (fun X hX K R1 T1 hK hR hT => ?_)
  conv => whnf
  refine ⟨Or.inl h, ?_⟩
  conv => whnf
  refine ⟨fun _ => ?_, fun h1 => absurd h h1⟩
  conv => whnf
  exact hR _ _ rfl
theorem c_X_refuseWhenDown_down (σ : Mem) (h : σ 1 4 = 1) : MetO y_X_refuseWhenDown mi_X_refuseWhenDown [.inr (.inl 0)] σ (.inr (eIS, σ)) := by
  refine met_go ok_X_refuseWhenDown ⟨rfl, rfl⟩ si_X_refuseWhenDown (Nat.le_of_ble_eq_true rfl) ⟨trivial, trivial⟩ [] 40 (fun X hX K R1 T1 hK hR hT => ?_)
  conv => whnf
  refine ⟨Or.inr h, ?_⟩
  conv => whnf
  refine ⟨fun h1 => absurd (h.symm.trans h1) (by decide), fun h1 => ?_⟩
  conv => whnf
  exact hT _ _ _ rfl
def ct_X_refuseWhenDown : CTy := fun as σ KN KX => match as with
  | [] => bl (σ 1 4) ∧ (σ 1 4 = 1 → KX eIS σ) ∧ (σ 1 4 = 0 → KN none σ)
  | _ => False
theorem s_X_refuseWhenDown : Snd y_X_refuseWhenDown mi_X_refuseWhenDown 0 0 ct_X_refuseWhenDown := by
  intro as σ KN KX _ hf
  match as, hf with
  | [], ⟨hb, h1, h2⟩ =>
    rcases hb with h | h
    · exact ⟨.inl (_, _), h2 h, c_X_refuseWhenDown_up σ h⟩
    · exact ⟨.inr (_, _), h1 h, c_X_refuseWhenDown_down σ h⟩
def mi_X_refuseUnlessRoot : MI := (b_X_refuseUnlessRoot, 2, "RootedWords", none, 0, tbl_of 21 f_X_refuseUnlessRoot, fl_X, [], [(10, "java/lang/IndexOutOfBoundsException")])
theorem ok_X_refuseUnlessRoot : MOK mi_X_refuseUnlessRoot := ⟨tbl_ok k_X_refuseUnlessRoot, flok_X rfl, (fun _ h => absurd h List.not_mem_nil)⟩
theorem si_X_refuseUnlessRoot : ∀ q ∈ m_tr mi_X_refuseUnlessRoot, SiteF mi_X_refuseUnlessRoot q := List.forall_mem_cons.mpr ⟨⟨114, 156, 118, "there is no such root", ⟨by decide +kernel, by decide +kernel, by decide +kernel, by decide +kernel, by decide +kernel⟩, by decide +kernel, Or.inl th_X_114⟩, (fun _ h => absurd h List.not_mem_nil)⟩
def rt_ok (r : Int32) : Prop := ¬ r < 0 ∧ r < nI 8
theorem c_X_refuseUnlessRoot_ok (r : Int32) (σ : Mem) (h : rt_ok r) : MetO y_X_refuseUnlessRoot mi_X_refuseUnlessRoot [.inr (.inl 0), .inl r] σ (.inl (none, σ)) := by
  refine met_go ok_X_refuseUnlessRoot ⟨rfl, rfl⟩ si_X_refuseUnlessRoot (Nat.le_of_ble_eq_true rfl) ⟨trivial, trivial, trivial⟩ [] 40 (fun X hX K R1 T1 hK hR hT => ?_)
  conv => whnf
  refine ⟨fun h1 => absurd h1 h.1, fun _ => ?_⟩
  conv => whnf
  refine ⟨fun _ => ?_, fun h1 => absurd h.2 h1⟩
  conv => whnf
  exact hR _ _ rfl
theorem c_X_refuseUnlessRoot_no (r : Int32) (σ : Mem) (h : ¬ rt_ok r) : MetO y_X_refuseUnlessRoot mi_X_refuseUnlessRoot [.inr (.inl 0), .inl r] σ (.inr (eIO, σ)) := by
  refine met_go ok_X_refuseUnlessRoot ⟨rfl, rfl⟩ si_X_refuseUnlessRoot (Nat.le_of_ble_eq_true rfl) ⟨trivial, trivial, trivial⟩ [] 40 (fun X hX K R1 T1 hK hR hT => ?_)
  conv => whnf
  refine ⟨fun _ => ?_, fun h1 => ?_⟩
  · conv => whnf
    exact hT _ _ _ rfl
  · conv => whnf
    refine ⟨fun h2 => absurd ⟨h1, h2⟩ h, fun _ => ?_⟩
    conv => whnf
    exact hT _ _ _ rfl
def ct_X_refuseUnlessRoot : CTy := fun as σ KN KX => match as with
  | [.inl r] => (¬ rt_ok r → KX eIO σ) ∧ (rt_ok r → KN none σ)
  | _ => False
theorem s_X_refuseUnlessRoot : Snd y_X_refuseUnlessRoot mi_X_refuseUnlessRoot 0 1 ct_X_refuseUnlessRoot := by
  intro as σ KN KX _ hf
  match as, hf with
  | [.inl r], hf =>
    by_cases h : rt_ok r
    · exact ⟨.inl (_, _), hf.2 h, c_X_refuseUnlessRoot_ok r σ h⟩
    · exact ⟨.inr (_, _), hf.1 h, c_X_refuseUnlessRoot_no r σ h⟩
end
section
/-! ===== the class: the list of extents, and what is read of it ===== -/
theorem tg_of {w : Nat → Int32} {N : Nat} {ln kd : Nat → Nat} (h : HP w N ln kd) {i : Nat} (hi : i < N) : tgAt w (pos ln i) (ln i) (kd i) := by
  have h1 := h.lt hi
  exact ⟨h.tag hi, by omega, h1.2.2.2.1, by omega⟩
def mi_X_listExtents : MI := (b_X_listExtents, 3, "RootedWords", some .int, 2, tbl_of 38 f_X_listExtents, fl_X, [(55, (0, 1, ct_X_lengthAt)), (109, (99, 2, ct_max))], [])
theorem ok_X_listExtents : MOK mi_X_listExtents := ⟨tbl_ok k_X_listExtents, flok_X rfl, List.forall_mem_cons.mpr ⟨okV 0 (by decide) s_X_lengthAt rfl (Nat.le_of_ble_eq_true rfl) (Nat.le_of_ble_eq_true rfl) (by decide +kernel) lk_X_55 vv_X_lengthAt, List.forall_mem_cons.mpr ⟨okMax lk_X_109 vs_max.1 vs_max.2.1 vs_max.2.2, (fun _ h => absurd h List.not_mem_nil)⟩⟩⟩
theorem si_X_listExtents : ∀ q ∈ m_tr mi_X_listExtents, SiteF mi_X_listExtents q := (fun _ h => absurd h List.not_mem_nil)
theorem c_X_listExtents_loop {X : CT} {oc : OC} (hX : CxO X mi_X_listExtents oc) {σ : Mem} {N : Nat} {ln kd : Nat → Nat} (h : HP (σ 2) N ln kd) (ho : oc = .inl (some (.inl (nI N)), lsF σ ln N)) : ∀ (n i : Nat), i + n = N →
    Go X mi_X_listExtents 4 [some (.inr (.inl 0)), some (.inl (nI i)), some (.inl (nI (pos ln i)))] [] (stA σ 4 (fl0 (fun j => nI (pos ln j)) (σ 4) i)) := by
  intro n
  have hN := h.N85
  induction n with
  | zero =>
    intro i hi
    obtain rfl : i = N := by omega
    refine Go_run ok_X_listExtents hX [4] 60 (fun K R1 T1 hK hR hT => ?_)
    rw [h.1]
    conv => whnf
    refine ⟨fun _ => ?_, fun h1 => absurd (nI_lt (by decide) (by decide)) h1⟩
    conv => whnf
    exact hR _ _ ho
  | succ n ih =>
    intro i hi
    have hi' : i < N := by omega
    have h1 := h.lt hi'
    have h3 := h.ln3 hi'
    refine Go_run ok_X_listExtents hX [4] 60 (fun K R1 T1 hK hR hT => ?_)
    conv => whnf
    refine ⟨fun h2 => absurd h2 (nI_nlt (by omega) (by decide)), fun _ => ?_⟩
    conv => whnf
    refine ⟨vp_in_nI (by omega) (by decide), ?_⟩
    rw [nI_clamp (by omega)]
    conv => whnf
    refine ⟨pos ln i, ln i, kd i, rfl, tg_of h hi', ?_⟩
    conv => whnf
    refine hK _ _ _ _ ?_
    have e1 : nI i + nI 1 = nI (i + 1) := nI_add i 1
    have e2 : (if nI 3 < nI (ln i) then nI (ln i) else nI 3) = nI (ln i) := by
      by_cases q : nI 3 < nI (ln i)
      · rw [if_pos q]
      · rw [if_neg q]
        exact nI_eqI (by have := (not_congr (nI_ltI (a := 3) (b := ln i) (by decide) (by omega))).mp q; omega)
    have e3 : nI (pos ln i) + nI (ln i) = nI (pos ln (i + 1)) := nI_add _ _
    show Go X mi_X_listExtents 4 [some (.inr (.inl 0)), some (.inl (nI i + nI 1)), some (.inl (nI (pos ln i) + (if nI 3 < nI (ln i) then nI (ln i) else nI 3)))] [] (st (stA σ 4 (fl0 (fun j => nI (pos ln j)) (σ 4) i)) 4 i (nI (pos ln i)))
    rw [e1, e2, e3, st_stA, stA_stA, stA_self, fl0_s (fun j => nI (pos ln j)) (σ 4) i]
    exact ih (i + 1) (by omega)
theorem c_X_listExtents (σ : Mem) (N : Nat) (ln kd : Nat → Nat) (h : HP (σ 2) N ln kd) : MetO y_X_listExtents mi_X_listExtents [.inr (.inl 0)] σ (.inl (some (.inl (nI N)), lsF σ ln N)) := by
  refine met_go ok_X_listExtents ⟨rfl, rfl⟩ si_X_listExtents (Nat.le_of_ble_eq_true rfl) ⟨trivial, trivial⟩ [4] 60 (fun X hX K R1 T1 hK hR hT => ?_)
  conv => whnf
  refine hK _ _ _ _ ?_
  have h9 := c_X_listExtents_loop hX h rfl N 0 (by omega)
  rw [fl0_0, stA_id] at h9
  exact h9
def ct_X_listExtents : CTy := fun as σ KN _ => match as with
  | [] => ∃ N ln kd, HP (σ 2) N ln kd ∧ KN (some (.inl (nI N))) (lsF σ ln N)
  | _ => False
theorem s_X_listExtents : Snd y_X_listExtents mi_X_listExtents 0 0 ct_X_listExtents := by
  intro as σ KN KX _ hf
  match as, hf with
  | [], ⟨N, ln, kd, h, hf⟩ => exact ⟨.inl (_, _), hf, c_X_listExtents σ N ln kd h⟩
theorem HP.ls {σ : Mem} {N : Nat} {ln kd : Nat → Nat} (h : HP (σ 2) N ln kd) : HP (lsF σ ln N 2) N ln kd := h
/-- a used address -/
def Us (N : Nat) (ln kd : Nat → Nat) (a : Int32) : Prop := ∃ i, i < N ∧ kd i ≠ 0 ∧ nI (pos ln i + 1) = a
theorem Us.uniq {w : Nat → Int32} {N : Nat} {ln kd : Nat → Nat} (h : HP w N ln kd) {i j : Nat} {a : Int32} (hi : i < N) (hj : j < N) (e1 : nI (pos ln i + 1) = a) (e2 : nI (pos ln j + 1) = a) : i = j := by
  have h1 := h.lt hi
  have h2 := h.lt hj
  have h3 := nI_inj (a := pos ln i + 1) (b := pos ln j + 1) (by omega) (by omega) (e1.trans e2.symm)
  exact h.inj hi hj (by omega)
theorem fr_0 {k : Nat} : ¬ fr k = 0 ↔ k = 0 := by
  unfold fr
  by_cases h : k = 0
  · rw [if_pos h]; exact ⟨fun _ => h, fun _ => by decide⟩
  · rw [if_neg h]; exact ⟨fun h1 => absurd rfl h1, fun h1 => absurd h1 h⟩
theorem fr_1 {k : Nat} : fr k = 0 ↔ ¬ k = 0 := by
  rw [← fr_0]; exact Decidable.not_not.symm
def mi_X_isUsedAddress : MI := (b_X_isUsedAddress, 4, "RootedWords", some .boolean, 3, tbl_of 51 f_X_isUsedAddress, fl_X, [(72, (0, 1, ct_X_isFreeAt)), (105, (0, 0, ct_X_listExtents))], [])
theorem ok_X_isUsedAddress : MOK mi_X_isUsedAddress := ⟨tbl_ok k_X_isUsedAddress, flok_X rfl, List.forall_mem_cons.mpr ⟨okV 0 (by decide) s_X_isFreeAt rfl (Nat.le_of_ble_eq_true rfl) (Nat.le_of_ble_eq_true rfl) (by decide +kernel) lk_X_72 vv_X_isFreeAt, List.forall_mem_cons.mpr ⟨okV 0 (by decide) s_X_listExtents rfl (Nat.le_of_ble_eq_true rfl) (Nat.le_of_ble_eq_true rfl) (by decide +kernel) lk_X_105 vv_X_listExtents, (fun _ h => absurd h List.not_mem_nil)⟩⟩⟩
theorem si_X_isUsedAddress : ∀ q ∈ m_tr mi_X_isUsedAddress, SiteF mi_X_isUsedAddress q := (fun _ h => absurd h List.not_mem_nil)
theorem c_X_isUsedAddress_loop {X : CT} {oc : OC} (hX : CxO X mi_X_isUsedAddress oc) {σ : Mem} {N : Nat} {ln kd : Nat → Nat} (h : HP (σ 2) N ln kd) (hf : ∀ j, j < N → σ 4 j = nI (pos ln j)) {a r : Int32} (hr : (Us N ln kd a → r = 1) ∧ (¬ Us N ln kd a → r = 0)) (ho : oc = .inl (some (.inl r), σ)) : ∀ (n i : Nat), i + n = N → (∀ j, j < i → ¬ nI (pos ln j + 1) = a) →
    Go X mi_X_isUsedAddress 7 [some (.inr (.inl 0)), some (.inl a), some (.inl (nI N)), some (.inl (nI i))] [] σ := by
  intro n
  have hN := h.N85
  induction n with
  | zero =>
    intro i hi hj
    obtain rfl : i = N := by omega
    refine Go_run ok_X_isUsedAddress hX [7] 60 (fun K R1 T1 hK hR hT => ?_)
    conv => whnf
    refine ⟨fun _ => ?_, fun h1 => absurd (nI_le (Nat.le_refl i) (by omega)) h1⟩
    conv => whnf
    refine ⟨rfl, hR _ _ ?_⟩
    rw [ho, hr.2 (fun ⟨j, h1, _, h2⟩ => hj j h1 h2)]; rfl
  | succ n ih =>
    intro i hi hj
    have hi' : i < N := by omega
    have h1 := h.lt hi'
    have e1 : nI (pos ln i) + nI 1 = nI (pos ln i + 1) := nI_add _ _
    refine Go_run ok_X_isUsedAddress hX [7] 60 (fun K R1 T1 hK hR hT => ?_)
    conv => whnf
    refine ⟨fun h2 => absurd h2 (nI_ge hi' (by omega)), fun _ => ?_⟩
    conv => whnf
    refine ⟨vp_in_nI (by omega) (by decide), ?_⟩
    rw [nI_clamp (by omega), hf i hi']
    conv => whnf
    rw [e1]
    refine ⟨fun h2 => ?_, fun h2 => ?_⟩
    · conv => whnf
      refine hK _ _ _ _ ?_
      have e2 : nI i + nI 1 = nI (i + 1) := nI_add i 1
      show Go X mi_X_isUsedAddress 7 [some (.inr (.inl 0)), some (.inl a), some (.inl (nI N)), some (.inl (nI i + nI 1))] [] σ
      rw [e2]
      refine ih (i + 1) (by omega) (fun j hj1 => ?_)
      rcases Nat.lt_or_ge j i with q | q
      · exact hj j q
      · obtain rfl : j = i := by omega
        exact h2
    · conv => whnf
      refine ⟨vp_in_nI (by omega) (by decide), ?_⟩
      rw [nI_clamp (by omega), hf i hi']
      conv => whnf
      refine ⟨pos ln i, ln i, kd i, rfl, tg_of h hi', ?_⟩
      conv => whnf
      refine ⟨fun h3 => ?_, fun h3 => ?_⟩
      · conv => whnf
        refine ⟨rfl, hR _ _ ?_⟩
        rw [ho, hr.2 (fun ⟨j, g1, g2, g3⟩ => g2 (by rw [Us.uniq h g1 hi' g3 h2]; exact fr_0.mp h3))]; rfl
      · conv => whnf
        refine ⟨rfl, hR _ _ ?_⟩
        rw [ho, hr.1 ⟨i, hi', fr_1.mp h3, h2⟩]; rfl
theorem c_X_isUsedAddress (σ : Mem) (N : Nat) (ln kd : Nat → Nat) (h : HP (σ 2) N ln kd) (a r : Int32) (hr : (Us N ln kd a → r = 1) ∧ (¬ Us N ln kd a → r = 0)) : MetO y_X_isUsedAddress mi_X_isUsedAddress [.inr (.inl 0), .inl a] σ (.inl (some (.inl r), lsF σ ln N)) := by
  refine met_go ok_X_isUsedAddress ⟨rfl, rfl⟩ si_X_isUsedAddress (Nat.le_of_ble_eq_true rfl) ⟨trivial, trivial, trivial⟩ [7] 60 (fun X hX K R1 T1 hK hR hT => ?_)
  conv => whnf
  refine ⟨N, ln, kd, h, ?_⟩
  conv => whnf
  exact hK _ _ _ _ (c_X_isUsedAddress_loop hX (σ := lsF σ ln N) h (fun j hj => lsF_4 σ ln N j hj) hr rfl N 0 (by omega) (fun j hj => absurd hj (Nat.not_lt_zero j)))
def ct_X_isUsedAddress : CTy := fun as σ KN _ => match as with
  | [.inl a] => ∃ N ln kd, HP (σ 2) N ln kd ∧ (Us N ln kd a → KN (some (.inl 1)) (lsF σ ln N)) ∧ (¬ Us N ln kd a → KN (some (.inl 0)) (lsF σ ln N))
  | _ => False
theorem s_X_isUsedAddress : Snd y_X_isUsedAddress mi_X_isUsedAddress 0 1 ct_X_isUsedAddress := by
  intro as σ KN KX _ hf
  match as, hf with
  | [.inl a], ⟨N, ln, kd, h, h1, h2⟩ =>
    by_cases q : Us N ln kd a
    · exact ⟨.inl (_, _), h1 q, c_X_isUsedAddress σ N ln kd h a 1 ⟨fun _ => rfl, fun h => absurd q h⟩⟩
    · exact ⟨.inl (_, _), h2 q, c_X_isUsedAddress σ N ln kd h a 0 ⟨fun h => absurd h q, fun _ => rfl⟩⟩
def mi_X_refuseUnlessUsed : MI := (b_X_refuseUnlessUsed, 2, "RootedWords", none, 4, tbl_of 19 f_X_refuseUnlessUsed, fl_X, [(85, (0, 1, ct_X_isUsedAddress))], [(8, "java/util/NoSuchElementException")])
theorem ok_X_refuseUnlessUsed : MOK mi_X_refuseUnlessUsed := ⟨tbl_ok k_X_refuseUnlessUsed, flok_X rfl, List.forall_mem_cons.mpr ⟨okV 0 (by decide) s_X_isUsedAddress rfl (Nat.le_of_ble_eq_true rfl) (Nat.le_of_ble_eq_true rfl) (by decide +kernel) lk_X_85 vv_X_isUsedAddress, (fun _ h => absurd h List.not_mem_nil)⟩⟩
theorem si_X_refuseUnlessUsed : ∀ q ∈ m_tr mi_X_refuseUnlessUsed, SiteF mi_X_refuseUnlessUsed q := List.forall_mem_cons.mpr ⟨⟨149, 151, 153, "no used extent has this address", ⟨by decide +kernel, by decide +kernel, by decide +kernel, by decide +kernel, by decide +kernel⟩, by decide +kernel, Or.inr th_X_149⟩, (fun _ h => absurd h List.not_mem_nil)⟩
theorem c_X_refuseUnlessUsed_ok (σ : Mem) (N : Nat) (ln kd : Nat → Nat) (h : HP (σ 2) N ln kd) (a : Int32) (q : Us N ln kd a) : MetO y_X_refuseUnlessUsed mi_X_refuseUnlessUsed [.inr (.inl 0), .inl a] σ (.inl (none, lsF σ ln N)) := by
  refine met_go ok_X_refuseUnlessUsed ⟨rfl, rfl⟩ si_X_refuseUnlessUsed (Nat.le_of_ble_eq_true rfl) ⟨trivial, trivial, trivial⟩ [] 60 (fun X hX K R1 T1 hK hR hT => ?_)
  conv => whnf
  refine ⟨N, ln, kd, h, fun _ => ?_, fun h1 => absurd q h1⟩
  conv => whnf
  refine ⟨fun _ => ?_, fun h1 => absurd h1 (by decide)⟩
  conv => whnf
  exact hR _ _ rfl
theorem c_X_refuseUnlessUsed_no (σ : Mem) (N : Nat) (ln kd : Nat → Nat) (h : HP (σ 2) N ln kd) (a : Int32) (q : ¬ Us N ln kd a) : MetO y_X_refuseUnlessUsed mi_X_refuseUnlessUsed [.inr (.inl 0), .inl a] σ (.inr (eNE, lsF σ ln N)) := by
  refine met_go ok_X_refuseUnlessUsed ⟨rfl, rfl⟩ si_X_refuseUnlessUsed (Nat.le_of_ble_eq_true rfl) ⟨trivial, trivial, trivial⟩ [] 60 (fun X hX K R1 T1 hK hR hT => ?_)
  conv => whnf
  refine ⟨N, ln, kd, h, fun h1 => absurd h1 q, fun _ => ?_⟩
  conv => whnf
  refine ⟨fun h1 => absurd rfl h1, fun _ => ?_⟩
  conv => whnf
  exact hT _ _ _ rfl
def ct_X_refuseUnlessUsed : CTy := fun as σ KN KX => match as with
  | [.inl a] => ∃ N ln kd, HP (σ 2) N ln kd ∧ (¬ Us N ln kd a → KX eNE (lsF σ ln N)) ∧ (Us N ln kd a → KN none (lsF σ ln N))
  | _ => False
theorem s_X_refuseUnlessUsed : Snd y_X_refuseUnlessUsed mi_X_refuseUnlessUsed 0 1 ct_X_refuseUnlessUsed := by
  intro as σ KN KX _ hf
  match as, hf with
  | [.inl a], ⟨N, ln, kd, h, h1, h2⟩ =>
    by_cases q : Us N ln kd a
    · exact ⟨.inl (_, _), h2 q, c_X_refuseUnlessUsed_ok σ N ln kd h a q⟩
    · exact ⟨.inr (_, _), h1 q, c_X_refuseUnlessUsed_no σ N ln kd h a q⟩
def mi_X_refuseUnlessWord : MI := (b_X_refuseUnlessWord, 3, "RootedWords", none, 3, tbl_of 26 f_X_refuseUnlessWord, fl_X, [(96, (0, 1, ct_X_contentAt))], [(15, "java/lang/IndexOutOfBoundsException")])
theorem ok_X_refuseUnlessWord : MOK mi_X_refuseUnlessWord := ⟨tbl_ok k_X_refuseUnlessWord, flok_X rfl, List.forall_mem_cons.mpr ⟨okV 0 (by decide) s_X_contentAt rfl (Nat.le_of_ble_eq_true rfl) (Nat.le_of_ble_eq_true rfl) (by decide +kernel) lk_X_96 vv_X_contentAt, (fun _ h => absurd h List.not_mem_nil)⟩⟩
theorem si_X_refuseUnlessWord : ∀ q ∈ m_tr mi_X_refuseUnlessWord, SiteF mi_X_refuseUnlessWord q := List.forall_mem_cons.mpr ⟨⟨114, 154, 118, "the extent has no such word", ⟨by decide +kernel, by decide +kernel, by decide +kernel, by decide +kernel, by decide +kernel⟩, by decide +kernel, Or.inl th_X_114⟩, (fun _ h => absurd h List.not_mem_nil)⟩
def wd_ok (i : Int32) (n : Nat) : Prop := ¬ i < 0 ∧ i < nI (n - 2)
theorem c_X_refuseUnlessWord_ok (p n k : Nat) (i : Int32) (σ : Mem) (ht : tgAt (σ 2) p n k) (h2 : 2 ≤ n) (h : wd_ok i n) : MetO y_X_refuseUnlessWord mi_X_refuseUnlessWord [.inr (.inl 0), .inl (nI (p + 1)), .inl i] σ (.inl (none, σ)) := by
  refine met_go ok_X_refuseUnlessWord ⟨rfl, rfl⟩ si_X_refuseUnlessWord (Nat.le_of_ble_eq_true rfl) ⟨trivial, trivial, trivial, trivial⟩ [] 60 (fun X hX K R1 T1 hK hR hT => ?_)
  conv => whnf
  refine ⟨fun h1 => absurd h1 h.1, fun _ => ?_⟩
  conv => whnf
  refine ⟨p, n, k, congrArg (fun x => [(.inl x : AV)]) (nI_pred p), ht, h2, ?_⟩
  conv => whnf
  refine ⟨fun _ => ?_, fun h1 => absurd h.2 h1⟩
  conv => whnf
  exact hR _ _ rfl
theorem c_X_refuseUnlessWord_no (p n k : Nat) (i : Int32) (σ : Mem) (ht : tgAt (σ 2) p n k) (h2 : 2 ≤ n) (h : ¬ wd_ok i n) : MetO y_X_refuseUnlessWord mi_X_refuseUnlessWord [.inr (.inl 0), .inl (nI (p + 1)), .inl i] σ (.inr (eIO, σ)) := by
  refine met_go ok_X_refuseUnlessWord ⟨rfl, rfl⟩ si_X_refuseUnlessWord (Nat.le_of_ble_eq_true rfl) ⟨trivial, trivial, trivial, trivial⟩ [] 60 (fun X hX K R1 T1 hK hR hT => ?_)
  conv => whnf
  refine ⟨fun h1 => ?_, fun h1 => ?_⟩
  · conv => whnf
    exact hT _ _ _ rfl
  · conv => whnf
    refine ⟨p, n, k, congrArg (fun x => [(.inl x : AV)]) (nI_pred p), ht, h2, ?_⟩
    conv => whnf
    refine ⟨fun h3 => absurd ⟨h1, h3⟩ h, fun _ => ?_⟩
    conv => whnf
    exact hT _ _ _ rfl
def ct_X_refuseUnlessWord : CTy := fun as σ KN KX => ∃ p n k i, as = [.inl (nI (p + 1)), .inl i] ∧ tgAt (σ 2) p n k ∧ 2 ≤ n ∧ (¬ wd_ok i n → KX eIO σ) ∧ (wd_ok i n → KN none σ)
theorem s_X_refuseUnlessWord : Snd y_X_refuseUnlessWord mi_X_refuseUnlessWord 0 2 ct_X_refuseUnlessWord := by
  intro as σ KN KX _ ⟨p, n, k, i, e, ht, h2, h3, h4⟩
  subst e
  by_cases q : wd_ok i n
  · exact ⟨.inl (_, _), h4 q, c_X_refuseUnlessWord_ok p n k i σ ht h2 q⟩
  · exact ⟨.inr (_, _), h3 q, c_X_refuseUnlessWord_no p n k i σ ht h2 q⟩
def mi_X_usedRoot : MI := (b_X_usedRoot, 3, "RootedWords", some .int, 4, tbl_of 27 f_X_usedRoot, fl_X, [(85, (0, 1, ct_X_isUsedAddress)), (90, (1, 1, ct_D_word))], [])
theorem ok_X_usedRoot : MOK mi_X_usedRoot := ⟨tbl_ok k_X_usedRoot, flok_X rfl, List.forall_mem_cons.mpr ⟨okV 0 (by decide) s_X_isUsedAddress rfl (Nat.le_of_ble_eq_true rfl) (Nat.le_of_ble_eq_true rfl) (by decide +kernel) lk_X_85 vv_X_isUsedAddress, List.forall_mem_cons.mpr ⟨okV 1 (by decide) s_D_word rfl (Nat.le_of_ble_eq_true rfl) (Nat.le_of_ble_eq_true rfl) (by decide +kernel) lk_X_90 vv_D_word, (fun _ h => absurd h List.not_mem_nil)⟩⟩⟩
theorem si_X_usedRoot : ∀ q ∈ m_tr mi_X_usedRoot, SiteF mi_X_usedRoot q := (fun _ h => absurd h List.not_mem_nil)
theorem c_X_usedRoot (σ : Mem) (N : Nat) (ln kd : Nat → Nat) (h : HP (σ 2) N ln kd) (j : Nat) (hj : j < 8) (r : Int32) (hr : (Us N ln kd (σ 2 (257 + j)) → r = σ 2 (257 + j)) ∧ (¬ Us N ln kd (σ 2 (257 + j)) → r = 0)) : MetO y_X_usedRoot mi_X_usedRoot [.inr (.inl 0), .inl (nI j)] σ (.inl (some (.inl r), lsF σ ln N)) := by
  have e1 : nI 257 + nI j = nI (257 + j) := nI_add _ _
  refine met_go ok_X_usedRoot ⟨rfl, rfl⟩ si_X_usedRoot (Nat.le_of_ble_eq_true rfl) ⟨trivial, trivial, trivial⟩ [] 60 (fun X hX K R1 T1 hK hR hT => ?_)
  conv => whnf
  rw [e1]
  refine ⟨vp_in_nI (by omega) (by decide), ?_⟩
  rw [nI_clamp (by omega)]
  conv => whnf
  refine ⟨N, ln, kd, h, fun q => ?_, fun q => ?_⟩
  · conv => whnf
    refine ⟨fun h1 => absurd h1 (by decide), fun _ => ?_⟩
    conv => whnf
    exact hR _ _ (by rw [hr.1 q])
  · conv => whnf
    refine ⟨fun _ => ?_, fun h1 => absurd rfl h1⟩
    conv => whnf
    exact hR _ _ (by rw [hr.2 q]; rfl)
def ct_X_usedRoot : CTy := fun as σ KN _ => ∃ j N ln kd, as = [.inl (nI j)] ∧ j < 8 ∧ HP (σ 2) N ln kd ∧ (Us N ln kd (σ 2 (257 + j)) → KN (some (.inl (σ 2 (257 + j)))) (lsF σ ln N)) ∧ (¬ Us N ln kd (σ 2 (257 + j)) → KN (some (.inl 0)) (lsF σ ln N))
theorem s_X_usedRoot : Snd y_X_usedRoot mi_X_usedRoot 0 1 ct_X_usedRoot := by
  intro as σ KN KX _ ⟨j, N, ln, kd, e, hj, h, h1, h2⟩
  subst e
  by_cases q : Us N ln kd (σ 2 (257 + j))
  · exact ⟨.inl (_, _), h1 q, c_X_usedRoot σ N ln kd h j hj _ ⟨fun _ => rfl, fun h => absurd q h⟩⟩
  · exact ⟨.inl (_, _), h2 q, c_X_usedRoot σ N ln kd h j hj _ ⟨fun h => absurd h q, fun _ => rfl⟩⟩
def mi_X_lowestFree : MI := (b_X_lowestFree, 4, "RootedWords", some .int, 3, tbl_of 54 f_X_lowestFree, fl_X, [(72, (0, 1, ct_X_isFreeAt)), (96, (0, 1, ct_X_contentAt)), (105, (0, 0, ct_X_listExtents))], [])
theorem ok_X_lowestFree : MOK mi_X_lowestFree := ⟨tbl_ok k_X_lowestFree, flok_X rfl, List.forall_mem_cons.mpr ⟨okV 0 (by decide) s_X_isFreeAt rfl (Nat.le_of_ble_eq_true rfl) (Nat.le_of_ble_eq_true rfl) (by decide +kernel) lk_X_72 vv_X_isFreeAt, List.forall_mem_cons.mpr ⟨okV 0 (by decide) s_X_contentAt rfl (Nat.le_of_ble_eq_true rfl) (Nat.le_of_ble_eq_true rfl) (by decide +kernel) lk_X_96 vv_X_contentAt, List.forall_mem_cons.mpr ⟨okV 0 (by decide) s_X_listExtents rfl (Nat.le_of_ble_eq_true rfl) (Nat.le_of_ble_eq_true rfl) (by decide +kernel) lk_X_105 vv_X_listExtents, (fun _ h => absurd h List.not_mem_nil)⟩⟩⟩⟩
theorem si_X_lowestFree : ∀ q ∈ m_tr mi_X_lowestFree, SiteF mi_X_lowestFree q := (fun _ h => absurd h List.not_mem_nil)
/-- a free extent that is large enough -/
def Fit (ln kd : Nat → Nat) (m i : Nat) : Prop := kd i = 0 ∧ m + 2 ≤ ln i
theorem c_X_lowestFree_loop {X : CT} {oc : OC} (hX : CxO X mi_X_lowestFree oc) {σ : Mem} {N : Nat} {ln kd : Nat → Nat} (h : HP (σ 2) N ln kd) (hf : ∀ j, j < N → σ 4 j = nI (pos ln j)) {m : Nat} (hm : m < 1000) {r : Int32} (ho : oc = .inl (some (.inl r), σ))
    (h1 : ∀ i, i < N → Fit ln kd m i → (∀ j, j < i → ¬ Fit ln kd m j) → r = nI (pos ln i)) (h2 : (∀ i, i < N → ¬ Fit ln kd m i) → r = -1) : ∀ (n i : Nat), i + n = N → (∀ j, j < i → ¬ Fit ln kd m j) →
    Go X mi_X_lowestFree 7 [some (.inr (.inl 0)), some (.inl (nI m)), some (.inl (nI N)), some (.inl (nI i))] [] σ := by
  intro n
  have hN := h.N85
  induction n with
  | zero =>
    intro i hi hj
    obtain rfl : i = N := by omega
    refine Go_run ok_X_lowestFree hX [7] 60 (fun K R1 T1 hK hR hT => ?_)
    conv => whnf
    refine ⟨fun _ => ?_, fun h1 => absurd (nI_le (Nat.le_refl i) (by omega)) h1⟩
    conv => whnf
    exact hR _ _ (by rw [ho, h2 hj]; rfl)
  | succ n ih =>
    intro i hi hj
    have hi' : i < N := by omega
    have g1 := h.lt hi'
    have g3 := h.ln3 hi'
    have next : ¬ Fit ln kd m i → Go X mi_X_lowestFree 7 [some (.inr (.inl 0)), some (.inl (nI m)), some (.inl (nI N)), some (.inl (nI i + nI 1))] [] σ := by
      intro hn
      rw [nI_add i 1]
      refine ih (i + 1) (by omega) (fun j hj1 => ?_)
      rcases Nat.lt_or_ge j i with q | q
      · exact hj j q
      · obtain rfl : j = i := by omega
        exact hn
    refine Go_run ok_X_lowestFree hX [7] 60 (fun K R1 T1 hK hR hT => ?_)
    conv => whnf
    refine ⟨fun h2 => absurd h2 (nI_ge hi' (by omega)), fun _ => ?_⟩
    conv => whnf
    refine ⟨vp_in_nI (by omega) (by decide), ?_⟩
    rw [nI_clamp (by omega), hf i hi']
    conv => whnf
    refine ⟨pos ln i, ln i, kd i, rfl, tg_of h hi', ?_⟩
    conv => whnf
    refine ⟨fun h3 => ?_, fun h3 => ?_⟩
    · conv => whnf
      exact hK _ _ _ _ (next (fun hn => fr_1.mp h3 hn.1))
    · conv => whnf
      refine ⟨vp_in_nI (by omega) (by decide), ?_⟩
      rw [nI_clamp (by omega), hf i hi']
      conv => whnf
      refine ⟨pos ln i, ln i, kd i, rfl, tg_of h hi', by omega, ?_⟩
      conv => whnf
      refine ⟨fun h4 => ?_, fun h4 => ?_⟩
      · conv => whnf
        exact hK _ _ _ _ (next (fun hn => by have := hn.2; have := (nI_ltI (by omega) (by omega)).mp h4; omega))
      · conv => whnf
        refine ⟨vp_in_nI (by omega) (by decide), ?_⟩
        rw [nI_clamp (by omega), hf i hi']
        conv => whnf
        refine hR _ _ ?_
        rw [ho, h1 i hi' ⟨fr_0.mp h3, by have := (not_congr (nI_ltI (a := ln i - 2) (b := m) (by omega) (by omega))).mp h4; omega⟩ hj]; rfl
theorem c_X_lowestFree (σ : Mem) (N : Nat) (ln kd : Nat → Nat) (h : HP (σ 2) N ln kd) (m : Nat) (hm : m < 1000) (r : Int32) (h1 : ∀ i, i < N → Fit ln kd m i → (∀ j, j < i → ¬ Fit ln kd m j) → r = nI (pos ln i)) (h2 : (∀ i, i < N → ¬ Fit ln kd m i) → r = -1) :
    MetO y_X_lowestFree mi_X_lowestFree [.inr (.inl 0), .inl (nI m)] σ (.inl (some (.inl r), lsF σ ln N)) := by
  refine met_go ok_X_lowestFree ⟨rfl, rfl⟩ si_X_lowestFree (Nat.le_of_ble_eq_true rfl) ⟨trivial, trivial, trivial⟩ [7] 60 (fun X hX K R1 T1 hK hR hT => ?_)
  conv => whnf
  refine ⟨N, ln, kd, h, ?_⟩
  conv => whnf
  exact hK _ _ _ _ (c_X_lowestFree_loop hX (σ := lsF σ ln N) h (fun j hj => lsF_4 σ ln N j hj) hm rfl h1 h2 N 0 (by omega) (fun j hj => absurd hj (Nat.not_lt_zero j)))
def ct_X_lowestFree : CTy := fun as σ KN _ => ∃ m N ln kd, as = [.inl (nI m)] ∧ m < 1000 ∧ HP (σ 2) N ln kd ∧ (∀ i, i < N → Fit ln kd m i → (∀ j, j < i → ¬ Fit ln kd m j) → KN (some (.inl (nI (pos ln i)))) (lsF σ ln N)) ∧ ((∀ i, i < N → ¬ Fit ln kd m i) → KN (some (.inl (-1))) (lsF σ ln N))
theorem least {P : Nat → Prop} {n : Nat} : (∃ i, i < n ∧ P i ∧ ∀ j, j < i → ¬ P j) ∨ (∀ i, i < n → ¬ P i) := by
  induction n with
  | zero => exact Or.inr fun i hi => absurd hi (Nat.not_lt_zero i)
  | succ n ih =>
    rcases ih with ⟨i, h1, h2, h3⟩ | ih
    · exact Or.inl ⟨i, by omega, h2, h3⟩
    · rcases Classical.em (P n) with h | h
      · exact Or.inl ⟨n, by omega, h, ih⟩
      · refine Or.inr fun i hi => ?_
        rcases Nat.lt_or_ge i n with q | q
        · exact ih i q
        · obtain rfl : i = n := by omega
          exact h
theorem least_uniq {P : Nat → Prop} {i j : Nat} (hi : P i) (hi2 : ∀ k, k < i → ¬ P k) (hj : P j) (hj2 : ∀ k, k < j → ¬ P k) : i = j := by
  rcases Nat.lt_trichotomy i j with q | q | q
  · exact absurd hi (hj2 i q)
  · exact q
  · exact absurd hj (hi2 j q)
theorem s_X_lowestFree : Snd y_X_lowestFree mi_X_lowestFree 0 1 ct_X_lowestFree := by
  intro as σ KN KX _ ⟨m, N, ln, kd, e, hm, h, h1, h2⟩
  subst e
  rcases least (P := Fit ln kd m) (n := N) with ⟨i, g1, g2, g3⟩ | g
  · exact ⟨.inl (_, _), h1 i g1 g2 g3, c_X_lowestFree σ N ln kd h m hm _ (fun j q1 q2 q3 => by rw [least_uniq (P := Fit ln kd m) g2 g3 q2 q3]) (fun q => absurd g2 (q i g1))⟩
  · exact ⟨.inl (_, _), h2 g, c_X_lowestFree σ N ln kd h m hm _ (fun j q1 q2 q3 => absurd q2 (g j q1)) (fun _ => rfl)⟩
end
section
/-! ===== changes ===== -/
/-- the note's writes: places 266 + i, words of the plan -/
def noteL : (Nat → Int32) → Nat → Nat → List (Nat × Int32)
  | _, _, 0 => []
  | f, i, n + 1 => (266 + i, f i) :: noteL f (i + 1) n
/-- what the plan says: pairs of place and word -/
def plnL : (Nat → Int32) → Nat → Nat → List (Nat × Int32)
  | _, _, 0 => []
  | f, i, n + 1 => ((f (2 * i)).toNatClampNeg, f (2 * i + 1)) :: plnL f (i + 1) n
def plOK (f : Nat → Int32) (k : Nat) : Prop := k ≤ 4 ∧ ∀ i, i < k → ∃ q, q < 265 ∧ f (2 * i) = nI q
theorem fin_pln {w f : Nat → Int32} : ∀ (n i : Nat), (∀ j, j < 2 * (i + n) → w (266 + j) = f j) → fin w i n = plnL f i n
  | 0, _, _ => rfl
  | n + 1, i, h => by
    show (_, _) :: _ = (_, _) :: _
    rw [h (2 * i) (by omega), show 267 + 2 * i = 266 + (2 * i + 1) by omega, h (2 * i + 1) (by omega), fin_pln n (i + 1) (fun j hj => h j (by omega))]
def chgL (f : Nat → Int32) (k : Nat) : List (Nat × Int32) := noteL f 0 (2 * k) ++ ((265, nI k) :: (plnL f 0 k ++ [(265, 0)]))
def mi_D_change : MI := (b_D_change, 3, "RootedWords$Disk", none, 2, tbl_of 43 f_D_change, fl_D, [(29, (1, 2, ct_D_write)), (33, (1, 0, ct_D_finishChange))], [])
theorem ok_D_change : MOK mi_D_change := ⟨tbl_ok k_D_change, flok_D rfl, List.forall_mem_cons.mpr ⟨okV 1 (by decide) s_D_write rfl (Nat.le_of_ble_eq_true rfl) (Nat.le_of_ble_eq_true rfl) (by decide +kernel) lk_D_29 vv_D_write, List.forall_mem_cons.mpr ⟨okV 1 (by decide) s_D_finishChange rfl (Nat.le_of_ble_eq_true rfl) (Nat.le_of_ble_eq_true rfl) (by decide +kernel) lk_D_33 vv_D_finishChange, (fun _ h => absurd h List.not_mem_nil)⟩⟩⟩
theorem si_D_change : ∀ q ∈ m_tr mi_D_change, SiteF mi_D_change q := (fun _ h => absurd h List.not_mem_nil)
theorem c_D_change_end {X : CT} {oc : OC} (hX : CxO X mi_D_change oc) (k : Nat) (f : Nat → Int32) (hk : plOK f k) (σ : Mem) (hσ : ∀ j, j < 2 * k → σ 2 (266 + j) = f j) (ho : oc = wou σ ((265, nI k) :: (plnL f 0 k ++ [(265, 0)])) none) (x : Int32) :
    Go X mi_D_change 30 [some (.inr (.inl 1)), some (.inl (nI k)), some (.inl x)] [] σ := by
  refine Go_run ok_D_change hX [] 60 (fun K R1 T1 hK hR hT => ?_)
  have hk4 := hk.1
  conv => whnf
  refine ⟨vp_in_nI (by decide) (by decide), fun h0 => ?_, fun h0 => ?_⟩
  · exact hT _ _ _ (by rw [ho]; exact wou_fail h0 _ _ _)
  · conv => whnf
    have e1 : (nI 265).toNatClampNeg = 265 := nI_clamp (by decide)
    rw [e1]
    have e2 : fin (wrO σ 265 (nI k) 2) 0 k = plnL f 0 k := fin_pln k 0 (fun j hj => by
      rw [wrO_2, upd_n _ _ (by omega)]
      exact hσ j (by omega))
    refine ⟨k, ⟨by rw [wrO_2, upd_s], hk4, fun i hi => ?_⟩, fun σ' h1 => ?_, fun σ' h1 => ?_⟩
    · obtain ⟨q, hq, hq2⟩ := hk.2 i hi
      refine ⟨q, hq, ?_⟩
      rw [wrO_2, upd_n _ _ (by omega), hσ _ (by omega)]
      exact hq2
    · rw [e2] at h1
      conv => whnf
      refine hR _ _ ?_
      rw [ho, wou_step h0]
      unfold wou
      rw [h1]; rfl
    · rw [e2] at h1
      refine hT _ _ _ ?_
      rw [ho, wou_step h0]
      unfold wou
      rw [h1]; rfl
theorem c_D_change_loop {X : CT} {oc : OC} (hX : CxO X mi_D_change oc) (k : Nat) (f : Nat → Int32) (hk : plOK f k) : ∀ (n i : Nat) (σ : Mem), i + n = 2 * k → σ 3 = f → (∀ j, j < i → σ 2 (266 + j) = f j) → oc = wou σ (noteL f i n ++ ((265, nI k) :: (plnL f 0 k ++ [(265, 0)]))) none →
    Go X mi_D_change 2 [some (.inr (.inl 1)), some (.inl (nI k)), some (.inl (nI i))] [] σ := by
  intro n
  have hk4 := hk.1
  have e1 : nI 2 * nI k = nI (2 * k) := pk_mul 2 k
  induction n with
  | zero =>
    intro i σ hi h3 hσ ho
    obtain rfl : i = 2 * k := by omega
    refine Go_run ok_D_change hX [30] 60 (fun K R1 T1 hK hR hT => ?_)
    conv => whnf
    rw [e1]
    refine ⟨fun _ => ?_, fun h => absurd (nI_le (Nat.le_refl _) (by omega)) h⟩
    conv => whnf
    exact hK _ _ _ _ (c_D_change_end hX k f hk σ hσ ho _)
  | succ n ih =>
    intro i σ hi h3 hσ ho
    have e2 : nI 266 + nI i = nI (266 + i) := nI_add _ _
    refine Go_run ok_D_change hX [2] 60 (fun K R1 T1 hK hR hT => ?_)
    conv => whnf
    rw [e1]
    refine ⟨fun h => absurd h (nI_ge (by omega) (by omega)), fun _ => ?_⟩
    conv => whnf
    refine ⟨vp_in_nI (by omega) (by decide), ?_⟩
    rw [nI_clamp (by omega), h3]
    conv => whnf
    rw [e2]
    refine ⟨vp_in_nI (by omega) (by decide), fun h0 => ?_, fun h0 => ?_⟩
    · exact hT _ _ _ (by rw [ho]; exact wou_fail h0 _ _ _)
    · conv => whnf
      refine hK _ _ _ _ ?_
      have e3 : nI i + nI 1 = nI (i + 1) := nI_add i 1
      rw [nI_clamp (by omega)]
      show Go X mi_D_change 2 [some (.inr (.inl 1)), some (.inl (nI k)), some (.inl (nI i + nI 1))] [] (wrO σ (266 + i) (f i))
      rw [e3]
      refine ih (i + 1) _ (by omega) ?_ (fun j hj => ?_) ?_
      · rw [wrO_ne _ _ _ _ (by decide) (by decide)]; exact h3
      · rw [wrO_2]
        rcases Nat.lt_or_ge j i with q | q
        · rw [upd_n _ _ (by omega)]; exact hσ j q
        · obtain rfl : j = i := by omega
          rw [upd_s]
      · rw [ho]
        exact wou_step h0 _ _ _ _
theorem c_D_change (k : Nat) (σ : Mem) (hk : plOK (σ 3) k) : MetO y_D_change mi_D_change [.inr (.inl 1), .inl (nI k)] σ (wou σ (chgL (σ 3) k) none) := by
  refine met_go ok_D_change ⟨rfl, rfl⟩ si_D_change (Nat.le_of_ble_eq_true rfl) ⟨trivial, trivial, trivial⟩ [2] 60 (fun X hX K R1 T1 hK hR hT => ?_)
  conv => whnf
  exact hK _ _ _ _ (c_D_change_loop hX k (σ 3) hk (2 * k) 0 σ (by omega) rfl (fun j hj => absurd hj (Nat.not_lt_zero j)) rfl)
def ct_D_change : CTy := fun as σ KN KX => ∃ k, as = [.inl (nI k)] ∧ plOK (σ 3) k ∧ (∀ σ', wrs σ (chgL (σ 3) k) = (σ', false) → KN none σ') ∧ (∀ σ', wrs σ (chgL (σ 3) k) = (σ', true) → KX eIS σ')
theorem s_D_change : Snd y_D_change mi_D_change 1 1 ct_D_change := by
  intro as σ KN KX _ ⟨k, e, hk, h1, h2⟩
  subst e
  exact wou_use (c_D_change k σ hk) h1 h2
/-! clearing -/
def zL : Nat → Nat → List (Nat × Int32)
  | _, 0 => []
  | q, n + 1 => (q, 0) :: zL (q + 1) n
def mi_X_clearContent : MI := (b_X_clearContent, 4, "RootedWords", none, 1, tbl_of 29 f_X_clearContent, fl_X, [(161, (1, 2, ct_D_write))], [])
theorem ok_X_clearContent : MOK mi_X_clearContent := ⟨tbl_ok k_X_clearContent, flok_X rfl, List.forall_mem_cons.mpr ⟨okV 1 (by decide) s_D_write rfl (Nat.le_of_ble_eq_true rfl) (Nat.le_of_ble_eq_true rfl) (by decide +kernel) lk_X_161 vv_D_write, (fun _ h => absurd h List.not_mem_nil)⟩⟩
theorem si_X_clearContent : ∀ q ∈ m_tr mi_X_clearContent, SiteF mi_X_clearContent q := (fun _ h => absurd h List.not_mem_nil)
theorem c_X_clearContent_loop {X : CT} {oc : OC} (hX : CxO X mi_X_clearContent oc) (f m : Nat) (hf : f + m ≤ 257) : ∀ (n q : Nat) (σ : Mem), q + n + 1 = f + m → oc = wou σ (zL q n) none →
    Go X mi_X_clearContent 4 [some (.inr (.inl 0)), some (.inl (nI f)), some (.inl (nI m)), some (.inl (nI q))] [] σ := by
  intro n
  have e1 : nI f + nI m - nI 1 = nI (f + m - 1) ∨ f + m = 0 := by
    rcases Nat.eq_zero_or_pos (f + m) with z | z
    · exact Or.inr z
    · exact Or.inl (by rw [nI_add, pk_sub (by omega)])
  induction n with
  | zero =>
    intro q σ hq ho
    refine Go_run ok_X_clearContent hX [4] 60 (fun K R1 T1 hK hR hT => ?_)
    conv => whnf
    rw [e1.resolve_right (by omega)]
    refine ⟨fun _ => ?_, fun h => absurd (nI_le (by omega) (by omega)) h⟩
    conv => whnf
    exact hR _ _ ho
  | succ n ih =>
    intro q σ hq ho
    refine Go_run ok_X_clearContent hX [4] 60 (fun K R1 T1 hK hR hT => ?_)
    conv => whnf
    rw [e1.resolve_right (by omega)]
    refine ⟨fun h => absurd h (nI_ge (by omega) (by omega)), fun _ => ?_⟩
    conv => whnf
    refine ⟨vp_in_nI (by omega) (by decide), fun h0 => ?_, fun h0 => ?_⟩
    · exact hT _ _ _ (by rw [ho]; exact wou_fail h0 _ _ _)
    · conv => whnf
      refine hK _ _ _ _ ?_
      have e3 : nI q + nI 1 = nI (q + 1) := nI_add q 1
      rw [nI_clamp (by omega)]
      show Go X mi_X_clearContent 4 [some (.inr (.inl 0)), some (.inl (nI f)), some (.inl (nI m)), some (.inl (nI q + nI 1))] [] (wrO σ q 0)
      rw [e3]
      refine ih (q + 1) _ (by omega) ?_
      rw [ho]
      exact wou_step h0 _ _ _ _
theorem c_X_clearContent (f m : Nat) (hf : f + m ≤ 257) (hm : 2 ≤ m) (σ : Mem) : MetO y_X_clearContent mi_X_clearContent [.inr (.inl 0), .inl (nI f), .inl (nI m)] σ (wou σ (zL (f + 1) (m - 2)) none) := by
  have e3 : nI f + nI 1 = nI (f + 1) := nI_add f 1
  refine met_go ok_X_clearContent ⟨rfl, rfl⟩ si_X_clearContent (Nat.le_of_ble_eq_true rfl) ⟨trivial, trivial, trivial, trivial⟩ [4] 60 (fun X hX K R1 T1 hK hR hT => ?_)
  conv => whnf
  refine hK _ _ _ _ ?_
  show Go X mi_X_clearContent 4 [some (.inr (.inl 0)), some (.inl (nI f)), some (.inl (nI m)), some (.inl (nI f + nI 1))] [] σ
  rw [e3]
  exact c_X_clearContent_loop hX f m hf (m - 2) (f + 1) σ (by omega) rfl
def ct_X_clearContent : CTy := fun as σ KN KX => ∃ f m, as = [.inl (nI f), .inl (nI m)] ∧ f + m ≤ 257 ∧ 2 ≤ m ∧ (∀ σ', wrs σ (zL (f + 1) (m - 2)) = (σ', false) → KN none σ') ∧ (∀ σ', wrs σ (zL (f + 1) (m - 2)) = (σ', true) → KX eIS σ')
theorem s_X_clearContent : Snd y_X_clearContent mi_X_clearContent 0 2 ct_X_clearContent := by
  intro as σ KN KX _ ⟨f, m, e, hf, hm, h1, h2⟩
  subst e
  exact wou_use (c_X_clearContent f m hf hm σ) h1 h2
/-! plans -/
def peF (σ : Mem) (wh f n k : Nat) : Mem := st (st (st (st σ 3 (4 * wh) (nI f)) 3 (4 * wh + 1) (nI (256 * n + k))) 3 (4 * wh + 2) (nI (f + n - 1))) 3 (4 * wh + 3) (nI (256 * n + k))
def mi_X_planExtent : MI := (b_X_planExtent, 5, "RootedWords", none, 1, tbl_of 41 f_X_planExtent, fl_X, [(26, (99, 2, ct_X_tag)), (164, (1, 3, ct_D_plan))], [])
theorem ok_X_planExtent : MOK mi_X_planExtent := ⟨tbl_ok k_X_planExtent, flok_X rfl, List.forall_mem_cons.mpr ⟨okS s_X_tag rfl (Nat.le_of_ble_eq_true rfl) (Nat.le_of_ble_eq_true rfl) (by decide +kernel) lk_X_26 vs_X_tag, List.forall_mem_cons.mpr ⟨okV 1 (by decide) s_D_plan rfl (Nat.le_of_ble_eq_true rfl) (Nat.le_of_ble_eq_true rfl) (by decide +kernel) lk_X_164 vv_D_plan, (fun _ h => absurd h List.not_mem_nil)⟩⟩⟩
theorem si_X_planExtent : ∀ q ∈ m_tr mi_X_planExtent, SiteF mi_X_planExtent q := (fun _ h => absurd h List.not_mem_nil)
theorem c_X_planExtent (wh f n k : Nat) (hw : wh < 2) (hf : 1 ≤ f + n) (σ : Mem) : MetO y_X_planExtent mi_X_planExtent [.inr (.inl 0), .inl (nI wh), .inl (nI f), .inl (nI n), .inl (nI k)] σ (.inl (none, peF σ wh f n k)) := by
  have e1 : nI 2 * nI wh = nI (2 * wh) := pk_mul _ _
  have e2 : nI (2 * wh) + nI 1 = nI (2 * wh + 1) := nI_add _ _
  have e3 : nI n * nI 256 + nI k = nI (256 * n + k) := by rw [pk_mul, nI_add, Nat.mul_comm]
  have e4 : nI f + nI n - nI 1 = nI (f + n - 1) := by rw [nI_add, pk_sub hf]
  refine met_go ok_X_planExtent ⟨rfl, rfl⟩ si_X_planExtent (Nat.le_of_ble_eq_true rfl) ⟨trivial, trivial, trivial, trivial, trivial, trivial⟩ [] 60 (fun X hX K R1 T1 hK hR hT => ?_)
  conv => whnf
  refine ⟨2 * wh, nI f, nI (256 * n + k), ?_, by omega, ?_⟩
  · show [(.inl (nI 2 * nI wh) : AV), .inl (nI f), .inl (nI n * nI 256 + nI k)] = _
    rw [e1, e3]
  conv => whnf
  refine ⟨2 * wh + 1, nI (f + n - 1), nI (256 * n + k), ?_, by omega, ?_⟩
  · show [(.inl (nI 2 * nI wh + nI 1) : AV), .inl (nI f + nI n - nI 1), .inl (nI n * nI 256 + nI k)] = _
    rw [e1, e2, e3, e4]
  conv => whnf
  refine hR _ _ ?_
  unfold peF
  rw [show 2 * (2 * wh) = 4 * wh by omega, show 2 * (2 * wh + 1) = 4 * wh + 2 by omega]
def ct_X_planExtent : CTy := fun as σ KN _ => ∃ wh f n k, as = [.inl (nI wh), .inl (nI f), .inl (nI n), .inl (nI k)] ∧ wh < 2 ∧ 1 ≤ f + n ∧ KN none (peF σ wh f n k)
theorem s_X_planExtent : Snd y_X_planExtent mi_X_planExtent 0 4 ct_X_planExtent := by
  intro as σ KN KX _ ⟨wh, f, n, k, e, hw, hf, h⟩
  subst e
  exact ⟨.inl (_, _), h, c_X_planExtent wh f n k hw hf σ⟩
/-- the pairs of two extents' tags -/
theorem peF_ne (σ : Mem) (wh f n k a : Nat) (h : a ≠ 3) : peF σ wh f n k a = σ a := by
  unfold peF
  rw [st_ne _ _ _ h, st_ne _ _ _ h, st_ne _ _ _ h, st_ne _ _ _ h]
def mi_X_makeFree : MI := (b_X_makeFree, 3, "RootedWords", none, 3, tbl_of 17 f_X_makeFree, fl_X, [(61, (0, 4, ct_X_planExtent)), (65, (1, 1, ct_D_change))], [])
theorem ok_X_makeFree : MOK mi_X_makeFree := ⟨tbl_ok k_X_makeFree, flok_X rfl, List.forall_mem_cons.mpr ⟨okV 0 (by decide) s_X_planExtent rfl (Nat.le_of_ble_eq_true rfl) (Nat.le_of_ble_eq_true rfl) (by decide +kernel) lk_X_61 vv_X_planExtent, List.forall_mem_cons.mpr ⟨okV 1 (by decide) s_D_change rfl (Nat.le_of_ble_eq_true rfl) (Nat.le_of_ble_eq_true rfl) (by decide +kernel) lk_X_65 vv_D_change, (fun _ h => absurd h List.not_mem_nil)⟩⟩⟩
theorem si_X_makeFree : ∀ q ∈ m_tr mi_X_makeFree, SiteF mi_X_makeFree q := (fun _ h => absurd h List.not_mem_nil)
theorem mf_plOK (σ : Mem) (f n k : Nat) (h : f + n ≤ 257) (h1 : 1 ≤ n) : plOK (peF σ 0 f n k 3) 2 := by
  refine ⟨by decide, fun i hi => ?_⟩
  match i, hi with
  | 0, _ => exact ⟨f, by omega, rfl⟩
  | 1, _ => exact ⟨f + n - 1, by omega, rfl⟩
theorem c_X_makeFree (f n : Nat) (h : f + n ≤ 257) (h1 : 1 ≤ n) (σ : Mem) : MetO y_X_makeFree mi_X_makeFree [.inr (.inl 0), .inl (nI f), .inl (nI n)] σ (wou (peF σ 0 f n 0) (chgL (peF σ 0 f n 0 3) 2) none) := by
  refine met_go ok_X_makeFree ⟨rfl, rfl⟩ si_X_makeFree (Nat.le_of_ble_eq_true rfl) ⟨trivial, trivial, trivial, trivial⟩ [] 60 (fun X hX K R1 T1 hK hR hT => ?_)
  conv => whnf
  refine ⟨0, f, n, 0, rfl, by decide, by omega, ?_⟩
  conv => whnf
  refine ⟨2, rfl, mf_plOK σ f n 0 h h1, fun σ' h2 => ?_, fun σ' h2 => ?_⟩
  · conv => whnf
    refine hR _ _ ?_
    unfold wou
    rw [h2]; rfl
  · refine hT _ _ _ ?_
    unfold wou
    rw [h2]; rfl
def ct_X_makeFree : CTy := fun as σ KN KX => ∃ f n, as = [.inl (nI f), .inl (nI n)] ∧ f + n ≤ 257 ∧ 1 ≤ n ∧ (∀ σ', wrs (peF σ 0 f n 0) (chgL (peF σ 0 f n 0 3) 2) = (σ', false) → KN none σ') ∧ (∀ σ', wrs (peF σ 0 f n 0) (chgL (peF σ 0 f n 0 3) 2) = (σ', true) → KX eIS σ')
theorem wou_use2 {y : MethodName} {M : MI} {as : List AV} {σ σ1 : Mem} {l : List (Nat × Int32)} {r : Option AV} {KN : Option AV → Mem → Prop} {KX : String → Mem → Prop} (hm : MetO y M as σ (wou σ1 l r)) (h1 : ∀ σ', wrs σ1 l = (σ', false) → KN r σ') (h2 : ∀ σ', wrs σ1 l = (σ', true) → KX eIS σ') :
    ∃ oc : OC, (match oc with | .inl z => KN z.1 z.2 | .inr z => KX z.1 z.2) ∧ MetO y M as σ oc := by
  refine ⟨_, ?_, hm⟩
  unfold wou
  by_cases h : (wrs σ1 l).2 = true
  · rw [if_pos h]; exact h2 _ (Prod.ext rfl h)
  · rw [if_neg h]; exact h1 _ (Prod.ext rfl (Bool.not_eq_true _ ▸ h))
theorem s_X_makeFree : Snd y_X_makeFree mi_X_makeFree 0 2 ct_X_makeFree := by
  intro as σ KN KX _ ⟨f, n, e, h, h1, h2, h3⟩
  subst e
  exact wou_use2 (c_X_makeFree f n h h1 σ) h2 h3
def pwF (σ : Mem) (p : Nat) (w : Int32) : Mem := st (st σ 3 0 (nI p)) 3 1 w
def mi_X_changeWord : MI := (b_X_changeWord, 3, "RootedWords", none, 3, tbl_of 19 f_X_changeWord, fl_X, [(65, (1, 1, ct_D_change)), (164, (1, 3, ct_D_plan))], [])
theorem ok_X_changeWord : MOK mi_X_changeWord := ⟨tbl_ok k_X_changeWord, flok_X rfl, List.forall_mem_cons.mpr ⟨okV 1 (by decide) s_D_change rfl (Nat.le_of_ble_eq_true rfl) (Nat.le_of_ble_eq_true rfl) (by decide +kernel) lk_X_65 vv_D_change, List.forall_mem_cons.mpr ⟨okV 1 (by decide) s_D_plan rfl (Nat.le_of_ble_eq_true rfl) (Nat.le_of_ble_eq_true rfl) (by decide +kernel) lk_X_164 vv_D_plan, (fun _ h => absurd h List.not_mem_nil)⟩⟩⟩
theorem si_X_changeWord : ∀ q ∈ m_tr mi_X_changeWord, SiteF mi_X_changeWord q := (fun _ h => absurd h List.not_mem_nil)
theorem c_X_changeWord (p : Nat) (w : Int32) (h : p < 265) (σ : Mem) : MetO y_X_changeWord mi_X_changeWord [.inr (.inl 0), .inl (nI p), .inl w] σ (wou (pwF σ p w) (chgL (pwF σ p w 3) 1) none) := by
  refine met_go ok_X_changeWord ⟨rfl, rfl⟩ si_X_changeWord (Nat.le_of_ble_eq_true rfl) ⟨trivial, trivial, trivial, trivial⟩ [] 60 (fun X hX K R1 T1 hK hR hT => ?_)
  conv => whnf
  refine ⟨0, nI p, w, rfl, by decide, ?_⟩
  conv => whnf
  refine ⟨1, rfl, ⟨by decide, fun i hi => ?_⟩, fun σ' h2 => ?_, fun σ' h2 => ?_⟩
  · obtain rfl : i = 0 := by omega
    exact ⟨p, h, rfl⟩
  · conv => whnf
    refine hR _ _ ?_
    unfold wou
    have h2 : wrs (pwF σ p w) (chgL (pwF σ p w 3) 1) = (σ', false) := h2
    rw [h2]; rfl
  · refine hT _ _ _ ?_
    unfold wou
    have h2 : wrs (pwF σ p w) (chgL (pwF σ p w 3) 1) = (σ', true) := h2
    rw [h2]; rfl
def ct_X_changeWord : CTy := fun as σ KN KX => ∃ p w, as = [.inl (nI p), .inl w] ∧ p < 265 ∧ (∀ σ', wrs (pwF σ p w) (chgL (pwF σ p w 3) 1) = (σ', false) → KN none σ') ∧ (∀ σ', wrs (pwF σ p w) (chgL (pwF σ p w 3) 1) = (σ', true) → KX eIS σ')
theorem s_X_changeWord : Snd y_X_changeWord mi_X_changeWord 0 2 ct_X_changeWord := by
  intro as σ KN KX _ ⟨p, w, e, h, h2, h3⟩
  subst e
  exact wou_use2 (c_X_changeWord p w h σ) h2 h3
end
section
/-! ===== the search from the roots ===== -/
/-- the used extent with an address -/
def Usd (N : Nat) (ln kd : Nat → Nat) (j : Nat) (a : Int32) : Prop := j < N ∧ kd j ≠ 0 ∧ nI (pos ln j + 1) = a
/-- what is reached: the least set with the roots' extents, closed under their pointers -/
def RS (w : Nat → Int32) (N : Nat) (ln kd : Nat → Nat) (e : Nat) : Prop := ∀ P : Nat → Prop, (∀ r, r < 8 → ∀ j, Usd N ln kd j (w (257 + r)) → P j) → (∀ j, P j → j < N → ∀ i, i + 1 < kd j → ∀ j', Usd N ln kd j' (w (pos ln j + 1 + i)) → P j') → P e
theorem RS.root {w : Nat → Int32} {N : Nat} {ln kd : Nat → Nat} {r j : Nat} (hr : r < 8) (h : Usd N ln kd j (w (257 + r))) : RS w N ln kd j := fun _ h1 _ => h1 r hr j h
theorem RS.step {w : Nat → Int32} {N : Nat} {ln kd : Nat → Nat} {j i j' : Nat} (h : RS w N ln kd j) (hj : j < N) (hi : i + 1 < kd j) (h' : Usd N ln kd j' (w (pos ln j + 1 + i))) : RS w N ln kd j' := fun P h1 h2 => h2 j (h P h1 h2) hj i hi j' h'
theorem RS.used {w : Nat → Int32} {N : Nat} {ln kd : Nat → Nat} {e : Nat} (h : RS w N ln kd e) : e < N ∧ kd e ≠ 0 := h (fun e => e < N ∧ kd e ≠ 0) (fun _ _ _ h => ⟨h.1, h.2.1⟩) (fun _ _ _ _ _ _ h => ⟨h.1, h.2.1⟩)
theorem Usd.uniq {w : Nat → Int32} {N : Nat} {ln kd : Nat → Nat} (h : HP w N ln kd) {i j : Nat} {a : Int32} (h1 : Usd N ln kd i a) (h2 : Usd N ln kd j a) : i = j := Us.uniq h h1.1 h2.1 h1.2.2 h2.2.2
/-- how many below n are such -/
noncomputable def cntP (P : Nat → Prop) : Nat → Nat
  | 0 => 0
  | n + 1 => cntP P n + @ite Nat (P n) (Classical.propDecidable _) 1 0
theorem cntP_le (P : Nat → Prop) : ∀ n, cntP P n ≤ n
  | 0 => Nat.le_refl _
  | n + 1 => by
    have h := cntP_le P n
    show cntP P n + @ite Nat (P n) (Classical.propDecidable _) 1 0 ≤ n + 1
    by_cases q : P n
    · rw [if_pos q]; omega
    · rw [if_neg q]; omega
theorem cntP_cong {P Q : Nat → Prop} : ∀ {n : Nat}, (∀ j, j < n → (P j ↔ Q j)) → cntP P n = cntP Q n
  | 0, _ => rfl
  | n + 1, h => by
    have h1 := cntP_cong (P := P) (Q := Q) (n := n) (fun j hj => h j (by omega))
    show cntP P n + @ite Nat (P n) (Classical.propDecidable _) 1 0 = cntP Q n + @ite Nat (Q n) (Classical.propDecidable _) 1 0
    rw [h1]
    by_cases q : P n
    · rw [if_pos q, if_pos ((h n (by omega)).mp q)]
    · rw [if_neg q, if_neg (fun z => q ((h n (by omega)).mpr z))]
theorem cntP_add {P : Nat → Prop} {j : Nat} (hj : ¬ P j) : ∀ {n : Nat}, j < n → cntP (fun i => P i ∨ i = j) n = cntP P n + 1
  | 0, h => absurd h (Nat.not_lt_zero j)
  | n + 1, h => by
    show cntP (fun i => P i ∨ i = j) n + @ite Nat (P n ∨ n = j) (Classical.propDecidable _) 1 0 = cntP P n + @ite Nat (P n) (Classical.propDecidable _) 1 0 + 1
    rcases Nat.lt_or_ge j n with q | q
    · rw [cntP_add hj q]
      by_cases z : P n
      · rw [if_pos (Or.inl z), if_pos z]
      · rw [if_neg (fun y => y.elim z (by omega)), if_neg z]
    · obtain rfl : j = n := by omega
      rw [if_pos (Or.inr rfl), if_neg hj, cntP_cong (P := fun i => P i ∨ i = j) (Q := P) (fun i hi => ⟨fun y => y.elim id (fun y => by omega), Or.inl⟩)]
theorem cntP_0 {P : Nat → Prop} : ∀ {n : Nat}, (∀ j, j < n → ¬ P j) → cntP P n = 0
  | 0, _ => rfl
  | n + 1, h => by
    show cntP P n + @ite Nat (P n) (Classical.propDecidable _) 1 0 = 0
    rw [if_neg (h n (by omega)), cntP_0 (fun j hj => h j (by omega))]
def mi_X_markUsed : MI := (b_X_markUsed, 3, "RootedWords", none, 3, tbl_of 70 f_X_markUsed, fl_X, [(72, (0, 1, ct_X_isFreeAt)), (105, (0, 0, ct_X_listExtents))], [])
theorem ok_X_markUsed : MOK mi_X_markUsed := ⟨tbl_ok k_X_markUsed, flok_X rfl, List.forall_mem_cons.mpr ⟨okV 0 (by decide) s_X_isFreeAt rfl (Nat.le_of_ble_eq_true rfl) (Nat.le_of_ble_eq_true rfl) (by decide +kernel) lk_X_72 vv_X_isFreeAt, List.forall_mem_cons.mpr ⟨okV 0 (by decide) s_X_listExtents rfl (Nat.le_of_ble_eq_true rfl) (Nat.le_of_ble_eq_true rfl) (by decide +kernel) lk_X_105 vv_X_listExtents, (fun _ h => absurd h List.not_mem_nil)⟩⟩⟩
theorem si_X_markUsed : ∀ q ∈ m_tr mi_X_markUsed, SiteF mi_X_markUsed q := (fun _ h => absurd h List.not_mem_nil)
def c0F (f : Nat → Int32) : Nat → Int32 := fl0 (fun _ => 0) f 258
def muF (f : Nat → Int32) (ln kd : Nat → Nat) : Nat → (Nat → Int32)
  | 0 => f
  | i + 1 => if kd i = 0 then muF f ln kd i else upd (muF f ln kd i) (pos ln i + 1) 1
def muM (σ : Mem) (N : Nat) (ln kd : Nat → Nat) : Mem := stA (lsF σ ln N) 5 (muF (c0F (σ 5)) ln kd N)
theorem c_X_markUsed_l2 {X : CT} {oc : OC} (hX : CxO X mi_X_markUsed oc) {σ : Mem} {N : Nat} {ln kd : Nat → Nat} (h : HP (σ 2) N ln kd) (ho : oc = .inl (none, muM σ N ln kd)) : ∀ (n i : Nat), i + n = N →
    Go X mi_X_markUsed 31 [some (.inr (.inl 0)), some (.inl (nI N)), some (.inl (nI i))] [] (stA (lsF σ ln N) 5 (muF (c0F (σ 5)) ln kd i)) := by
  intro n
  have hN := h.N85
  have hf : ∀ i j, j < N → (stA (lsF σ ln N) 5 (muF (c0F (σ 5)) ln kd i)) 4 j = nI (pos ln j) := fun i j hj => by
    rw [stA_ne _ _ (by decide)]; exact lsF_4 σ ln N j hj
  induction n with
  | zero =>
    intro i hi
    obtain rfl : i = N := by omega
    refine Go_run ok_X_markUsed hX [31] 60 (fun K R1 T1 hK hR hT => ?_)
    conv => whnf
    refine ⟨fun _ => ?_, fun h1 => absurd (nI_le (Nat.le_refl _) (by omega)) h1⟩
    conv => whnf
    exact hR _ _ ho
  | succ n ih =>
    intro i hi
    have hi' : i < N := by omega
    have g1 := h.lt hi'
    have e2 : nI i + nI 1 = nI (i + 1) := nI_add i 1
    have e3 : nI (pos ln i) + nI 1 = nI (pos ln i + 1) := nI_add _ _
    refine Go_run ok_X_markUsed hX [31] 60 (fun K R1 T1 hK hR hT => ?_)
    conv => whnf
    refine ⟨fun h2 => absurd h2 (nI_ge hi' (by omega)), fun _ => ?_⟩
    conv => whnf
    refine ⟨vp_in_nI (by omega) (by decide), ?_⟩
    rw [nI_clamp (by omega), hf i i hi']
    conv => whnf
    refine ⟨pos ln i, ln i, kd i, rfl, tg_of (w := σ 2) h hi', ?_⟩
    conv => whnf
    refine ⟨fun h3 => ?_, fun h3 => ?_⟩
    · conv => whnf
      refine hK _ _ _ _ ?_
      show Go X mi_X_markUsed 31 [some (.inr (.inl 0)), some (.inl (nI N)), some (.inl (nI i + nI 1))] [] _
      rw [e2]
      have h9 := ih (i + 1) (by omega)
      unfold muF at h9
      rw [if_pos (fr_0.mp h3)] at h9
      exact h9
    · conv => whnf
      refine ⟨vp_in_nI (by omega) (by decide), ?_⟩
      rw [nI_clamp (by omega), hf i i hi']
      conv => whnf
      rw [e3]
      refine ⟨vp_in_nI (by omega) (by decide), ?_⟩
      rw [nI_clamp (by omega)]
      conv => whnf
      refine hK _ _ _ _ ?_
      show Go X mi_X_markUsed 31 [some (.inr (.inl 0)), some (.inl (nI N)), some (.inl (nI i + nI 1))] [] (st (stA (lsF σ ln N) 5 (muF (c0F (σ 5)) ln kd i)) 5 (pos ln i + 1) (nI 1))
      rw [e2, st_stA, stA_stA, stA_self]
      have h9 := ih (i + 1) (by omega)
      unfold muF at h9
      rw [if_neg (fr_1.mp h3)] at h9
      exact h9
theorem c_X_markUsed_l1 {X : CT} {oc : OC} (hX : CxO X mi_X_markUsed oc) {σ : Mem} {N : Nat} {ln kd : Nat → Nat} (h : HP (σ 2) N ln kd) (ho : oc = .inl (none, muM σ N ln kd)) (x : Option AV) : ∀ (n i : Nat), i + n = 258 →
    Go X mi_X_markUsed 2 [some (.inr (.inl 0)), some (.inl (nI i)), x] [] (stA σ 5 (fl0 (fun _ => 0) (σ 5) i)) := by
  intro n
  induction n with
  | zero =>
    intro i hi
    obtain rfl : i = 258 := by omega
    refine Go_run ok_X_markUsed hX [31] 60 (fun K R1 T1 hK hR hT => ?_)
    conv => whnf
    refine ⟨fun _ => ?_, fun h1 => absurd (nI_le (Nat.le_refl _) (by decide)) h1⟩
    conv => whnf
    refine ⟨N, ln, kd, h, ?_⟩
    conv => whnf
    refine hK _ _ _ _ ?_
    have h9 := c_X_markUsed_l2 hX h ho N 0 (by omega)
    have e : stA (lsF σ ln N) 5 (muF (c0F (σ 5)) ln kd 0) = lsF (stA σ 5 (fl0 (fun _ => 0) (σ 5) 258)) ln N := by
      unfold lsF
      rw [stA_comm _ _ _ (by decide), stA_ne _ _ (by decide : (4 : Nat) ≠ 5)]
      rfl
    rw [e] at h9
    exact h9
  | succ n ih =>
    intro i hi
    have e2 : nI i + nI 1 = nI (i + 1) := nI_add i 1
    refine Go_run ok_X_markUsed hX [2] 60 (fun K R1 T1 hK hR hT => ?_)
    conv => whnf
    refine ⟨fun h2 => absurd h2 (nI_ge (by omega) (by decide)), fun _ => ?_⟩
    conv => whnf
    refine ⟨vp_in_nI (by omega) (by decide), ?_⟩
    rw [nI_clamp (by omega)]
    conv => whnf
    refine hK _ _ _ _ ?_
    show Go X mi_X_markUsed 2 [some (.inr (.inl 0)), some (.inl (nI i + nI 1)), x] [] (st (stA σ 5 (fl0 (fun _ => 0) (σ 5) i)) 5 i 0)
    rw [e2, st_stA, stA_stA, stA_self, fl0_s (fun _ => 0) (σ 5) i]
    exact ih (i + 1) (by omega)
theorem c_X_markUsed (σ : Mem) (N : Nat) (ln kd : Nat → Nat) (h : HP (σ 2) N ln kd) : MetO y_X_markUsed mi_X_markUsed [.inr (.inl 0)] σ (.inl (none, muM σ N ln kd)) := by
  refine met_go ok_X_markUsed ⟨rfl, rfl⟩ si_X_markUsed (Nat.le_of_ble_eq_true rfl) ⟨trivial, trivial⟩ [2] 60 (fun X hX K R1 T1 hK hR hT => ?_)
  conv => whnf
  refine hK _ _ _ _ ?_
  have h9 := c_X_markUsed_l1 hX h rfl none 258 0 (by omega)
  rw [fl0_0, stA_id] at h9
  exact h9
def ct_X_markUsed : CTy := fun as σ KN _ => match as with
  | [] => ∃ N ln kd, HP (σ 2) N ln kd ∧ KN none (muM σ N ln kd)
  | _ => False
theorem s_X_markUsed : Snd y_X_markUsed mi_X_markUsed 0 0 ct_X_markUsed := by
  intro as σ KN KX _ hf
  match as, hf with
  | [], ⟨N, ln, kd, h, hf⟩ => exact ⟨.inl (_, _), hf, c_X_markUsed σ N ln kd h⟩
/-- the marks behind it -/
theorem muF_spec {f : Nat → Int32} {w : Nat → Int32} {N : Nat} {ln kd : Nat → Nat} (h : HP w N ln kd) (hf : ∀ a, a < 258 → f a = 0) : ∀ n, n ≤ N → ∀ a, a < 258 → (muF f ln kd n a = 1 ∧ ∃ j, j < n ∧ kd j ≠ 0 ∧ a = pos ln j + 1) ∨ (muF f ln kd n a = 0 ∧ ∀ j, j < n → kd j ≠ 0 → a ≠ pos ln j + 1)
  | 0, _, a, ha => Or.inr ⟨hf a ha, fun j hj => absurd hj (Nat.not_lt_zero j)⟩
  | n + 1, hn, a, ha => by
    have ih := muF_spec h hf n (by omega) a ha
    unfold muF
    by_cases q : kd n = 0
    · rw [if_pos q]
      rcases ih with ⟨h1, j, h2, h3, h4⟩ | ⟨h1, h2⟩
      · exact Or.inl ⟨h1, j, by omega, h3, h4⟩
      · refine Or.inr ⟨h1, fun j hj hk => ?_⟩
        rcases Nat.lt_or_ge j n with z | z
        · exact h2 j z hk
        · obtain rfl : j = n := by omega
          exact absurd q hk
    · rw [if_neg q]
      by_cases e : a = pos ln n + 1
      · exact Or.inl ⟨by rw [e, upd_s], n, by omega, q, e⟩
      · rw [upd_n _ _ e]
        rcases ih with ⟨h1, j, h2, h3, h4⟩ | ⟨h1, h2⟩
        · exact Or.inl ⟨h1, j, by omega, h3, h4⟩
        · refine Or.inr ⟨h1, fun j hj hk => ?_⟩
          rcases Nat.lt_or_ge j n with z | z
          · exact h2 j z hk
          · obtain rfl : j = n := by omega
            exact e
def mi_X_reach : MI := (b_X_reach, 3, "RootedWords", some .int, 0, tbl_of 42 f_X_reach, fl_X, [], [])
theorem ok_X_reach : MOK mi_X_reach := ⟨tbl_ok k_X_reach, flok_X rfl, (fun _ h => absurd h List.not_mem_nil)⟩
theorem si_X_reach : ∀ q ∈ m_tr mi_X_reach, SiteF mi_X_reach q := (fun _ h => absurd h List.not_mem_nil)
def Hit (m : Nat → Int32) (a : Nat) : Prop := 1 ≤ a ∧ a ≤ 256 ∧ m a = 1
theorem c_X_reach_hit (a c : Nat) (hc : c < 257) (σ : Mem) (h : Hit (σ 5) a) : MetO y_X_reach mi_X_reach [.inr (.inl 0), .inl (nI a), .inl (nI c)] σ (.inl (some (.inl (nI (c + 1))), st (st σ 5 a 2) 6 c (nI a))) := by
  have e2 : nI c + nI 1 = nI (c + 1) := nI_add c 1
  have ha := h.2.1
  refine met_go ok_X_reach ⟨rfl, rfl⟩ si_X_reach (Nat.le_of_ble_eq_true rfl) ⟨trivial, trivial, trivial, trivial⟩ [] 60 (fun X hX K R1 T1 hK hR hT => ?_)
  conv => whnf
  refine ⟨fun h1 => absurd h1 (nI_nlt h.1 (by omega)), fun _ => ?_⟩
  conv => whnf
  refine ⟨fun h1 => absurd h1 (nI_nlt h.2.1 (by decide)), fun _ => ?_⟩
  conv => whnf
  refine ⟨vp_in_nI (by omega) (by decide), ?_⟩
  rw [nI_clamp (by omega)]
  conv => whnf
  refine ⟨fun _ => ?_, fun h1 => absurd h.2.2 h1⟩
  conv => whnf
  refine ⟨vp_in_nI (by omega) (by decide), ?_⟩
  rw [nI_clamp (by omega)]
  conv => whnf
  refine ⟨vp_in_nI (by omega) (by decide), ?_⟩
  rw [nI_clamp (by omega)]
  conv => whnf
  refine hR _ _ ?_
  rw [e2]; rfl
theorem c_X_reach_miss (x : Int32) (c : Nat) (σ : Mem) (h : ∀ a, x = nI a → ¬ Hit (σ 5) a) : MetO y_X_reach mi_X_reach [.inr (.inl 0), .inl x, .inl (nI c)] σ (.inl (some (.inl (nI c)), σ)) := by
  refine met_go ok_X_reach ⟨rfl, rfl⟩ si_X_reach (Nat.le_of_ble_eq_true rfl) ⟨trivial, trivial, trivial, trivial⟩ [] 60 (fun X hX K R1 T1 hK hR hT => ?_)
  conv => whnf
  refine ⟨fun h1 => ?_, fun h1 => ?_⟩
  · conv => whnf
    exact hR _ _ rfl
  conv => whnf
  refine ⟨fun h2 => ?_, fun h2 => ?_⟩
  · conv => whnf
    exact hR _ _ rfl
  obtain ⟨a, ha, e⟩ : ∃ a, a ≤ 256 ∧ x = nI a := by
    have h3 : ¬ x < 0 := fun z => h1 (by
      rw [Int32.lt_iff_toInt_lt] at z ⊢
      have : (nI 1).toInt = 1 := nI_toInt (by decide)
      rw [this]
      have : (0 : Int32).toInt = 0 := by decide
      omega)
    obtain ⟨a, ha, e⟩ := nI_of h3
    refine ⟨a, ?_, e⟩
    rw [e] at h2
    have := (not_congr (nI_ltI (by decide) ha)).mp h2
    omega
  subst e
  have h4 : 1 ≤ a := by
    have := (not_congr (nI_ltI (a := a) (b := 1) (by omega) (by decide))).mp h1
    omega
  conv => whnf
  refine ⟨vp_in_nI (by omega) (by decide), ?_⟩
  rw [nI_clamp (by omega)]
  conv => whnf
  refine ⟨fun h5 => absurd ⟨h4, ha, h5⟩ (h a rfl), fun _ => ?_⟩
  conv => whnf
  exact hR _ _ rfl
def ct_X_reach : CTy := fun as σ KN _ => ∃ x c, as = [.inl x, .inl (nI c)] ∧ c < 257 ∧ (∀ a, x = nI a → Hit (σ 5) a → KN (some (.inl (nI (c + 1)))) (st (st σ 5 a 2) 6 c (nI a))) ∧ ((∀ a, x = nI a → ¬ Hit (σ 5) a) → KN (some (.inl (nI c))) σ)
theorem s_X_reach : Snd y_X_reach mi_X_reach 0 2 ct_X_reach := by
  intro as σ KN KX _ ⟨x, c, e, hc, h1, h2⟩
  subst e
  by_cases q : ∃ a, x = nI a ∧ Hit (σ 5) a
  · obtain ⟨a, e, ha⟩ := q
    subst e
    exact ⟨.inl (_, _), h1 a rfl ha, c_X_reach_hit a c hc σ ha⟩
  · exact ⟨.inl (_, _), h2 (fun a e h => q ⟨a, e, h⟩), c_X_reach_miss x c σ (fun a e h => q ⟨a, e, h⟩)⟩
end
section
def sm (σ : Mem) (m f : Nat → Int32) : Mem := stA (stA σ 5 m) 6 f
theorem sm_upd (σ : Mem) (m f : Nat → Int32) (a c : Nat) (v w : Int32) : st (st (sm σ m f) 5 a v) 6 c w = sm σ (upd m a v) (upd f c w) := by
  funext b
  by_cases h6 : b = 6
  · subst h6; rfl
  · by_cases h5 : b = 5
    · subst h5; rfl
    · unfold sm
      rw [st_ne _ _ _ h6, st_ne _ _ _ h5, stA_ne _ _ h6, stA_ne _ _ h5, stA_ne _ _ h6, stA_ne _ _ h5]
theorem sm_ne (σ : Mem) (m f : Nat → Int32) (a : Nat) (h5 : a ≠ 5) (h6 : a ≠ 6) : sm σ m f a = σ a := by unfold sm; rw [stA_ne _ _ h6, stA_ne _ _ h5]
theorem sm_5 (σ : Mem) (m f : Nat → Int32) : sm σ m f 5 = m := by unfold sm; rw [stA_ne _ _ (by decide), stA_self]
theorem sm_6 (σ : Mem) (m f : Nat → Int32) : sm σ m f 6 = f := by unfold sm; rw [stA_self]
/-- the search, half way: marks m, c found, in the row f -/
def BI (w : Nat → Int32) (N : Nat) (ln kd : Nat → Nat) (m : Nat → Int32) (c : Nat) (f : Nat → Int32) : Prop :=
  (∀ a, a < 258 → m a ≠ 0 → ∃ j, j < N ∧ kd j ≠ 0 ∧ a = pos ln j + 1) ∧ (∀ j, j < N → kd j ≠ 0 → m (pos ln j + 1) = 1 ∨ m (pos ln j + 1) = 2) ∧ c = cntP (fun j => m (pos ln j + 1) = 2) N ∧
  (∀ k, k < c → ∃ e, e < N ∧ f k = nI (pos ln e + 1) ∧ m (pos ln e + 1) = 2) ∧ (∀ e, e < N → m (pos ln e + 1) = 2 → RS w N ln kd e ∧ ∃ k, k < c ∧ f k = nI (pos ln e + 1))
/-- what a word leads to is marked -/
def Cov (N : Nat) (ln kd : Nat → Nat) (m : Nat → Int32) (x : Int32) : Prop := ∀ e, Usd N ln kd e x → m (pos ln e + 1) = 2
def Ext (m : Nat → Int32) (c : Nat) (f m' : Nat → Int32) (c' : Nat) (f' : Nat → Int32) : Prop := (∀ a, m a = 2 → m' a = 2) ∧ (∀ k, k < c → f' k = f k) ∧ c ≤ c'
theorem Ext.rf {m : Nat → Int32} {c : Nat} {f : Nat → Int32} : Ext m c f m c f := ⟨fun _ h => h, fun _ _ => rfl, Nat.le_refl _⟩
theorem Ext.tr {m m1 m2 : Nat → Int32} {c c1 c2 : Nat} {f f1 f2 : Nat → Int32} (h : Ext m c f m1 c1 f1) (h' : Ext m1 c1 f1 m2 c2 f2) : Ext m c f m2 c2 f2 :=
  ⟨fun a q => h'.1 a (h.1 a q), fun k q => (h'.2.1 k (Nat.lt_of_lt_of_le q h.2.2)).trans (h.2.1 k q), Nat.le_trans h.2.2 h'.2.2⟩
theorem Cov.ext {N : Nat} {ln kd : Nat → Nat} {m m' : Nat → Int32} {x : Int32} (h : Cov N ln kd m x) (q : ∀ a, m a = 2 → m' a = 2) : Cov N ln kd m' x := fun e he => q _ (h e he)
theorem BI.c85 {w : Nat → Int32} {N : Nat} {ln kd : Nat → Nat} {m f : Nat → Int32} {c : Nat} (h : BI w N ln kd m c f) : c ≤ N := by
  rw [h.2.2.1]; exact cntP_le _ _
theorem BI.hit {w : Nat → Int32} {N : Nat} {ln kd : Nat → Nat} (hp : HP w N ln kd) {m f : Nat → Int32} {c : Nat} (h : BI w N ln kd m c f) {a : Nat} (ha : Hit m a) (hr : ∀ e, Usd N ln kd e (nI a) → RS w N ln kd e) :
    BI w N ln kd (upd m a 2) (c + 1) (upd f c (nI a)) ∧ Ext m c f (upd m a 2) (c + 1) (upd f c (nI a)) ∧ Cov N ln kd (upd m a 2) (nI a) := by
  obtain ⟨h1, h2, h3, h4, h5⟩ := h
  obtain ⟨a1, a2, a3⟩ := ha
  obtain ⟨j, j1, j2, j3⟩ := h1 a (by omega) (by rw [a3]; decide)
  have up : ∀ b, m b = 2 → upd m a 2 b = 2 := fun b hb => by
    by_cases e : b = a
    · rw [e, upd_s]
    · rw [upd_n _ _ e]; exact hb
  have iff : ∀ i, i < N → (upd m a 2 (pos ln i + 1) = 2 ↔ (m (pos ln i + 1) = 2 ∨ i = j)) := by
    intro i hi
    by_cases e : i = j
    · subst e
      rw [← j3, upd_s]
      exact ⟨fun _ => Or.inr rfl, fun _ => rfl⟩
    · rw [upd_n _ _ (by rw [j3]; intro z; exact e (hp.inj hi j1 (by omega)))]
      exact ⟨Or.inl, fun z => z.elim id (fun z => absurd z e)⟩
  have hj : ¬ m (pos ln j + 1) = 2 := by rw [← j3, a3]; decide
  refine ⟨⟨fun b hb hm => ?_, fun i hi hk => ?_, ?_, fun k hk => ?_, fun e he hm => ?_⟩, ⟨up, fun k hk => upd_n _ _ (by omega), Nat.le_succ c⟩, fun e he => ?_⟩
  · by_cases e : b = a
    · exact ⟨j, j1, j2, e.trans j3⟩
    · rw [upd_n _ _ e] at hm; exact h1 b hb hm
  · rcases h2 i hi hk with z | z
    · by_cases e : pos ln i + 1 = a
      · right; rw [e, upd_s]
      · left; rw [upd_n _ _ e]; exact z
    · exact Or.inr (up _ z)
  · rw [cntP_cong iff, cntP_add hj j1, ← h3]
  · rcases Nat.lt_or_ge k c with z | z
    · obtain ⟨e, e1, e2, e3⟩ := h4 k z
      exact ⟨e, e1, by rw [upd_n _ _ (by omega)]; exact e2, up _ e3⟩
    · obtain rfl : k = c := by omega
      exact ⟨j, j1, by rw [upd_s, j3], by rw [← j3, upd_s]⟩
  · rcases (iff e he).mp hm with z | z
    · obtain ⟨q1, k, q2, q3⟩ := h5 e he z
      exact ⟨q1, k, by omega, by rw [upd_n _ _ (by omega)]; exact q3⟩
    · subst z
      exact ⟨hr e ⟨j1, j2, by rw [j3]⟩, c, by omega, by rw [upd_s, j3]⟩
  · have : e = j := Us.uniq hp he.1 j1 he.2.2 (by rw [j3])
    rw [this, ← j3, upd_s]
theorem BI.miss {w : Nat → Int32} {N : Nat} {ln kd : Nat → Nat} (hp : HP w N ln kd) {m f : Nat → Int32} {c : Nat} (h : BI w N ln kd m c f) {x : Int32} (ha : ∀ a, x = nI a → ¬ Hit m a) : Cov N ln kd m x := by
  intro e he
  have g := hp.lt he.1
  rcases h.2.1 e he.1 he.2.1 with z | z
  · exact absurd ⟨by omega, by omega, z⟩ (ha _ he.2.2.symm)
  · exact z
def mi_X_searchFromRoots : MI := (b_X_searchFromRoots, 6, "RootedWords", some .int, 4, tbl_of 109 f_X_searchFromRoots, fl_X, [(82, (0, 1, ct_X_pointersAt)), (90, (1, 1, ct_D_word)), (168, (0, 0, ct_X_markUsed)), (171, (0, 2, ct_X_reach))], [])
theorem ok_X_searchFromRoots : MOK mi_X_searchFromRoots := ⟨tbl_ok k_X_searchFromRoots, flok_X rfl, List.forall_mem_cons.mpr ⟨okV 0 (by decide) s_X_pointersAt rfl (Nat.le_of_ble_eq_true rfl) (Nat.le_of_ble_eq_true rfl) (by decide +kernel) lk_X_82 vv_X_pointersAt, List.forall_mem_cons.mpr ⟨okV 1 (by decide) s_D_word rfl (Nat.le_of_ble_eq_true rfl) (Nat.le_of_ble_eq_true rfl) (by decide +kernel) lk_X_90 vv_D_word, List.forall_mem_cons.mpr ⟨okV 0 (by decide) s_X_markUsed rfl (Nat.le_of_ble_eq_true rfl) (Nat.le_of_ble_eq_true rfl) (by decide +kernel) lk_X_168 vv_X_markUsed, List.forall_mem_cons.mpr ⟨okV 0 (by decide) s_X_reach rfl (Nat.le_of_ble_eq_true rfl) (Nat.le_of_ble_eq_true rfl) (by decide +kernel) lk_X_171 vv_X_reach, (fun _ h => absurd h List.not_mem_nil)⟩⟩⟩⟩⟩
theorem si_X_searchFromRoots : ∀ q ∈ m_tr mi_X_searchFromRoots, SiteF mi_X_searchFromRoots q := (fun _ h => absurd h List.not_mem_nil)
theorem c_X_search_in {w : Nat → Int32} {N : Nat} {ln kd : Nat → Nat} (hp : HP w N ln kd) {σ : Mem} (hw : σ 2 = w) {e : Nat} (he : e < N) (hk : kd e ≠ 0) (hrs : RS w N ln kd e) (k : Nat) : ∀ (n i : Nat) (m : Nat → Int32) (c : Nat) (f : Nat → Int32), i + n + 1 = kd e → BI w N ln kd m c f → (∀ i', i' < i → Cov N ln kd m (w (pos ln e + 1 + i'))) →
    ∃ (m' : Nat → Int32) (c' : Nat) (f' : Nat → Int32), BI w N ln kd m' c' f' ∧ Ext m c f m' c' f' ∧ (∀ i', i' + 1 < kd e → Cov N ln kd m' (w (pos ln e + 1 + i'))) ∧ ∀ (X : CT) (oc : OC), CxO X mi_X_searchFromRoots oc →
      (∀ a3 a4 a5, Go X mi_X_searchFromRoots 40 [some (.inr (.inl 0)), some (.inl (nI c')), some (.inl (nI (k + 1))), a3, a4, a5] [] (sm σ m' f')) →
      Go X mi_X_searchFromRoots 71 [some (.inr (.inl 0)), some (.inl (nI c)), some (.inl (nI k)), some (.inl (nI (pos ln e + 1))), some (.inl (nI (kd e - 1))), some (.inl (nI i))] [] (sm σ m f) := by
  have g := hp.lt he
  have gk := hp.kdl he
  have ge := hp.end he
  have e1 : nI k + nI 1 = nI (k + 1) := nI_add k 1
  intro n
  induction n with
  | zero =>
    intro i m c f hi hB hC
    refine ⟨m, c, f, hB, Ext.rf, fun i' hi' => hC i' (by omega), fun X oc hX hG => ?_⟩
    obtain rfl : i = kd e - 1 := by omega
    refine Go_run ok_X_searchFromRoots hX [40] 60 (fun K R1 T1 hK hR hT => ?_)
    conv => whnf
    refine ⟨fun _ => ?_, fun h1 => absurd (nI_le (Nat.le_refl _) (by omega)) h1⟩
    conv => whnf
    refine hK _ _ _ _ ?_
    have h9 := hG (some (.inl (nI (pos ln e + 1)))) (some (.inl (nI (kd e - 1)))) (some (.inl (nI (kd e - 1))))
    rw [← e1] at h9
    exact h9
  | succ n ih =>
    intro i m c f hi hB hC
    have hc := hB.c85
    have hN := hp.N85
    have e2 : nI (pos ln e + 1) + nI i = nI (pos ln e + 1 + i) := nI_add _ _
    have e3 : nI i + nI 1 = nI (i + 1) := nI_add i 1
    have hx : ∀ e', Usd N ln kd e' (w (pos ln e + 1 + i)) → RS w N ln kd e' := fun e' h' => hrs.step he (by omega) h'
    have hw2 : sm σ m f 2 = w := by rw [sm_ne _ _ _ _ (by decide) (by decide)]; exact hw
    by_cases q : ∃ a, w (pos ln e + 1 + i) = nI a ∧ Hit m a
    · obtain ⟨a, qa, qh⟩ := q
      obtain ⟨b1, b2, b3⟩ := hB.hit hp qh (fun e' h' => hx e' (by rw [qa]; exact h'))
      obtain ⟨m', c', f', r1, r2, r3, r4⟩ := ih (i + 1) _ _ _ (by omega) b1 (fun i' hi' => by
        rcases Nat.lt_or_ge i' i with z | z
        · exact (hC i' z).ext b2.1
        · obtain rfl : i' = i := by omega
          rw [qa]; exact b3)
      refine ⟨m', c', f', r1, b2.tr r2, r3, fun X oc hX hG => ?_⟩
      have hG2 := r4 X oc hX hG
      refine Go_run ok_X_searchFromRoots hX [71] 60 (fun K R1 T1 hK hR hT => ?_)
      conv => whnf
      refine ⟨fun h2 => absurd h2 (nI_ge (by omega) (by omega)), fun _ => ?_⟩
      conv => whnf
      rw [e2]
      refine ⟨vp_in_nI (by omega) (by decide), ?_⟩
      rw [nI_clamp (by omega), hw2]
      conv => whnf
      refine ⟨_, c, rfl, by omega, fun a' h1 h2 => ?_, fun h1 => absurd qh (by have := h1 a qa; rw [sm_5] at this; exact this)⟩
      have : a' = a := nI_inj (by have := h2.2.1; omega) (by have := qh.2.1; omega) (h1.symm.trans qa)
      subst this
      conv => whnf
      refine hK _ _ _ _ ?_
      show Go X mi_X_searchFromRoots 71 [some (.inr (.inl 0)), some (.inl (nI (c + 1))), some (.inl (nI k)), some (.inl (nI (pos ln e + 1))), some (.inl (nI (kd e - 1))), some (.inl (nI i + nI 1))] [] (st (st (sm σ m f) 5 a' 2) 6 c (nI a'))
      rw [e3, sm_upd]
      exact hG2
    · have hm : ∀ a, w (pos ln e + 1 + i) = nI a → ¬ Hit m a := fun a h1 h2 => q ⟨a, h1, h2⟩
      obtain ⟨m', c', f', r1, r2, r3, r4⟩ := ih (i + 1) m c f (by omega) hB (fun i' hi' => by
        rcases Nat.lt_or_ge i' i with z | z
        · exact hC i' z
        · obtain rfl : i' = i := by omega
          exact hB.miss hp hm)
      refine ⟨m', c', f', r1, r2, r3, fun X oc hX hG => ?_⟩
      have hG2 := r4 X oc hX hG
      refine Go_run ok_X_searchFromRoots hX [71] 60 (fun K R1 T1 hK hR hT => ?_)
      conv => whnf
      refine ⟨fun h2 => absurd h2 (nI_ge (by omega) (by omega)), fun _ => ?_⟩
      conv => whnf
      rw [e2]
      refine ⟨vp_in_nI (by omega) (by decide), ?_⟩
      rw [nI_clamp (by omega), hw2]
      conv => whnf
      refine ⟨_, c, rfl, by omega, fun a' h1 h2 => absurd h2 (by rw [sm_5]; exact hm a' h1), fun _ => ?_⟩
      conv => whnf
      refine hK _ _ _ _ ?_
      show Go X mi_X_searchFromRoots 71 [some (.inr (.inl 0)), some (.inl (nI c)), some (.inl (nI k)), some (.inl (nI (pos ln e + 1))), some (.inl (nI (kd e - 1))), some (.inl (nI i + nI 1))] [] (sm σ m f)
      rw [e3]
      exact hG2
/-- all that is reached is marked, and nothing else -/
def FP (w : Nat → Int32) (N : Nat) (ln kd : Nat → Nat) (m : Nat → Int32) : Prop := ∀ e, e < N → (m (pos ln e + 1) = 2 ↔ RS w N ln kd e)
theorem c_X_search_out {w : Nat → Int32} {N : Nat} {ln kd : Nat → Nat} (hp : HP w N ln kd) {σ : Mem} (hw : σ 2 = w) : ∀ (n k : Nat) (m : Nat → Int32) (c : Nat) (f : Nat → Int32), k + n = 86 → k ≤ c → BI w N ln kd m c f → (∀ r, r < 8 → Cov N ln kd m (w (257 + r))) →
    (∀ k', k' < k → ∀ e, e < N → f k' = nI (pos ln e + 1) → ∀ i, i + 1 < kd e → Cov N ln kd m (w (pos ln e + 1 + i))) →
    ∃ (m' : Nat → Int32) (c' : Nat) (f' : Nat → Int32), BI w N ln kd m' c' f' ∧ FP w N ln kd m' ∧ ∀ (X : CT) (oc : OC), CxO X mi_X_searchFromRoots oc → oc = .inl (some (.inl (nI c')), sm σ m' f') →
      ∀ a3 a4 a5, Go X mi_X_searchFromRoots 40 [some (.inr (.inl 0)), some (.inl (nI c)), some (.inl (nI k)), a3, a4, a5] [] (sm σ m f) := by
  have hN := hp.N85
  intro n
  induction n with
  | zero =>
    intro k m c f hn hk hB
    have := hB.c85
    omega
  | succ n ih =>
    intro k m c f hn hk hB hR8 hPr
    have hc := hB.c85
    rcases Nat.lt_or_ge k c with z | z
    · obtain ⟨e, e1, e2, e3⟩ := hB.2.2.2.1 k z
      obtain ⟨q1, -⟩ := hB.2.2.2.2 e e1 e3
      have hkd := q1.used.2
      have g := hp.lt e1
      have g3 := hp.ln3 e1
      have gk := hp.kdl e1
      obtain ⟨m1, c1, f1, r1, r2, r3, r4⟩ := c_X_search_in hp hw e1 hkd q1 k (kd e - 1) 0 m c f (by omega) hB (fun i' hi' => absurd hi' (Nat.not_lt_zero _))
      obtain ⟨m', c', f', s1, s2, s3⟩ := ih (k + 1) m1 c1 f1 (by omega) (by have := r2.2.2; omega) r1 (fun r hr => (hR8 r hr).ext r2.1) (fun k' hk' e' he' hf' i hi => by
        rcases Nat.lt_or_ge k' k with y | y
        · rw [r2.2.1 k' (by omega)] at hf'
          exact (hPr k' y e' he' hf' i hi).ext r2.1
        · obtain rfl : k' = k := by omega
          rw [r2.2.1 k' (by omega), e2] at hf'
          have : e = e' := Us.uniq hp e1 he' hf' rfl
          subst this
          exact r3 i hi)
      refine ⟨m', c', f', s1, s2, fun X oc hX ho a3 a4 a5 => ?_⟩
      have hG := r4 X oc hX (s3 X oc hX ho)
      have hw2 : sm σ m f 2 = w := by rw [sm_ne _ _ _ _ (by decide) (by decide)]; exact hw
      refine Go_run ok_X_searchFromRoots hX [71] 60 (fun K R1 T1 hK hR hT => ?_)
      conv => whnf
      refine ⟨fun h2 => absurd h2 (nI_ge z (by omega)), fun _ => ?_⟩
      conv => whnf
      refine ⟨fun h2 => absurd h2 (nI_ge (by omega) (by decide)), fun _ => ?_⟩
      conv => whnf
      refine ⟨vp_in_nI (by omega) (by decide), ?_⟩
      rw [nI_clamp (by omega), sm_6, e2]
      conv => whnf
      refine ⟨pos ln e, ln e, kd e, congrArg (fun x => [(.inl x : AV)]) (nI_pred (pos ln e)), by rw [hw2]; exact tg_of hp e1, by omega, ?_⟩
      conv => whnf
      exact hK _ _ _ _ hG
    · obtain rfl : k = c := by omega
      refine ⟨m, k, f, hB, fun e he => ⟨fun h => (hB.2.2.2.2 e he h).1, fun h => ?_⟩, fun X oc hX ho a3 a4 a5 => ?_⟩
      · have h1 := h (fun e => e < N ∧ m (pos ln e + 1) = 2) (fun r hr j hj => ⟨hj.1, hR8 r hr j hj⟩) (fun j hj hjN i hi j' hj' => by
          obtain ⟨-, k', hk', hf'⟩ := hB.2.2.2.2 j hjN hj.2
          exact ⟨hj'.1, hPr k' hk' j hjN hf' i hi j' hj'⟩)
        exact h1.2
      · refine Go_run ok_X_searchFromRoots hX [71] 60 (fun K R1 T1 hK hR hT => ?_)
        conv => whnf
        refine ⟨fun _ => ?_, fun h2 => absurd (nI_le (Nat.le_refl _) (by omega)) h2⟩
        conv => whnf
        exact hR _ _ ho
theorem c_X_search_roots {w : Nat → Int32} {N : Nat} {ln kd : Nat → Nat} (hp : HP w N ln kd) {σ : Mem} (hw : σ 2 = w) : ∀ (n r : Nat) (m : Nat → Int32) (c : Nat) (f : Nat → Int32), r + n = 8 → BI w N ln kd m c f → (∀ r', r' < r → Cov N ln kd m (w (257 + r'))) →
    ∃ (m' : Nat → Int32) (c' : Nat) (f' : Nat → Int32), BI w N ln kd m' c' f' ∧ FP w N ln kd m' ∧ ∀ (X : CT) (oc : OC), CxO X mi_X_searchFromRoots oc → oc = .inl (some (.inl (nI c')), sm σ m' f') →
      Go X mi_X_searchFromRoots 8 [some (.inr (.inl 0)), some (.inl (nI c)), some (.inl (nI r)), none, none, none] [] (sm σ m f) := by
  have hN := hp.N85
  intro n
  induction n with
  | zero =>
    intro r m c f hr hB hC
    obtain rfl : r = 8 := by omega
    obtain ⟨m', c', f', s1, s2, s3⟩ := c_X_search_out hp hw 86 0 m c f (by omega) (Nat.zero_le _) hB hC (fun k' hk' => absurd hk' (Nat.not_lt_zero _))
    refine ⟨m', c', f', s1, s2, fun X oc hX ho => ?_⟩
    have hG := s3 X oc hX ho none none none
    refine Go_run ok_X_searchFromRoots hX [40] 60 (fun K R1 T1 hK hR hT => ?_)
    conv => whnf
    refine ⟨fun _ => ?_, fun h1 => absurd (nI_le (Nat.le_refl _) (by omega)) h1⟩
    conv => whnf
    exact hK _ _ _ _ hG
  | succ n ih =>
    intro r m c f hr hB hC
    have hc := hB.c85
    have e2 : nI 257 + nI r = nI (257 + r) := nI_add _ _
    have e3 : nI r + nI 1 = nI (r + 1) := nI_add r 1
    have hx : ∀ e', Usd N ln kd e' (w (257 + r)) → RS w N ln kd e' := fun e' h' => RS.root (by omega) h'
    have hw2 : sm σ m f 2 = w := by rw [sm_ne _ _ _ _ (by decide) (by decide)]; exact hw
    by_cases q : ∃ a, w (257 + r) = nI a ∧ Hit m a
    · obtain ⟨a, qa, qh⟩ := q
      obtain ⟨b1, b2, b3⟩ := hB.hit hp qh (fun e' h' => hx e' (by rw [qa]; exact h'))
      obtain ⟨m', c', f', r1, r2, r4⟩ := ih (r + 1) _ _ _ (by omega) b1 (fun i' hi' => by
        rcases Nat.lt_or_ge i' r with z | z
        · exact (hC i' z).ext b2.1
        · obtain rfl : i' = r := by omega
          rw [qa]; exact b3)
      refine ⟨m', c', f', r1, r2, fun X oc hX ho => ?_⟩
      have hG2 := r4 X oc hX ho
      refine Go_run ok_X_searchFromRoots hX [8] 60 (fun K R1 T1 hK hR hT => ?_)
      conv => whnf
      refine ⟨fun h2 => absurd h2 (nI_ge (by omega) (by omega)), fun _ => ?_⟩
      conv => whnf
      rw [e2]
      refine ⟨vp_in_nI (by omega) (by decide), ?_⟩
      rw [nI_clamp (by omega), hw2]
      conv => whnf
      refine ⟨_, c, rfl, by omega, fun a' h1 h2 => ?_, fun h1 => absurd qh (by have := h1 a qa; rw [sm_5] at this; exact this)⟩
      have : a' = a := nI_inj (by have := h2.2.1; omega) (by have := qh.2.1; omega) (h1.symm.trans qa)
      subst this
      conv => whnf
      refine hK _ _ _ _ ?_
      show Go X mi_X_searchFromRoots 8 [some (.inr (.inl 0)), some (.inl (nI (c + 1))), some (.inl (nI r + nI 1)), none, none, none] [] (st (st (sm σ m f) 5 a' 2) 6 c (nI a'))
      rw [e3, sm_upd]
      exact hG2
    · have hm : ∀ a, w (257 + r) = nI a → ¬ Hit m a := fun a h1 h2 => q ⟨a, h1, h2⟩
      obtain ⟨m', c', f', r1, r2, r4⟩ := ih (r + 1) m c f (by omega) hB (fun i' hi' => by
        rcases Nat.lt_or_ge i' r with z | z
        · exact hC i' z
        · obtain rfl : i' = r := by omega
          exact hB.miss hp hm)
      refine ⟨m', c', f', r1, r2, fun X oc hX ho => ?_⟩
      have hG2 := r4 X oc hX ho
      refine Go_run ok_X_searchFromRoots hX [8] 60 (fun K R1 T1 hK hR hT => ?_)
      conv => whnf
      refine ⟨fun h2 => absurd h2 (nI_ge (by omega) (by omega)), fun _ => ?_⟩
      conv => whnf
      rw [e2]
      refine ⟨vp_in_nI (by omega) (by decide), ?_⟩
      rw [nI_clamp (by omega), hw2]
      conv => whnf
      refine ⟨_, c, rfl, by omega, fun a' h1 h2 => absurd h2 (by rw [sm_5]; exact hm a' h1), fun _ => ?_⟩
      conv => whnf
      refine hK _ _ _ _ ?_
      show Go X mi_X_searchFromRoots 8 [some (.inr (.inl 0)), some (.inl (nI c)), some (.inl (nI r + nI 1)), none, none, none] [] (sm σ m f)
      rw [e3]
      exact hG2
theorem BI.start {σ : Mem} {N : Nat} {ln kd : Nat → Nat} (hp : HP (σ 2) N ln kd) (f : Nat → Int32) : BI (σ 2) N ln kd (muF (c0F (σ 5)) ln kd N) 0 f := by
  have hs := fun a ha => muF_spec (f := c0F (σ 5)) hp (fun a ha => fl0_in ha) N (Nat.le_refl N) a ha
  have h2 : ∀ a, a < 258 → ¬ muF (c0F (σ 5)) ln kd N a = 2 := fun a ha => by
    rcases hs a ha with ⟨h, -⟩ | ⟨h, -⟩ <;> rw [h] <;> decide
  refine ⟨fun a ha hm => ?_, fun j hj hk => ?_, (cntP_0 fun j hj => h2 _ (by have := hp.lt hj; omega)).symm, fun k hk => absurd hk (Nat.not_lt_zero _), fun e he hm => absurd hm (h2 _ (by have := hp.lt he; omega))⟩
  · rcases hs a ha with ⟨-, h⟩ | ⟨h, -⟩
    · exact h
    · exact absurd h hm
  · rcases hs (pos ln j + 1) (by have := hp.lt hj; omega) with ⟨h, -⟩ | ⟨-, h⟩
    · exact Or.inl h
    · exact absurd rfl (h j hj hk)
theorem c_X_searchFromRoots (σ : Mem) (N : Nat) (ln kd : Nat → Nat) (h : HP (σ 2) N ln kd) : ∃ (m f : Nat → Int32), FP (σ 2) N ln kd m ∧ MetO y_X_searchFromRoots mi_X_searchFromRoots [.inr (.inl 0)] σ (.inl (some (.inl (nI (cntP (RS (σ 2) N ln kd) N))), sm (muM σ N ln kd) m f)) := by
  have e6 : sm (muM σ N ln kd) (muF (c0F (σ 5)) ln kd N) (muM σ N ln kd 6) = muM σ N ln kd := by
    have e5 : muF (c0F (σ 5)) ln kd N = muM σ N ln kd 5 := by unfold muM; rw [stA_self]
    unfold sm
    rw [e5, stA_id, stA_id]
  obtain ⟨m, c, f, h1, h2, h3⟩ := c_X_search_roots h (σ := muM σ N ln kd) (w := σ 2) rfl 8 0 _ 0 (muM σ N ln kd 6) (by omega) (BI.start h _) (fun r' hr' => absurd hr' (Nat.not_lt_zero _))
  refine ⟨m, f, h2, ?_⟩
  have hc : c = cntP (RS (σ 2) N ln kd) N := by rw [h1.2.2.1]; exact cntP_cong fun j hj => h2 j hj
  refine met_go ok_X_searchFromRoots ⟨rfl, rfl⟩ si_X_searchFromRoots (Nat.le_of_ble_eq_true rfl) ⟨trivial, trivial⟩ [8] 60 (fun X hX K R1 T1 hK hR hT => ?_)
  conv => whnf
  refine ⟨N, ln, kd, h, ?_⟩
  conv => whnf
  refine hK _ _ _ _ ?_
  have h9 := h3 X _ hX (by rw [hc])
  rw [e6] at h9
  exact h9
/-- the memory behind the search: one that its contract names -/
theorem sr_ex (σ : Mem) (N : Nat) (ln kd : Nat → Nat) : ∃ τ : Mem, HP (σ 2) N ln kd → (∃ m f, FP (σ 2) N ln kd m ∧ τ = sm (muM σ N ln kd) m f) ∧ MetO y_X_searchFromRoots mi_X_searchFromRoots [.inr (.inl 0)] σ (.inl (some (.inl (nI (cntP (RS (σ 2) N ln kd) N))), τ)) := by
  by_cases h : HP (σ 2) N ln kd
  · obtain ⟨m, f, h1, h2⟩ := c_X_searchFromRoots σ N ln kd h
    exact ⟨_, fun _ => ⟨⟨m, f, h1, rfl⟩, h2⟩⟩
  · exact ⟨σ, fun z => absurd z h⟩
noncomputable def srM (σ : Mem) (N : Nat) (ln kd : Nat → Nat) : Mem := Classical.choose (sr_ex σ N ln kd)
theorem srM_spec {σ : Mem} {N : Nat} {ln kd : Nat → Nat} (h : HP (σ 2) N ln kd) : ∃ m f, FP (σ 2) N ln kd m ∧ srM σ N ln kd = sm (muM σ N ln kd) m f := (Classical.choose_spec (sr_ex σ N ln kd) h).1
theorem srM_ne {σ : Mem} {N : Nat} {ln kd : Nat → Nat} (h : HP (σ 2) N ln kd) (a : Nat) (h4 : a ≠ 4) (h5 : a ≠ 5) (h6 : a ≠ 6) : srM σ N ln kd a = σ a := by
  obtain ⟨m, f, -, e⟩ := srM_spec h
  rw [e, sm_ne _ _ _ _ h5 h6]
  unfold muM
  rw [stA_ne _ _ h5, lsF_ne _ _ _ _ h4]
theorem srM_5 {σ : Mem} {N : Nat} {ln kd : Nat → Nat} (h : HP (σ 2) N ln kd) : FP (σ 2) N ln kd (srM σ N ln kd 5) := by
  obtain ⟨m, f, h1, e⟩ := srM_spec h
  rw [e, sm_5]
  exact h1
def ct_X_searchFromRoots : CTy := fun as σ KN _ => match as with
  | [] => ∃ N ln kd, HP (σ 2) N ln kd ∧ KN (some (.inl (nI (cntP (RS (σ 2) N ln kd) N)))) (srM σ N ln kd)
  | _ => False
theorem s_X_searchFromRoots : Snd y_X_searchFromRoots mi_X_searchFromRoots 0 0 ct_X_searchFromRoots := by
  intro as σ KN KX _ hf
  match as, hf with
  | [], ⟨N, ln, kd, h, hf⟩ => exact ⟨.inl (_, _), hf, (Classical.choose_spec (sr_ex σ N ln kd) h).2⟩
end
section
/-! ===== rows that are free or not reached become one ===== -/
theorem wrs_ne : ∀ (l : List (Nat × Int32)) (σ : Mem) (a : Nat), a ≠ 1 → a ≠ 2 → (wrs σ l).1 a = σ a
  | [], _, _, _, _ => rfl
  | q :: l, σ, a, h1, h2 => by
    show (if σ 1 3 = 0 then (wrF σ, true) else wrs (wrO σ q.1 q.2) l).1 a = σ a
    by_cases h : σ 1 3 = 0
    · rw [if_pos h]; exact wrF_ne σ a h1
    · rw [if_neg h, wrs_ne l _ a h1 h2, wrO_ne σ _ _ a h1 h2]
theorem wrs_place : ∀ (l : List (Nat × Int32)) (σ : Mem) (p : Nat), (∀ q ∈ l, q.1 ≠ p) → (wrs σ l).1 2 p = σ 2 p
  | [], _, _, _ => rfl
  | q :: l, σ, p, h => by
    show (if σ 1 3 = 0 then (wrF σ, true) else wrs (wrO σ q.1 q.2) l).1 2 p = σ 2 p
    by_cases h0 : σ 1 3 = 0
    · rw [if_pos h0]; show wrF σ 2 p = σ 2 p; rw [wrF_ne σ 2 (by decide)]
    · rw [if_neg h0, wrs_place l _ p (fun z hz => h z (List.mem_cons_of_mem _ hz)), wrO_2, upd_n _ _ (Ne.symm (h q List.mem_cons_self))]
/-- the places of one extent's change -/
theorem mfL (σ : Mem) (f n k : Nat) (h : f + n ≤ 257) : chgL (peF σ 0 f n k 3) 2 = [(266, nI f), (267, nI (256 * n + k)), (268, nI (f + n - 1)), (269, nI (256 * n + k)), (265, nI 2), (f, nI (256 * n + k)), (f + n - 1, nI (256 * n + k)), (265, 0)] := by
  have e1 : (nI f).toNatClampNeg = f := nI_clamp (by omega)
  have e2 : (nI (f + n - 1)).toNatClampNeg = f + n - 1 := nI_clamp (by omega)
  show [(266, nI f), (267, nI (256 * n + k)), (268, nI (f + n - 1)), (269, nI (256 * n + k)), (265, nI 2), ((nI f).toNatClampNeg, nI (256 * n + k)), ((nI (f + n - 1)).toNatClampNeg, nI (256 * n + k)), (265, 0)] = _
  rw [e1, e2]
def mfW (σ : Mem) (f n : Nat) : Mem × Bool := wrs (peF σ 0 f n 0) (chgL (peF σ 0 f n 0 3) 2)
theorem mfW_ne (σ : Mem) (f n a : Nat) (h1 : a ≠ 1) (h2 : a ≠ 2) (h3 : a ≠ 3) : (mfW σ f n).1 a = σ a := by
  unfold mfW
  rw [wrs_ne _ _ _ h1 h2, peF_ne _ _ _ _ _ _ h3]
theorem mfW_2 (σ : Mem) (f n p : Nat) (h : f + n ≤ 257) (hp : p < 265) (h1 : p ≠ f) (h2 : p ≠ f + n - 1) : (mfW σ f n).1 2 p = σ 2 p := by
  unfold mfW
  rw [mfL σ f n 0 h, wrs_place, peF_ne _ _ _ _ _ _ (by decide)]
  intro q hq
  simp only [List.mem_cons, List.mem_nil_iff, or_false] at hq
  rcases hq with rfl | rfl | rfl | rfl | rfl | rfl | rfl | rfl
  all_goals (show _ ≠ p; omega)
/-- the end of a row that isn't reached -/
def reF (N : Nat) (rb : Nat → Bool) : Nat → Nat → Nat
  | 0, i => i
  | n + 1, i => if i + 1 < N ∧ rb (i + 1) = false then reF N rb n (i + 1) else i
theorem reF_ge (N : Nat) (rb : Nat → Bool) : ∀ n i, i ≤ reF N rb n i
  | 0, i => Nat.le_refl i
  | n + 1, i => by
    unfold reF
    by_cases h : i + 1 < N ∧ rb (i + 1) = false
    · rw [if_pos h]; exact Nat.le_trans (Nat.le_succ i) (reF_ge N rb n (i + 1))
    · rw [if_neg h]; exact Nat.le_refl i
theorem reF_lt (N : Nat) (rb : Nat → Bool) : ∀ n i, i < N → reF N rb n i < N
  | 0, i, h => h
  | n + 1, i, h => by
    unfold reF
    by_cases q : i + 1 < N ∧ rb (i + 1) = false
    · rw [if_pos q]; exact reF_lt N rb n (i + 1) q.1
    · rw [if_neg q]; exact h
def fuF (N : Nat) (ln kd : Nat → Nat) (rb : Nat → Bool) : Nat → Nat → Mem → Mem × Bool
  | 0, _, σ => (σ, false)
  | n + 1, i, σ => if i < N then (if rb i = true then fuF N ln kd rb n (i + 1) σ else
      if i < reF N rb N i ∨ kd (reF N rb N i) ≠ 0 then
        (if (mfW σ (pos ln i) (pos ln (reF N rb N i) + ln (reF N rb N i) - pos ln i)).2 = true then mfW σ (pos ln i) (pos ln (reF N rb N i) + ln (reF N rb N i) - pos ln i)
         else fuF N ln kd rb n (reF N rb N i + 1) (mfW σ (pos ln i) (pos ln (reF N rb N i) + ln (reF N rb N i) - pos ln i)).1)
      else fuF N ln kd rb n (reF N rb N i + 1) σ) else (σ, false)
def fuO (r : Mem × Bool) : OC := if r.2 = true then .inr (eIS, r.1) else .inl (none, r.1)
def mi_X_freeUnreached : MI := (b_X_freeUnreached, 4, "RootedWords", none, 4, tbl_of 117 f_X_freeUnreached, fl_X, [(55, (0, 1, ct_X_lengthAt)), (72, (0, 1, ct_X_isFreeAt)), (76, (0, 2, ct_X_makeFree)), (105, (0, 0, ct_X_listExtents)), (174, (0, 1, ct_X_isReachedAt))], [])
theorem ok_X_freeUnreached : MOK mi_X_freeUnreached := ⟨tbl_ok k_X_freeUnreached, flok_X rfl, List.forall_mem_cons.mpr ⟨okV 0 (by decide) s_X_lengthAt rfl (Nat.le_of_ble_eq_true rfl) (Nat.le_of_ble_eq_true rfl) (by decide +kernel) lk_X_55 vv_X_lengthAt, List.forall_mem_cons.mpr ⟨okV 0 (by decide) s_X_isFreeAt rfl (Nat.le_of_ble_eq_true rfl) (Nat.le_of_ble_eq_true rfl) (by decide +kernel) lk_X_72 vv_X_isFreeAt, List.forall_mem_cons.mpr ⟨okV 0 (by decide) s_X_makeFree rfl (Nat.le_of_ble_eq_true rfl) (Nat.le_of_ble_eq_true rfl) (by decide +kernel) lk_X_76 vv_X_makeFree, List.forall_mem_cons.mpr ⟨okV 0 (by decide) s_X_listExtents rfl (Nat.le_of_ble_eq_true rfl) (Nat.le_of_ble_eq_true rfl) (by decide +kernel) lk_X_105 vv_X_listExtents, List.forall_mem_cons.mpr ⟨okV 0 (by decide) s_X_isReachedAt rfl (Nat.le_of_ble_eq_true rfl) (Nat.le_of_ble_eq_true rfl) (by decide +kernel) lk_X_174 vv_X_isReachedAt, (fun _ h => absurd h List.not_mem_nil)⟩⟩⟩⟩⟩⟩
theorem si_X_freeUnreached : ∀ q ∈ m_tr mi_X_freeUnreached, SiteF mi_X_freeUnreached q := (fun _ h => absurd h List.not_mem_nil)
theorem c_X_fu_in {X : CT} {oc : OC} (hX : CxO X mi_X_freeUnreached oc) {σ : Mem} {w : Nat → Int32} {N : Nat} {ln kd : Nat → Nat} (h : HP w N ln kd) (hf : ∀ j, j < N → σ 4 j = nI (pos ln j)) {rb : Nat → Bool} (hm : ∀ j, j < N → (rb j = true ↔ σ 5 (pos ln j + 1) = 2)) (s : Nat) : ∀ (n i : Nat), i < N → N ≤ i + n + 1 →
    Go X mi_X_freeUnreached 58 [some (.inr (.inl 0)), some (.inl (nI N)), some (.inl (nI (reF N rb n i))), some (.inl (nI s))] [] σ → Go X mi_X_freeUnreached 30 [some (.inr (.inl 0)), some (.inl (nI N)), some (.inl (nI i)), some (.inl (nI s))] [] σ := by
  have hN := h.N85
  intro n
  induction n with
  | zero =>
    intro i hi hn hG
    have e1 : nI i + nI 1 = nI (i + 1) := nI_add i 1
    refine Go_run ok_X_freeUnreached hX [58] 60 (fun K R1 T1 hK hR hT => ?_)
    conv => whnf
    rw [e1]
    refine ⟨fun _ => ?_, fun h1 => absurd (nI_le (by omega) (by omega)) h1⟩
    conv => whnf
    exact hK _ _ _ _ hG
  | succ n ih =>
    intro i hi hn hG
    have e1 : nI i + nI 1 = nI (i + 1) := nI_add i 1
    refine Go_run ok_X_freeUnreached hX [30, 58] 60 (fun K R1 T1 hK hR hT => ?_)
    conv => whnf
    rw [e1]
    refine ⟨fun h1 => ?_, fun h1 => ?_⟩
    · conv => whnf
      refine hK _ _ _ _ ?_
      have h2 : N ≤ i + 1 := (nI_leI (by omega) (by omega)).mp h1
      unfold reF at hG
      rw [if_neg (fun z => by omega)] at hG
      exact hG
    · have h2 : i + 1 < N := by have := (not_congr (nI_leI (a := N) (b := i + 1) (by omega) (by omega))).mp h1; omega
      have g1 := h.lt h2
      conv => whnf
      rw [e1]
      refine ⟨vp_in_nI (by omega) (by decide), ?_⟩
      rw [nI_clamp (by omega), hf _ h2]
      conv => whnf
      refine ⟨pos ln (i + 1), rfl, by omega, ?_⟩
      conv => whnf
      refine ⟨fun h3 => ?_, fun h3 => ?_⟩
      · conv => whnf
        refine hK _ _ _ _ ?_
        have h4 : rb (i + 1) = true := (hm _ h2).mpr (by
          by_cases q : σ 5 (pos ln (i + 1) + 1) = 2
          · exact q
          · rw [if_neg q] at h3; exact absurd rfl h3)
        unfold reF at hG
        rw [if_neg (fun z => by rw [h4] at z; exact absurd z.2 (by decide))] at hG
        exact hG
      · conv => whnf
        refine hK _ _ _ _ ?_
        have h4 : rb (i + 1) = false := by
          cases q : rb (i + 1) with
          | false => rfl
          | true => rw [if_pos ((hm _ h2).mp q)] at h3; exact absurd h3 (by decide)
        unfold reF at hG
        rw [if_pos ⟨h2, h4⟩] at hG
        show Go X mi_X_freeUnreached 30 [some (.inr (.inl 0)), some (.inl (nI N)), some (.inl (nI i + nI 1)), some (.inl (nI s))] [] σ
        rw [e1]
        exact ih (i + 1) h2 (by omega) hG
theorem c_X_fu_loop {X : CT} {oc : OC} (hX : CxO X mi_X_freeUnreached oc) {w m : Nat → Int32} {N : Nat} {ln kd : Nat → Nat} (h : HP w N ln kd) {rb : Nat → Bool} (hm : ∀ j, j < N → (rb j = true ↔ m (pos ln j + 1) = 2)) : ∀ (n i : Nat) (σ : Mem) (a3 : Option AV), N < i + n → i ≤ N → (∀ j, j < N → σ 4 j = nI (pos ln j)) → σ 5 = m → (∀ j, i ≤ j → j < N → tgAt (σ 2) (pos ln j) (ln j) (kd j)) →
    oc = fuO (fuF N ln kd rb n i σ) → Go X mi_X_freeUnreached 7 [some (.inr (.inl 0)), some (.inl (nI N)), some (.inl (nI i)), a3] [] σ := by
  have hN := h.N85
  intro n
  induction n with
  | zero => intro i σ a3 h1 h2; exact absurd h1 (by omega)
  | succ n ih =>
    intro i σ a3 hn hi hf h5 ht ho
    unfold fuF at ho
    by_cases hiN : i < N
    case neg =>
      rw [if_neg hiN] at ho
      refine Go_run ok_X_freeUnreached hX [7] 60 (fun K R1 T1 hK hR hT => ?_)
      conv => whnf
      refine ⟨fun _ => ?_, fun h1 => absurd (nI_le (by omega) (by omega)) h1⟩
      conv => whnf
      exact hR _ _ ho
    rw [if_pos hiN] at ho
    have g1 := h.lt hiN
    have e1 : ∀ i, nI i + nI 1 = nI (i + 1) := fun i => nI_add i 1
    cases hrb : rb i with
    | true =>
      rw [if_pos hrb] at ho
      refine Go_run ok_X_freeUnreached hX [7] 60 (fun K R1 T1 hK hR hT => ?_)
      conv => whnf
      refine ⟨fun h2 => absurd h2 (nI_ge hiN (by omega)), fun _ => ?_⟩
      conv => whnf
      refine ⟨vp_in_nI (by omega) (by decide), ?_⟩
      rw [nI_clamp (by omega), hf i hiN]
      conv => whnf
      refine ⟨pos ln i, rfl, by omega, ?_⟩
      rw [h5, if_pos ((hm i hiN).mp hrb)]
      conv => whnf
      refine ⟨fun h3 => absurd h3 (by decide), fun _ => ?_⟩
      conv => whnf
      refine hK _ _ _ _ ?_
      show Go X mi_X_freeUnreached 7 [some (.inr (.inl 0)), some (.inl (nI N)), some (.inl (nI i + nI 1)), a3] [] σ
      rw [e1]
      exact ih (i + 1) σ a3 (by omega) (by omega) hf h5 (fun j hj => ht j (by omega)) ho
    | false =>
      have hm0 : ¬ m (pos ln i + 1) = 2 := fun z => by rw [(hm i hiN).mpr z] at hrb; cases hrb
      rw [if_neg (by rw [hrb]; decide)] at ho
      have gt0 := reF_ge N rb N i
      have gt1 := reF_lt N rb N i hiN
      generalize hT9 : reF N rb N i = t at ho gt0 gt1
      have g2 := h.lt gt1
      have g3 := h.end gt1
      have g4 := h.ln3 gt1
      have g5 := pos_mono (ln := ln) gt0
      have hin : Go X mi_X_freeUnreached 30 [some (.inr (.inl 0)), some (.inl (nI N)), some (.inl (nI i)), some (.inl (nI i))] [] σ := by
        refine c_X_fu_in hX h hf (rb := rb) (fun j hj => by rw [h5]; exact hm j hj) i N i hiN (by omega) ?_
        rw [hT9]
        have mkf : fuO (if (mfW σ (pos ln i) (pos ln t + ln t - pos ln i)).2 = true then mfW σ (pos ln i) (pos ln t + ln t - pos ln i) else fuF N ln kd rb n (t + 1) (mfW σ (pos ln i) (pos ln t + ln t - pos ln i)).1) = oc →
            Go X mi_X_freeUnreached 76 [some (.inr (.inl 0)), some (.inl (nI N)), some (.inl (nI t)), some (.inl (nI i))] [] σ := by
          intro hoc
          have e5 : nI (pos ln t) + nI (ln t) - nI (pos ln i) = nI (pos ln t + ln t - pos ln i) := by rw [nI_add, pk_sub (by omega)]
          refine Go_run ok_X_freeUnreached hX [7] 60 (fun K R1 T1 hK hR hT => ?_)
          conv => whnf
          refine ⟨vp_in_nI (by omega) (by decide), ?_⟩
          rw [nI_clamp (by omega), hf i hiN]
          conv => whnf
          refine ⟨vp_in_nI (by omega) (by decide), ?_⟩
          rw [nI_clamp (by omega), hf t gt1]
          conv => whnf
          refine ⟨vp_in_nI (by omega) (by decide), ?_⟩
          rw [nI_clamp (by omega), hf t gt1]
          conv => whnf
          refine ⟨pos ln t, ln t, kd t, rfl, ht t gt0 gt1, ?_⟩
          conv => whnf
          refine ⟨vp_in_nI (by omega) (by decide), ?_⟩
          rw [nI_clamp (by omega), hf i hiN]
          conv => whnf
          rw [e5]
          refine ⟨pos ln i, pos ln t + ln t - pos ln i, rfl, by omega, by omega, fun σ' hσ => ?_, fun σ' hσ => ?_⟩
          · have hs : mfW σ (pos ln i) (pos ln t + ln t - pos ln i) = (σ', false) := hσ
            conv => whnf
            refine hK _ _ _ _ ?_
            show Go X mi_X_freeUnreached 7 [some (.inr (.inl 0)), some (.inl (nI N)), some (.inl (nI t + nI 1)), some (.inl (nI i))] [] σ'
            have e9 : σ' = (mfW σ (pos ln i) (pos ln t + ln t - pos ln i)).1 := by rw [hs]
            rw [e1]
            refine ih (t + 1) σ' _ (by omega) (by omega) (fun j hj => ?_) ?_ (fun j hj1 hj2 => ?_) ?_
            · rw [e9, mfW_ne _ _ _ _ (by decide) (by decide) (by decide)]; exact hf j hj
            · rw [e9, mfW_ne _ _ _ _ (by decide) (by decide) (by decide)]; exact h5
            · have k1 := ht j (by omega) hj2
              have k2 := h.sep gt1 (j := j) (by omega)
              have k3 := h.lt hj2
              refine ⟨?_, k1.2⟩
              rw [e9, mfW_2 _ _ _ _ (by omega) (by omega) (by omega) (by omega)]
              exact k1.1
            · rw [← hoc, hs]; rfl
          · have hs : mfW σ (pos ln i) (pos ln t + ln t - pos ln i) = (σ', true) := hσ
            refine hT _ _ _ ?_
            rw [← hoc, hs]; rfl
        refine Go_run ok_X_freeUnreached hX [76, 7] 60 (fun K R1 T1 hK hR hT => ?_)
        conv => whnf
        refine ⟨fun h1 => ?_, fun h1 => ?_⟩
        · conv => whnf
          have h2 : i < t := (nI_ltI (by omega) (by omega)).mp h1
          rw [if_pos (Or.inl h2)] at ho
          exact hK _ _ _ _ (mkf ho.symm)
        · have h2 : ¬ i < t := (not_congr (nI_ltI (by omega) (by omega))).mp h1
          conv => whnf
          refine ⟨vp_in_nI (by omega) (by decide), ?_⟩
          rw [nI_clamp (by omega), hf t gt1]
          conv => whnf
          refine ⟨pos ln t, ln t, kd t, rfl, ht t gt0 gt1, ?_⟩
          conv => whnf
          refine ⟨fun h3 => ?_, fun h3 => ?_⟩
          · conv => whnf
            refine hK _ _ _ _ ?_
            rw [if_neg (fun z => z.elim h2 (fun z => z (fr_0.mp h3)))] at ho
            show Go X mi_X_freeUnreached 7 [some (.inr (.inl 0)), some (.inl (nI N)), some (.inl (nI t + nI 1)), some (.inl (nI i))] [] σ
            rw [e1]
            exact ih (t + 1) σ _ (by omega) (by omega) hf h5 (fun j hj => ht j (by omega)) ho
          · conv => whnf
            rw [if_pos (Or.inr (fr_1.mp h3))] at ho
            exact hK _ _ _ _ (mkf ho.symm)
      refine Go_run ok_X_freeUnreached hX [30] 60 (fun K R1 T1 hK hR hT => ?_)
      conv => whnf
      refine ⟨fun h2 => absurd h2 (nI_ge hiN (by omega)), fun _ => ?_⟩
      conv => whnf
      refine ⟨vp_in_nI (by omega) (by decide), ?_⟩
      rw [nI_clamp (by omega), hf i hiN]
      conv => whnf
      refine ⟨pos ln i, rfl, by omega, ?_⟩
      rw [h5, if_neg hm0]
      conv => whnf
      refine ⟨fun _ => ?_, fun h3 => absurd rfl h3⟩
      conv => whnf
      exact hK _ _ _ _ hin
theorem c_X_freeUnreached (σ : Mem) (N : Nat) (ln kd : Nat → Nat) (h : HP (σ 2) N ln kd) (rb : Nat → Bool) (hm : ∀ j, j < N → (rb j = true ↔ σ 5 (pos ln j + 1) = 2)) : MetO y_X_freeUnreached mi_X_freeUnreached [.inr (.inl 0)] σ (fuO (fuF N ln kd rb (N + 1) 0 (lsF σ ln N))) := by
  refine met_go ok_X_freeUnreached ⟨rfl, rfl⟩ si_X_freeUnreached (Nat.le_of_ble_eq_true rfl) ⟨trivial, trivial⟩ [7] 60 (fun X hX K R1 T1 hK hR hT => ?_)
  conv => whnf
  refine ⟨N, ln, kd, h, ?_⟩
  conv => whnf
  exact hK _ _ _ _ (c_X_fu_loop hX (w := σ 2) (m := σ 5) h hm (N + 1) 0 (lsF σ ln N) none (by omega) (Nat.zero_le _) (fun j hj => lsF_4 σ ln N j hj) rfl (fun j _ hj => tg_of h hj) rfl)
def ct_X_freeUnreached : CTy := fun as σ KN KX => match as with
  | [] => ∃ N ln kd rb, HP (σ 2) N ln kd ∧ (∀ j, j < N → (rb j = true ↔ σ 5 (pos ln j + 1) = 2)) ∧ (∀ σ', fuF N ln kd rb (N + 1) 0 (lsF σ ln N) = (σ', false) → KN none σ') ∧ (∀ σ', fuF N ln kd rb (N + 1) 0 (lsF σ ln N) = (σ', true) → KX eIS σ')
  | _ => False
theorem fuO_use {y : MethodName} {M : MI} {as : List AV} {σ : Mem} {r : Mem × Bool} {KN : Option AV → Mem → Prop} {KX : String → Mem → Prop} (hm : MetO y M as σ (fuO r)) (h1 : ∀ σ', r = (σ', false) → KN none σ') (h2 : ∀ σ', r = (σ', true) → KX eIS σ') :
    ∃ oc : OC, (match oc with | .inl z => KN z.1 z.2 | .inr z => KX z.1 z.2) ∧ MetO y M as σ oc := by
  refine ⟨_, ?_, hm⟩
  unfold fuO
  by_cases h : r.2 = true
  · rw [if_pos h]; exact h2 _ (Prod.ext rfl h)
  · rw [if_neg h]; exact h1 _ (Prod.ext rfl (Bool.not_eq_true _ ▸ h))
theorem s_X_freeUnreached : Snd y_X_freeUnreached mi_X_freeUnreached 0 0 ct_X_freeUnreached := by
  intro as σ KN KX _ hf
  match as, hf with
  | [], ⟨N, ln, kd, rb, h, hm, h1, h2⟩ => exact fuO_use (c_X_freeUnreached σ N ln kd h rb hm) h1 h2
end
section
/-! ===== the class: its face, first half ===== -/
def mi_X_writes : MI := (b_X_writes, 1, "RootedWords", some .int, 1, tbl_of 8 f_X_writes, fl_X, [(141, (1, 0, ct_D_writeCount))], [])
theorem ok_X_writes : MOK mi_X_writes := ⟨tbl_ok k_X_writes, flok_X rfl, List.forall_mem_cons.mpr ⟨okV 1 (by decide) s_D_writeCount rfl (Nat.le_of_ble_eq_true rfl) (Nat.le_of_ble_eq_true rfl) (by decide +kernel) lk_X_141 vv_D_writeCount, (fun _ h => absurd h List.not_mem_nil)⟩⟩
theorem si_X_writes : ∀ q ∈ m_tr mi_X_writes, SiteF mi_X_writes q := (fun _ h => absurd h List.not_mem_nil)
theorem c_X_writes (σ : Mem) : MetO y_X_writes mi_X_writes [.inr (.inl 0)] σ (.inl (some (.inl (σ 1 2)), σ)) := by
  refine met_go ok_X_writes ⟨rfl, rfl⟩ si_X_writes (Nat.le_of_ble_eq_true rfl) ⟨trivial, trivial⟩ [] 60 (fun X hX K R1 T1 hK hR hT => ?_)
  conv => whnf
  exact hR _ _ rfl
def mi_X_down : MI := (b_X_down, 1, "RootedWords", some .boolean, 1, tbl_of 8 f_X_down, fl_X, [(125, (1, 0, ct_D_isDown))], [])
theorem ok_X_down : MOK mi_X_down := ⟨tbl_ok k_X_down, flok_X rfl, List.forall_mem_cons.mpr ⟨okV 1 (by decide) s_D_isDown rfl (Nat.le_of_ble_eq_true rfl) (Nat.le_of_ble_eq_true rfl) (by decide +kernel) lk_X_125 vv_D_isDown, (fun _ h => absurd h List.not_mem_nil)⟩⟩
theorem si_X_down : ∀ q ∈ m_tr mi_X_down, SiteF mi_X_down q := (fun _ h => absurd h List.not_mem_nil)
theorem c_X_down (σ : Mem) (h : bl (σ 1 4)) : MetO y_X_down mi_X_down [.inr (.inl 0)] σ (.inl (some (.inl (σ 1 4)), σ)) := by
  refine met_go ok_X_down ⟨rfl, rfl⟩ si_X_down (Nat.le_of_ble_eq_true rfl) ⟨trivial, trivial⟩ [] 60 (fun X hX K R1 T1 hK hR hT => ?_)
  conv => whnf
  refine ⟨h, ?_⟩
  conv => whnf
  exact ⟨bl_and h, hR _ _ rfl⟩
def mi_X_order : MI := (b_X_order, 2, "RootedWords", some .boolean, 1, tbl_of 23 f_X_order, fl_X, [(122, (1, 1, ct_D_failAfter))], [])
theorem ok_X_order : MOK mi_X_order := ⟨tbl_ok k_X_order, flok_X rfl, List.forall_mem_cons.mpr ⟨okV 1 (by decide) s_D_failAfter rfl (Nat.le_of_ble_eq_true rfl) (Nat.le_of_ble_eq_true rfl) (by decide +kernel) lk_X_122 vv_D_failAfter, (fun _ h => absurd h List.not_mem_nil)⟩⟩
theorem si_X_order : ∀ q ∈ m_tr mi_X_order, SiteF mi_X_order q := (fun _ h => absurd h List.not_mem_nil)
def or_ok (n : Int32) : Prop := ¬ n < 0 ∧ n ≤ nI 1000
theorem c_X_order_ok (n : Int32) (σ : Mem) (h : or_ok n) : MetO y_X_order mi_X_order [.inr (.inl 0), .inl n] σ (.inl (some (.inl 1), st σ 1 3 n)) := by
  refine met_go ok_X_order ⟨rfl, rfl⟩ si_X_order (Nat.le_of_ble_eq_true rfl) ⟨trivial, trivial, trivial⟩ [] 60 (fun X hX K R1 T1 hK hR hT => ?_)
  conv => whnf
  refine ⟨fun h1 => absurd h1 h.1, fun _ => ?_⟩
  conv => whnf
  refine ⟨fun _ => ?_, fun h1 => absurd h.2 h1⟩
  conv => whnf
  exact ⟨rfl, hR _ _ rfl⟩
theorem c_X_order_no (n : Int32) (σ : Mem) (h : ¬ or_ok n) : MetO y_X_order mi_X_order [.inr (.inl 0), .inl n] σ (.inl (some (.inl 0), σ)) := by
  refine met_go ok_X_order ⟨rfl, rfl⟩ si_X_order (Nat.le_of_ble_eq_true rfl) ⟨trivial, trivial, trivial⟩ [] 60 (fun X hX K R1 T1 hK hR hT => ?_)
  conv => whnf
  refine ⟨fun _ => ?_, fun h1 => ?_⟩
  · conv => whnf
    exact ⟨rfl, hR _ _ rfl⟩
  · conv => whnf
    refine ⟨fun h2 => absurd ⟨h1, h2⟩ h, fun _ => ?_⟩
    conv => whnf
    exact ⟨rfl, hR _ _ rfl⟩
def mi_X_reached : MI := (b_X_reached, 1, "RootedWords", some .int, 5, tbl_of 9 f_X_reached, fl_X, [(34, (0, 0, ct_X_refuseWhenDown)), (119, (0, 0, ct_X_searchFromRoots))], [])
theorem ok_X_reached : MOK mi_X_reached := ⟨tbl_ok k_X_reached, flok_X rfl, List.forall_mem_cons.mpr ⟨okV 0 (by decide) s_X_refuseWhenDown rfl (Nat.le_of_ble_eq_true rfl) (Nat.le_of_ble_eq_true rfl) (by decide +kernel) lk_X_34 vv_X_refuseWhenDown, List.forall_mem_cons.mpr ⟨okV 0 (by decide) s_X_searchFromRoots rfl (Nat.le_of_ble_eq_true rfl) (Nat.le_of_ble_eq_true rfl) (by decide +kernel) lk_X_119 vv_X_searchFromRoots, (fun _ h => absurd h List.not_mem_nil)⟩⟩⟩
theorem si_X_reached : ∀ q ∈ m_tr mi_X_reached, SiteF mi_X_reached q := (fun _ h => absurd h List.not_mem_nil)
theorem c_X_reached_down (σ : Mem) (h : σ 1 4 = 1) : MetO y_X_reached mi_X_reached [.inr (.inl 0)] σ (.inr (eIS, σ)) := by
  refine met_go ok_X_reached ⟨rfl, rfl⟩ si_X_reached (Nat.le_of_ble_eq_true rfl) ⟨trivial, trivial⟩ [] 60 (fun X hX K R1 T1 hK hR hT => ?_)
  conv => whnf
  refine ⟨Or.inr h, fun _ => ?_, fun h1 => absurd (h.symm.trans h1) (by decide)⟩
  exact hT _ _ _ rfl
theorem c_X_reached_up (σ : Mem) (h : σ 1 4 = 0) {N : Nat} {ln kd : Nat → Nat} (hp : HP (σ 2) N ln kd) : MetO y_X_reached mi_X_reached [.inr (.inl 0)] σ (.inl (some (.inl (nI (cntP (RS (σ 2) N ln kd) N))), srM σ N ln kd)) := by
  refine met_go ok_X_reached ⟨rfl, rfl⟩ si_X_reached (Nat.le_of_ble_eq_true rfl) ⟨trivial, trivial⟩ [] 60 (fun X hX K R1 T1 hK hR hT => ?_)
  conv => whnf
  refine ⟨Or.inl h, fun h1 => absurd (h.symm.trans h1) (by decide), fun _ => ?_⟩
  conv => whnf
  refine ⟨N, ln, kd, hp, ?_⟩
  conv => whnf
  exact hR _ _ rfl
def mi_X_root : MI := (b_X_root, 2, "RootedWords", some .int, 5, tbl_of 15 f_X_root, fl_X, [(34, (0, 0, ct_X_refuseWhenDown)), (99, (0, 1, ct_X_refuseUnlessRoot)), (102, (0, 1, ct_X_usedRoot))], [])
theorem ok_X_root : MOK mi_X_root := ⟨tbl_ok k_X_root, flok_X rfl, List.forall_mem_cons.mpr ⟨okV 0 (by decide) s_X_refuseWhenDown rfl (Nat.le_of_ble_eq_true rfl) (Nat.le_of_ble_eq_true rfl) (by decide +kernel) lk_X_34 vv_X_refuseWhenDown, List.forall_mem_cons.mpr ⟨okV 0 (by decide) s_X_refuseUnlessRoot rfl (Nat.le_of_ble_eq_true rfl) (Nat.le_of_ble_eq_true rfl) (by decide +kernel) lk_X_99 vv_X_refuseUnlessRoot, List.forall_mem_cons.mpr ⟨okV 0 (by decide) s_X_usedRoot rfl (Nat.le_of_ble_eq_true rfl) (Nat.le_of_ble_eq_true rfl) (by decide +kernel) lk_X_102 vv_X_usedRoot, (fun _ h => absurd h List.not_mem_nil)⟩⟩⟩⟩
theorem si_X_root : ∀ q ∈ m_tr mi_X_root, SiteF mi_X_root q := (fun _ h => absurd h List.not_mem_nil)
theorem c_X_root_down (r : Int32) (σ : Mem) (h : σ 1 4 = 1) : MetO y_X_root mi_X_root [.inr (.inl 0), .inl r] σ (.inr (eIS, σ)) := by
  refine met_go ok_X_root ⟨rfl, rfl⟩ si_X_root (Nat.le_of_ble_eq_true rfl) ⟨trivial, trivial, trivial⟩ [] 60 (fun X hX K R1 T1 hK hR hT => ?_)
  conv => whnf
  refine ⟨Or.inr h, fun _ => ?_, fun h1 => absurd (h.symm.trans h1) (by decide)⟩
  exact hT _ _ _ rfl
theorem c_X_root_no (r : Int32) (σ : Mem) (h : σ 1 4 = 0) (hr : ¬ rt_ok r) : MetO y_X_root mi_X_root [.inr (.inl 0), .inl r] σ (.inr (eIO, σ)) := by
  refine met_go ok_X_root ⟨rfl, rfl⟩ si_X_root (Nat.le_of_ble_eq_true rfl) ⟨trivial, trivial, trivial⟩ [] 60 (fun X hX K R1 T1 hK hR hT => ?_)
  conv => whnf
  refine ⟨Or.inl h, fun h1 => absurd (h.symm.trans h1) (by decide), fun _ => ?_⟩
  conv => whnf
  refine ⟨fun _ => ?_, fun h1 => absurd h1 hr⟩
  exact hT _ _ _ rfl
theorem rt_nat {r : Int32} (h : rt_ok r) : ∃ j, j < 8 ∧ r = nI j := by
  obtain ⟨j, hj, e⟩ := nI_of h.1
  refine ⟨j, ?_, e⟩
  have := h.2
  rw [e] at this
  exact (nI_ltI hj (by decide)).mp this
theorem rt_okN {j : Nat} (h : j < 8) : rt_ok (nI j) := ⟨nI_pos (by omega), nI_lt h (by decide)⟩
theorem c_X_root_ok (j : Nat) (hj : j < 8) (σ : Mem) (h : σ 1 4 = 0) {N : Nat} {ln kd : Nat → Nat} (hp : HP (σ 2) N ln kd) (v : Int32) (hv : (Us N ln kd (σ 2 (257 + j)) → v = σ 2 (257 + j)) ∧ (¬ Us N ln kd (σ 2 (257 + j)) → v = 0)) : MetO y_X_root mi_X_root [.inr (.inl 0), .inl (nI j)] σ (.inl (some (.inl v), lsF σ ln N)) := by
  refine met_go ok_X_root ⟨rfl, rfl⟩ si_X_root (Nat.le_of_ble_eq_true rfl) ⟨trivial, trivial, trivial⟩ [] 60 (fun X hX K R1 T1 hK hR hT => ?_)
  conv => whnf
  refine ⟨Or.inl h, fun h1 => absurd (h.symm.trans h1) (by decide), fun _ => ?_⟩
  conv => whnf
  refine ⟨fun h1 => absurd (rt_okN hj) h1, fun _ => ?_⟩
  conv => whnf
  refine ⟨j, N, ln, kd, rfl, hj, hp, fun q => ?_, fun q => ?_⟩
  · conv => whnf
    exact hR _ _ (by rw [hv.1 q])
  · conv => whnf
    exact hR _ _ (by rw [hv.2 q])
def mi_X_extent : MI := (b_X_extent, 3, "RootedWords", some .int, 3, tbl_of 55 f_X_extent, fl_X, [(34, (0, 0, ct_X_refuseWhenDown)), (72, (0, 1, ct_X_isFreeAt)), (105, (0, 0, ct_X_listExtents))], [(16, "java/lang/IndexOutOfBoundsException")])
theorem ok_X_extent : MOK mi_X_extent := ⟨tbl_ok k_X_extent, flok_X rfl, List.forall_mem_cons.mpr ⟨okV 0 (by decide) s_X_refuseWhenDown rfl (Nat.le_of_ble_eq_true rfl) (Nat.le_of_ble_eq_true rfl) (by decide +kernel) lk_X_34 vv_X_refuseWhenDown, List.forall_mem_cons.mpr ⟨okV 0 (by decide) s_X_isFreeAt rfl (Nat.le_of_ble_eq_true rfl) (Nat.le_of_ble_eq_true rfl) (by decide +kernel) lk_X_72 vv_X_isFreeAt, List.forall_mem_cons.mpr ⟨okV 0 (by decide) s_X_listExtents rfl (Nat.le_of_ble_eq_true rfl) (Nat.le_of_ble_eq_true rfl) (by decide +kernel) lk_X_105 vv_X_listExtents, (fun _ h => absurd h List.not_mem_nil)⟩⟩⟩⟩
theorem si_X_extent : ∀ q ∈ m_tr mi_X_extent, SiteF mi_X_extent q := List.forall_mem_cons.mpr ⟨⟨114, 116, 118, "there is no such extent", ⟨by decide +kernel, by decide +kernel, by decide +kernel, by decide +kernel, by decide +kernel⟩, by decide +kernel, Or.inl th_X_114⟩, (fun _ h => absurd h List.not_mem_nil)⟩
theorem c_X_extent_down (i : Int32) (σ : Mem) (h : σ 1 4 = 1) : MetO y_X_extent mi_X_extent [.inr (.inl 0), .inl i] σ (.inr (eIS, σ)) := by
  refine met_go ok_X_extent ⟨rfl, rfl⟩ si_X_extent (Nat.le_of_ble_eq_true rfl) ⟨trivial, trivial, trivial⟩ [] 60 (fun X hX K R1 T1 hK hR hT => ?_)
  conv => whnf
  refine ⟨Or.inr h, fun _ => ?_, fun h1 => absurd (h.symm.trans h1) (by decide)⟩
  exact hT _ _ _ rfl
theorem c_X_extent_neg (i : Int32) (σ : Mem) (h : σ 1 4 = 0) (hi : i < 0) : MetO y_X_extent mi_X_extent [.inr (.inl 0), .inl i] σ (.inr (eIO, σ)) := by
  refine met_go ok_X_extent ⟨rfl, rfl⟩ si_X_extent (Nat.le_of_ble_eq_true rfl) ⟨trivial, trivial, trivial⟩ [] 60 (fun X hX K R1 T1 hK hR hT => ?_)
  conv => whnf
  refine ⟨Or.inl h, fun h1 => absurd (h.symm.trans h1) (by decide), fun _ => ?_⟩
  conv => whnf
  refine ⟨fun _ => ?_, fun h1 => absurd hi h1⟩
  conv => whnf
  exact hT _ _ _ rfl
theorem c_X_extent_big (i : Int32) (σ : Mem) (h : σ 1 4 = 0) {N : Nat} {ln kd : Nat → Nat} (hp : HP (σ 2) N ln kd) (hi : ¬ i < 0) (hi2 : ¬ i < nI N) : MetO y_X_extent mi_X_extent [.inr (.inl 0), .inl i] σ (.inr (eIO, lsF σ ln N)) := by
  refine met_go ok_X_extent ⟨rfl, rfl⟩ si_X_extent (Nat.le_of_ble_eq_true rfl) ⟨trivial, trivial, trivial⟩ [] 60 (fun X hX K R1 T1 hK hR hT => ?_)
  conv => whnf
  refine ⟨Or.inl h, fun h1 => absurd (h.symm.trans h1) (by decide), fun _ => ?_⟩
  conv => whnf
  refine ⟨fun h1 => absurd h1 hi, fun _ => ?_⟩
  conv => whnf
  refine ⟨N, ln, kd, hp, ?_⟩
  conv => whnf
  refine ⟨fun h1 => absurd h1 hi2, fun _ => ?_⟩
  conv => whnf
  exact hT _ _ _ rfl
theorem c_X_extent_ok (k : Nat) (σ : Mem) (h : σ 1 4 = 0) {N : Nat} {ln kd : Nat → Nat} (hp : HP (σ 2) N ln kd) (hk : k < N) (v : Int32) (hv : (kd k = 0 → v = -nI (pos ln k + 1)) ∧ (kd k ≠ 0 → v = nI (pos ln k + 1))) : MetO y_X_extent mi_X_extent [.inr (.inl 0), .inl (nI k)] σ (.inl (some (.inl v), lsF σ ln N)) := by
  have hN := hp.N85
  have g := hp.lt hk
  have e1 : nI (pos ln k) + nI 1 = nI (pos ln k + 1) := nI_add _ _
  refine met_go ok_X_extent ⟨rfl, rfl⟩ si_X_extent (Nat.le_of_ble_eq_true rfl) ⟨trivial, trivial, trivial⟩ [] 60 (fun X hX K R1 T1 hK hR hT => ?_)
  conv => whnf
  refine ⟨Or.inl h, fun h1 => absurd (h.symm.trans h1) (by decide), fun _ => ?_⟩
  conv => whnf
  refine ⟨fun h1 => absurd h1 (nI_pos (by omega)), fun _ => ?_⟩
  conv => whnf
  refine ⟨N, ln, kd, hp, ?_⟩
  conv => whnf
  refine ⟨fun _ => ?_, fun h1 => absurd (nI_lt hk (by omega)) h1⟩
  conv => whnf
  refine ⟨vp_in_nI (by omega) (by decide), ?_⟩
  rw [nI_clamp (by omega), lsF_4 σ ln N k hk]
  conv => whnf
  refine ⟨vp_in_nI (by omega) (by decide), ?_⟩
  rw [nI_clamp (by omega), lsF_4 σ ln N k hk]
  conv => whnf
  refine ⟨pos ln k, ln k, kd k, rfl, tg_of (w := σ 2) hp hk, ?_⟩
  conv => whnf
  refine ⟨fun h3 => ?_, fun h3 => ?_⟩
  · conv => whnf
    refine hR _ _ ?_
    rw [e1, hv.2 (fr_1.mp h3)]
  · conv => whnf
    refine hR _ _ ?_
    rw [e1, hv.1 (fr_0.mp h3)]
/-! sums over the free extents -/
def fsum (ln kd : Nat → Nat) : Nat → Nat
  | 0 => 0
  | i + 1 => if kd i = 0 then fsum ln kd i + (ln i - 2) else fsum ln kd i
def mi_X_freeWords : MI := (b_X_freeWords, 4, "RootedWords", some .int, 3, tbl_of 52 f_X_freeWords, fl_X, [(34, (0, 0, ct_X_refuseWhenDown)), (72, (0, 1, ct_X_isFreeAt)), (96, (0, 1, ct_X_contentAt)), (105, (0, 0, ct_X_listExtents))], [])
theorem ok_X_freeWords : MOK mi_X_freeWords := ⟨tbl_ok k_X_freeWords, flok_X rfl, List.forall_mem_cons.mpr ⟨okV 0 (by decide) s_X_refuseWhenDown rfl (Nat.le_of_ble_eq_true rfl) (Nat.le_of_ble_eq_true rfl) (by decide +kernel) lk_X_34 vv_X_refuseWhenDown, List.forall_mem_cons.mpr ⟨okV 0 (by decide) s_X_isFreeAt rfl (Nat.le_of_ble_eq_true rfl) (Nat.le_of_ble_eq_true rfl) (by decide +kernel) lk_X_72 vv_X_isFreeAt, List.forall_mem_cons.mpr ⟨okV 0 (by decide) s_X_contentAt rfl (Nat.le_of_ble_eq_true rfl) (Nat.le_of_ble_eq_true rfl) (by decide +kernel) lk_X_96 vv_X_contentAt, List.forall_mem_cons.mpr ⟨okV 0 (by decide) s_X_listExtents rfl (Nat.le_of_ble_eq_true rfl) (Nat.le_of_ble_eq_true rfl) (by decide +kernel) lk_X_105 vv_X_listExtents, (fun _ h => absurd h List.not_mem_nil)⟩⟩⟩⟩⟩
theorem si_X_freeWords : ∀ q ∈ m_tr mi_X_freeWords, SiteF mi_X_freeWords q := (fun _ h => absurd h List.not_mem_nil)
theorem c_X_freeWords_down (σ : Mem) (h : σ 1 4 = 1) : MetO y_X_freeWords mi_X_freeWords [.inr (.inl 0)] σ (.inr (eIS, σ)) := by
  refine met_go ok_X_freeWords ⟨rfl, rfl⟩ si_X_freeWords (Nat.le_of_ble_eq_true rfl) ⟨trivial, trivial⟩ [13] 60 (fun X hX K R1 T1 hK hR hT => ?_)
  conv => whnf
  refine ⟨Or.inr h, fun _ => ?_, fun h1 => absurd (h.symm.trans h1) (by decide)⟩
  exact hT _ _ _ rfl
theorem c_X_freeWords_loop {X : CT} {oc : OC} (hX : CxO X mi_X_freeWords oc) {σ : Mem} {N : Nat} {ln kd : Nat → Nat} (h : HP (σ 2) N ln kd) (hf : ∀ j, j < N → σ 4 j = nI (pos ln j)) (ho : oc = .inl (some (.inl (nI (fsum ln kd N))), σ)) : ∀ (n i : Nat), i + n = N →
    Go X mi_X_freeWords 13 [some (.inr (.inl 0)), some (.inl (nI N)), some (.inl (nI (fsum ln kd i))), some (.inl (nI i))] [] σ := by
  intro n
  have hN := h.N85
  induction n with
  | zero =>
    intro i hi
    obtain rfl : i = N := by omega
    refine Go_run ok_X_freeWords hX [13] 60 (fun K R1 T1 hK hR hT => ?_)
    conv => whnf
    refine ⟨fun _ => ?_, fun h1 => absurd (nI_le (Nat.le_refl _) (by omega)) h1⟩
    conv => whnf
    exact hR _ _ ho
  | succ n ih =>
    intro i hi
    have hi' : i < N := by omega
    have g1 := h.lt hi'
    have g3 := h.ln3 hi'
    have e2 : nI i + nI 1 = nI (i + 1) := nI_add i 1
    have h9 := ih (i + 1) (by omega)
    unfold fsum at h9
    refine Go_run ok_X_freeWords hX [13] 60 (fun K R1 T1 hK hR hT => ?_)
    conv => whnf
    refine ⟨fun h2 => absurd h2 (nI_ge hi' (by omega)), fun _ => ?_⟩
    conv => whnf
    refine ⟨vp_in_nI (by omega) (by decide), ?_⟩
    rw [nI_clamp (by omega), hf i hi']
    conv => whnf
    refine ⟨pos ln i, ln i, kd i, rfl, tg_of h hi', ?_⟩
    conv => whnf
    refine ⟨fun h3 => ?_, fun h3 => ?_⟩
    · conv => whnf
      refine hK _ _ _ _ ?_
      show Go X mi_X_freeWords 13 [some (.inr (.inl 0)), some (.inl (nI N)), some (.inl (nI (fsum ln kd i))), some (.inl (nI i + nI 1))] [] σ
      rw [if_neg (fr_1.mp h3)] at h9
      rw [e2]; exact h9
    · conv => whnf
      refine ⟨vp_in_nI (by omega) (by decide), ?_⟩
      rw [nI_clamp (by omega), hf i hi']
      conv => whnf
      refine ⟨pos ln i, ln i, kd i, rfl, tg_of h hi', by omega, ?_⟩
      conv => whnf
      refine hK _ _ _ _ ?_
      show Go X mi_X_freeWords 13 [some (.inr (.inl 0)), some (.inl (nI N)), some (.inl (nI (fsum ln kd i) + nI (ln i - 2))), some (.inl (nI i + nI 1))] [] σ
      rw [if_pos (fr_0.mp h3)] at h9
      rw [e2, nI_add]; exact h9
theorem c_X_freeWords_up (σ : Mem) (h : σ 1 4 = 0) {N : Nat} {ln kd : Nat → Nat} (hp : HP (σ 2) N ln kd) : MetO y_X_freeWords mi_X_freeWords [.inr (.inl 0)] σ (.inl (some (.inl (nI (fsum ln kd N))), lsF σ ln N)) := by
  refine met_go ok_X_freeWords ⟨rfl, rfl⟩ si_X_freeWords (Nat.le_of_ble_eq_true rfl) ⟨trivial, trivial⟩ [13] 60 (fun X hX K R1 T1 hK hR hT => ?_)
  conv => whnf
  refine ⟨Or.inl h, fun h1 => absurd (h.symm.trans h1) (by decide), fun _ => ?_⟩
  conv => whnf
  refine ⟨N, ln, kd, hp, ?_⟩
  conv => whnf
  exact hK _ _ _ _ (c_X_freeWords_loop hX (σ := lsF σ ln N) hp (fun j hj => lsF_4 σ ln N j hj) rfl N 0 (by omega))
def fmax (ln kd : Nat → Nat) : Nat → Nat
  | 0 => 0
  | i + 1 => if kd i = 0 then max (fmax ln kd i) (ln i - 2) else fmax ln kd i
def mi_X_largestFree : MI := (b_X_largestFree, 4, "RootedWords", some .int, 3, tbl_of 54 f_X_largestFree, fl_X, [(34, (0, 0, ct_X_refuseWhenDown)), (72, (0, 1, ct_X_isFreeAt)), (96, (0, 1, ct_X_contentAt)), (105, (0, 0, ct_X_listExtents)), (109, (99, 2, ct_max))], [])
theorem ok_X_largestFree : MOK mi_X_largestFree := ⟨tbl_ok k_X_largestFree, flok_X rfl, List.forall_mem_cons.mpr ⟨okV 0 (by decide) s_X_refuseWhenDown rfl (Nat.le_of_ble_eq_true rfl) (Nat.le_of_ble_eq_true rfl) (by decide +kernel) lk_X_34 vv_X_refuseWhenDown, List.forall_mem_cons.mpr ⟨okV 0 (by decide) s_X_isFreeAt rfl (Nat.le_of_ble_eq_true rfl) (Nat.le_of_ble_eq_true rfl) (by decide +kernel) lk_X_72 vv_X_isFreeAt, List.forall_mem_cons.mpr ⟨okV 0 (by decide) s_X_contentAt rfl (Nat.le_of_ble_eq_true rfl) (Nat.le_of_ble_eq_true rfl) (by decide +kernel) lk_X_96 vv_X_contentAt, List.forall_mem_cons.mpr ⟨okV 0 (by decide) s_X_listExtents rfl (Nat.le_of_ble_eq_true rfl) (Nat.le_of_ble_eq_true rfl) (by decide +kernel) lk_X_105 vv_X_listExtents, List.forall_mem_cons.mpr ⟨okMax lk_X_109 vs_max.1 vs_max.2.1 vs_max.2.2, (fun _ h => absurd h List.not_mem_nil)⟩⟩⟩⟩⟩⟩
theorem si_X_largestFree : ∀ q ∈ m_tr mi_X_largestFree, SiteF mi_X_largestFree q := (fun _ h => absurd h List.not_mem_nil)
theorem c_X_largestFree_down (σ : Mem) (h : σ 1 4 = 1) : MetO y_X_largestFree mi_X_largestFree [.inr (.inl 0)] σ (.inr (eIS, σ)) := by
  refine met_go ok_X_largestFree ⟨rfl, rfl⟩ si_X_largestFree (Nat.le_of_ble_eq_true rfl) ⟨trivial, trivial⟩ [13] 60 (fun X hX K R1 T1 hK hR hT => ?_)
  conv => whnf
  refine ⟨Or.inr h, fun _ => ?_, fun h1 => absurd (h.symm.trans h1) (by decide)⟩
  exact hT _ _ _ rfl
theorem fmax_le {w : Nat → Int32} {N : Nat} {ln kd : Nat → Nat} (h : HP w N ln kd) : ∀ i, i ≤ N → fmax ln kd i ≤ 256
  | 0, _ => Nat.zero_le _
  | i + 1, hi => by
    have h1 := fmax_le h i (by omega)
    have h2 := h.lt (i := i) (by omega)
    unfold fmax
    split
    · exact Nat.max_le.mpr ⟨h1, by omega⟩
    · exact h1
theorem c_X_largestFree_loop {X : CT} {oc : OC} (hX : CxO X mi_X_largestFree oc) {σ : Mem} {N : Nat} {ln kd : Nat → Nat} (h : HP (σ 2) N ln kd) (hf : ∀ j, j < N → σ 4 j = nI (pos ln j)) (ho : oc = .inl (some (.inl (nI (fmax ln kd N))), σ)) : ∀ (n i : Nat), i + n = N →
    Go X mi_X_largestFree 13 [some (.inr (.inl 0)), some (.inl (nI N)), some (.inl (nI (fmax ln kd i))), some (.inl (nI i))] [] σ := by
  intro n
  have hN := h.N85
  induction n with
  | zero =>
    intro i hi
    obtain rfl : i = N := by omega
    refine Go_run ok_X_largestFree hX [13] 60 (fun K R1 T1 hK hR hT => ?_)
    conv => whnf
    refine ⟨fun _ => ?_, fun h1 => absurd (nI_le (Nat.le_refl _) (by omega)) h1⟩
    conv => whnf
    exact hR _ _ ho
  | succ n ih =>
    intro i hi
    have hi' : i < N := by omega
    have g1 := h.lt hi'
    have g3 := h.ln3 hi'
    have g4 := fmax_le h i (by omega)
    have e2 : nI i + nI 1 = nI (i + 1) := nI_add i 1
    have h9 := ih (i + 1) (by omega)
    unfold fmax at h9
    refine Go_run ok_X_largestFree hX [13] 60 (fun K R1 T1 hK hR hT => ?_)
    conv => whnf
    refine ⟨fun h2 => absurd h2 (nI_ge hi' (by omega)), fun _ => ?_⟩
    conv => whnf
    refine ⟨vp_in_nI (by omega) (by decide), ?_⟩
    rw [nI_clamp (by omega), hf i hi']
    conv => whnf
    refine ⟨pos ln i, ln i, kd i, rfl, tg_of h hi', ?_⟩
    conv => whnf
    refine ⟨fun h3 => ?_, fun h3 => ?_⟩
    · conv => whnf
      refine hK _ _ _ _ ?_
      show Go X mi_X_largestFree 13 [some (.inr (.inl 0)), some (.inl (nI N)), some (.inl (nI (fmax ln kd i))), some (.inl (nI i + nI 1))] [] σ
      rw [if_neg (fr_1.mp h3)] at h9
      rw [e2]; exact h9
    · conv => whnf
      refine ⟨vp_in_nI (by omega) (by decide), ?_⟩
      rw [nI_clamp (by omega), hf i hi']
      conv => whnf
      refine ⟨pos ln i, ln i, kd i, rfl, tg_of h hi', by omega, ?_⟩
      conv => whnf
      refine hK _ _ _ _ ?_
      show Go X mi_X_largestFree 13 [some (.inr (.inl 0)), some (.inl (nI N)), some (.inl (if nI (fmax ln kd i) < nI (ln i - 2) then nI (ln i - 2) else nI (fmax ln kd i))), some (.inl (nI i + nI 1))] [] σ
      rw [if_pos (fr_0.mp h3)] at h9
      have e3 : (if nI (fmax ln kd i) < nI (ln i - 2) then nI (ln i - 2) else nI (fmax ln kd i)) = nI (max (fmax ln kd i) (ln i - 2)) := by
        by_cases q : nI (fmax ln kd i) < nI (ln i - 2)
        · rw [if_pos q]
          have := (nI_ltI (by omega) (by omega)).mp q
          exact nI_eqI (by omega)
        · rw [if_neg q]
          have := (not_congr (nI_ltI (by omega) (by omega))).mp q
          exact nI_eqI (by omega)
      rw [e2, e3]; exact h9
theorem c_X_largestFree_up (σ : Mem) (h : σ 1 4 = 0) {N : Nat} {ln kd : Nat → Nat} (hp : HP (σ 2) N ln kd) : MetO y_X_largestFree mi_X_largestFree [.inr (.inl 0)] σ (.inl (some (.inl (nI (fmax ln kd N))), lsF σ ln N)) := by
  refine met_go ok_X_largestFree ⟨rfl, rfl⟩ si_X_largestFree (Nat.le_of_ble_eq_true rfl) ⟨trivial, trivial⟩ [13] 60 (fun X hX K R1 T1 hK hR hT => ?_)
  conv => whnf
  refine ⟨Or.inl h, fun h1 => absurd (h.symm.trans h1) (by decide), fun _ => ?_⟩
  conv => whnf
  refine ⟨N, ln, kd, hp, ?_⟩
  conv => whnf
  exact hK _ _ _ _ (c_X_largestFree_loop hX (σ := lsF σ ln N) hp (fun j hj => lsF_4 σ ln N j hj) rfl N 0 (by omega))
end
section
/-! ===== the class: its face, second half ===== -/
def mi_X_load : MI := (b_X_load, 3, "RootedWords", some .int, 5, tbl_of 26 f_X_load, fl_X, [(34, (0, 0, ct_X_refuseWhenDown)), (69, (0, 1, ct_X_refuseUnlessUsed)), (79, (0, 2, ct_X_refuseUnlessWord)), (90, (1, 1, ct_D_word))], [])
theorem ok_X_load : MOK mi_X_load := ⟨tbl_ok k_X_load, flok_X rfl, List.forall_mem_cons.mpr ⟨okV 0 (by decide) s_X_refuseWhenDown rfl (Nat.le_of_ble_eq_true rfl) (Nat.le_of_ble_eq_true rfl) (by decide +kernel) lk_X_34 vv_X_refuseWhenDown, List.forall_mem_cons.mpr ⟨okV 0 (by decide) s_X_refuseUnlessUsed rfl (Nat.le_of_ble_eq_true rfl) (Nat.le_of_ble_eq_true rfl) (by decide +kernel) lk_X_69 vv_X_refuseUnlessUsed, List.forall_mem_cons.mpr ⟨okV 0 (by decide) s_X_refuseUnlessWord rfl (Nat.le_of_ble_eq_true rfl) (Nat.le_of_ble_eq_true rfl) (by decide +kernel) lk_X_79 vv_X_refuseUnlessWord, List.forall_mem_cons.mpr ⟨okV 1 (by decide) s_D_word rfl (Nat.le_of_ble_eq_true rfl) (Nat.le_of_ble_eq_true rfl) (by decide +kernel) lk_X_90 vv_D_word, (fun _ h => absurd h List.not_mem_nil)⟩⟩⟩⟩⟩
theorem si_X_load : ∀ q ∈ m_tr mi_X_load, SiteF mi_X_load q := (fun _ h => absurd h List.not_mem_nil)
theorem c_X_load_down (a i : Int32) (σ : Mem) (h : σ 1 4 = 1) : MetO y_X_load mi_X_load [.inr (.inl 0), .inl a, .inl i] σ (.inr (eIS, σ)) := by
  refine met_go ok_X_load ⟨rfl, rfl⟩ si_X_load (Nat.le_of_ble_eq_true rfl) ⟨trivial, trivial, trivial, trivial⟩ [] 60 (fun X hX K R1 T1 hK hR hT => ?_)
  conv => whnf
  refine ⟨Or.inr h, fun _ => ?_, fun h1 => absurd (h.symm.trans h1) (by decide)⟩
  exact hT _ _ _ rfl
theorem c_X_load_no (a i : Int32) (σ : Mem) (h : σ 1 4 = 0) {N : Nat} {ln kd : Nat → Nat} (hp : HP (σ 2) N ln kd) (q : ¬ Us N ln kd a) : MetO y_X_load mi_X_load [.inr (.inl 0), .inl a, .inl i] σ (.inr (eNE, lsF σ ln N)) := by
  refine met_go ok_X_load ⟨rfl, rfl⟩ si_X_load (Nat.le_of_ble_eq_true rfl) ⟨trivial, trivial, trivial, trivial⟩ [] 60 (fun X hX K R1 T1 hK hR hT => ?_)
  conv => whnf
  refine ⟨Or.inl h, fun h1 => absurd (h.symm.trans h1) (by decide), fun _ => ?_⟩
  conv => whnf
  refine ⟨N, ln, kd, hp, fun _ => ?_, fun h1 => absurd h1 q⟩
  exact hT _ _ _ rfl
theorem c_X_load_word (i : Int32) (σ : Mem) (h : σ 1 4 = 0) {N : Nat} {ln kd : Nat → Nat} (hp : HP (σ 2) N ln kd) {e : Nat} (he : e < N) (hk : kd e ≠ 0) (q : ¬ wd_ok i (ln e)) : MetO y_X_load mi_X_load [.inr (.inl 0), .inl (nI (pos ln e + 1)), .inl i] σ (.inr (eIO, lsF σ ln N)) := by
  have g3 := hp.ln3 he
  refine met_go ok_X_load ⟨rfl, rfl⟩ si_X_load (Nat.le_of_ble_eq_true rfl) ⟨trivial, trivial, trivial, trivial⟩ [] 60 (fun X hX K R1 T1 hK hR hT => ?_)
  conv => whnf
  refine ⟨Or.inl h, fun h1 => absurd (h.symm.trans h1) (by decide), fun _ => ?_⟩
  conv => whnf
  refine ⟨N, ln, kd, hp, fun h1 => absurd ⟨e, he, hk, rfl⟩ h1, fun _ => ?_⟩
  conv => whnf
  refine ⟨pos ln e, ln e, kd e, i, rfl, tg_of (w := σ 2) hp he, by omega, fun _ => ?_, fun h1 => absurd h1 q⟩
  exact hT _ _ _ rfl
theorem wd_nat {i : Int32} {n : Nat} (h : wd_ok i n) (hn : n < 1000) : ∃ j, j < n - 2 ∧ i = nI j := by
  obtain ⟨j, hj, e⟩ := nI_of h.1
  refine ⟨j, ?_, e⟩
  have := h.2
  rw [e] at this
  exact (nI_ltI hj (by omega)).mp this
theorem wd_okN {j n : Nat} (h : j < n - 2) (hn : n < 1000) : wd_ok (nI j) n := ⟨nI_pos (by omega), nI_lt h (by omega)⟩
theorem c_X_load_ok (j : Nat) (σ : Mem) (h : σ 1 4 = 0) {N : Nat} {ln kd : Nat → Nat} (hp : HP (σ 2) N ln kd) {e : Nat} (he : e < N) (hk : kd e ≠ 0) (q : j < ln e - 2) : MetO y_X_load mi_X_load [.inr (.inl 0), .inl (nI (pos ln e + 1)), .inl (nI j)] σ (.inl (some (.inl (σ 2 (pos ln e + 1 + j))), lsF σ ln N)) := by
  have g3 := hp.ln3 he
  have g := hp.lt he
  have g4 := hp.end he
  have e1 : nI (pos ln e + 1) + nI j = nI (pos ln e + 1 + j) := nI_add _ _
  refine met_go ok_X_load ⟨rfl, rfl⟩ si_X_load (Nat.le_of_ble_eq_true rfl) ⟨trivial, trivial, trivial, trivial⟩ [] 60 (fun X hX K R1 T1 hK hR hT => ?_)
  conv => whnf
  refine ⟨Or.inl h, fun h1 => absurd (h.symm.trans h1) (by decide), fun _ => ?_⟩
  conv => whnf
  refine ⟨N, ln, kd, hp, fun h1 => absurd ⟨e, he, hk, rfl⟩ h1, fun _ => ?_⟩
  conv => whnf
  refine ⟨pos ln e, ln e, kd e, nI j, rfl, tg_of (w := σ 2) hp he, by omega, fun h1 => absurd (wd_okN q (by omega)) h1, fun _ => ?_⟩
  conv => whnf
  rw [e1]
  refine ⟨vp_in_nI (by omega) (by decide), ?_⟩
  rw [nI_clamp (by omega)]
  conv => whnf
  exact hR _ _ rfl
def mi_X_size : MI := (b_X_size, 3, "RootedWords", some .int, 5, tbl_of 31 f_X_size, fl_X, [(34, (0, 0, ct_X_refuseWhenDown)), (69, (0, 1, ct_X_refuseUnlessUsed)), (82, (0, 1, ct_X_pointersAt)), (96, (0, 1, ct_X_contentAt))], [])
theorem ok_X_size : MOK mi_X_size := ⟨tbl_ok k_X_size, flok_X rfl, List.forall_mem_cons.mpr ⟨okV 0 (by decide) s_X_refuseWhenDown rfl (Nat.le_of_ble_eq_true rfl) (Nat.le_of_ble_eq_true rfl) (by decide +kernel) lk_X_34 vv_X_refuseWhenDown, List.forall_mem_cons.mpr ⟨okV 0 (by decide) s_X_refuseUnlessUsed rfl (Nat.le_of_ble_eq_true rfl) (Nat.le_of_ble_eq_true rfl) (by decide +kernel) lk_X_69 vv_X_refuseUnlessUsed, List.forall_mem_cons.mpr ⟨okV 0 (by decide) s_X_pointersAt rfl (Nat.le_of_ble_eq_true rfl) (Nat.le_of_ble_eq_true rfl) (by decide +kernel) lk_X_82 vv_X_pointersAt, List.forall_mem_cons.mpr ⟨okV 0 (by decide) s_X_contentAt rfl (Nat.le_of_ble_eq_true rfl) (Nat.le_of_ble_eq_true rfl) (by decide +kernel) lk_X_96 vv_X_contentAt, (fun _ h => absurd h List.not_mem_nil)⟩⟩⟩⟩⟩
theorem si_X_size : ∀ q ∈ m_tr mi_X_size, SiteF mi_X_size q := (fun _ h => absurd h List.not_mem_nil)
theorem c_X_size_down (a x : Int32) (σ : Mem) (h : σ 1 4 = 1) : MetO y_X_size mi_X_size [.inr (.inl 0), .inl a, .inl x] σ (.inr (eIS, σ)) := by
  refine met_go ok_X_size ⟨rfl, rfl⟩ si_X_size (Nat.le_of_ble_eq_true rfl) ⟨trivial, trivial, trivial, trivial⟩ [] 60 (fun X hX K R1 T1 hK hR hT => ?_)
  conv => whnf
  refine ⟨Or.inr h, fun _ => ?_, fun h1 => absurd (h.symm.trans h1) (by decide)⟩
  exact hT _ _ _ rfl
theorem c_X_size_no (a x : Int32) (σ : Mem) (h : σ 1 4 = 0) {N : Nat} {ln kd : Nat → Nat} (hp : HP (σ 2) N ln kd) (q : ¬ Us N ln kd a) : MetO y_X_size mi_X_size [.inr (.inl 0), .inl a, .inl x] σ (.inr (eNE, lsF σ ln N)) := by
  refine met_go ok_X_size ⟨rfl, rfl⟩ si_X_size (Nat.le_of_ble_eq_true rfl) ⟨trivial, trivial, trivial, trivial⟩ [] 60 (fun X hX K R1 T1 hK hR hT => ?_)
  conv => whnf
  refine ⟨Or.inl h, fun h1 => absurd (h.symm.trans h1) (by decide), fun _ => ?_⟩
  conv => whnf
  refine ⟨N, ln, kd, hp, fun _ => ?_, fun h1 => absurd h1 q⟩
  exact hT _ _ _ rfl
theorem c_X_size_ok (x : Int32) (σ : Mem) (h : σ 1 4 = 0) {N : Nat} {ln kd : Nat → Nat} (hp : HP (σ 2) N ln kd) {e : Nat} (he : e < N) (hk : kd e ≠ 0) (v : Int32) (hv : (x = 0 → v = nI (ln e - 2)) ∧ (x ≠ 0 → v = nI (kd e - 1))) : MetO y_X_size mi_X_size [.inr (.inl 0), .inl (nI (pos ln e + 1)), .inl x] σ (.inl (some (.inl v), lsF σ ln N)) := by
  have g3 := hp.ln3 he
  have g := hp.lt he
  refine met_go ok_X_size ⟨rfl, rfl⟩ si_X_size (Nat.le_of_ble_eq_true rfl) ⟨trivial, trivial, trivial, trivial⟩ [] 60 (fun X hX K R1 T1 hK hR hT => ?_)
  conv => whnf
  refine ⟨Or.inl h, fun h1 => absurd (h.symm.trans h1) (by decide), fun _ => ?_⟩
  conv => whnf
  refine ⟨N, ln, kd, hp, fun h1 => absurd ⟨e, he, hk, rfl⟩ h1, fun _ => ?_⟩
  conv => whnf
  refine ⟨fun h1 => ?_, fun h1 => ?_⟩
  · conv => whnf
    refine ⟨pos ln e, ln e, kd e, congrArg (fun x => [(.inl x : AV)]) (nI_pred _), tg_of (w := σ 2) hp he, by omega, ?_⟩
    conv => whnf
    exact hR _ _ (by rw [hv.2 h1])
  · conv => whnf
    refine ⟨pos ln e, ln e, kd e, congrArg (fun x => [(.inl x : AV)]) (nI_pred _), tg_of (w := σ 2) hp he, by omega, ?_⟩
    conv => whnf
    exact hR _ _ (by rw [hv.1 h1])
def mi_X_store : MI := (b_X_store, 5, "RootedWords", some .int, 5, tbl_of 71 f_X_store, fl_X, [(34, (0, 0, ct_X_refuseWhenDown)), (69, (0, 1, ct_X_refuseUnlessUsed)), (79, (0, 2, ct_X_refuseUnlessWord)), (82, (0, 1, ct_X_pointersAt)), (85, (0, 1, ct_X_isUsedAddress)), (90, (1, 1, ct_D_word)), (93, (0, 2, ct_X_changeWord))], [(38, "java/lang/IllegalArgumentException")])
theorem ok_X_store : MOK mi_X_store := ⟨tbl_ok k_X_store, flok_X rfl, List.forall_mem_cons.mpr ⟨okV 0 (by decide) s_X_refuseWhenDown rfl (Nat.le_of_ble_eq_true rfl) (Nat.le_of_ble_eq_true rfl) (by decide +kernel) lk_X_34 vv_X_refuseWhenDown, List.forall_mem_cons.mpr ⟨okV 0 (by decide) s_X_refuseUnlessUsed rfl (Nat.le_of_ble_eq_true rfl) (Nat.le_of_ble_eq_true rfl) (by decide +kernel) lk_X_69 vv_X_refuseUnlessUsed, List.forall_mem_cons.mpr ⟨okV 0 (by decide) s_X_refuseUnlessWord rfl (Nat.le_of_ble_eq_true rfl) (Nat.le_of_ble_eq_true rfl) (by decide +kernel) lk_X_79 vv_X_refuseUnlessWord, List.forall_mem_cons.mpr ⟨okV 0 (by decide) s_X_pointersAt rfl (Nat.le_of_ble_eq_true rfl) (Nat.le_of_ble_eq_true rfl) (by decide +kernel) lk_X_82 vv_X_pointersAt, List.forall_mem_cons.mpr ⟨okV 0 (by decide) s_X_isUsedAddress rfl (Nat.le_of_ble_eq_true rfl) (Nat.le_of_ble_eq_true rfl) (by decide +kernel) lk_X_85 vv_X_isUsedAddress, List.forall_mem_cons.mpr ⟨okV 1 (by decide) s_D_word rfl (Nat.le_of_ble_eq_true rfl) (Nat.le_of_ble_eq_true rfl) (by decide +kernel) lk_X_90 vv_D_word, List.forall_mem_cons.mpr ⟨okV 0 (by decide) s_X_changeWord rfl (Nat.le_of_ble_eq_true rfl) (Nat.le_of_ble_eq_true rfl) (by decide +kernel) lk_X_93 vv_X_changeWord, (fun _ h => absurd h List.not_mem_nil)⟩⟩⟩⟩⟩⟩⟩⟩
theorem si_X_store : ∀ q ∈ m_tr mi_X_store, SiteF mi_X_store q := List.forall_mem_cons.mpr ⟨⟨37, 88, 41, "a pointer is 0 or a used address", ⟨by decide +kernel, by decide +kernel, by decide +kernel, by decide +kernel, by decide +kernel⟩, by decide +kernel, Or.inl th_X_37⟩, (fun _ h => absurd h List.not_mem_nil)⟩
theorem c_X_store_down (a i w : Int32) (σ : Mem) (h : σ 1 4 = 1) : MetO y_X_store mi_X_store [.inr (.inl 0), .inl a, .inl i, .inl w] σ (.inr (eIS, σ)) := by
  refine met_go ok_X_store ⟨rfl, rfl⟩ si_X_store (Nat.le_of_ble_eq_true rfl) ⟨trivial, trivial, trivial, trivial, trivial⟩ [] 60 (fun X hX K R1 T1 hK hR hT => ?_)
  conv => whnf
  refine ⟨Or.inr h, fun _ => ?_, fun h1 => absurd (h.symm.trans h1) (by decide)⟩
  exact hT _ _ _ rfl
theorem c_X_store_no (a i w : Int32) (σ : Mem) (h : σ 1 4 = 0) {N : Nat} {ln kd : Nat → Nat} (hp : HP (σ 2) N ln kd) (q : ¬ Us N ln kd a) : MetO y_X_store mi_X_store [.inr (.inl 0), .inl a, .inl i, .inl w] σ (.inr (eNE, lsF σ ln N)) := by
  refine met_go ok_X_store ⟨rfl, rfl⟩ si_X_store (Nat.le_of_ble_eq_true rfl) ⟨trivial, trivial, trivial, trivial, trivial⟩ [] 60 (fun X hX K R1 T1 hK hR hT => ?_)
  conv => whnf
  refine ⟨Or.inl h, fun h1 => absurd (h.symm.trans h1) (by decide), fun _ => ?_⟩
  conv => whnf
  refine ⟨N, ln, kd, hp, fun _ => ?_, fun h1 => absurd h1 q⟩
  exact hT _ _ _ rfl
theorem c_X_store_word (i w : Int32) (σ : Mem) (h : σ 1 4 = 0) {N : Nat} {ln kd : Nat → Nat} (hp : HP (σ 2) N ln kd) {e : Nat} (he : e < N) (hk : kd e ≠ 0) (q : ¬ wd_ok i (ln e)) : MetO y_X_store mi_X_store [.inr (.inl 0), .inl (nI (pos ln e + 1)), .inl i, .inl w] σ (.inr (eIO, lsF σ ln N)) := by
  have g3 := hp.ln3 he
  refine met_go ok_X_store ⟨rfl, rfl⟩ si_X_store (Nat.le_of_ble_eq_true rfl) ⟨trivial, trivial, trivial, trivial, trivial⟩ [] 60 (fun X hX K R1 T1 hK hR hT => ?_)
  conv => whnf
  refine ⟨Or.inl h, fun h1 => absurd (h.symm.trans h1) (by decide), fun _ => ?_⟩
  conv => whnf
  refine ⟨N, ln, kd, hp, fun h1 => absurd ⟨e, he, hk, rfl⟩ h1, fun _ => ?_⟩
  conv => whnf
  refine ⟨pos ln e, ln e, kd e, i, rfl, tg_of (w := σ 2) hp he, by omega, fun _ => ?_, fun h1 => absurd h1 q⟩
  exact hT _ _ _ rfl
theorem c_X_store_ptr (j : Nat) (w : Int32) (σ : Mem) (h : σ 1 4 = 0) {N : Nat} {ln kd : Nat → Nat} (hp : HP (σ 2) N ln kd) {e : Nat} (he : e < N) (hk : kd e ≠ 0) (q : j < ln e - 2) (b : j + 1 < kd e ∧ w ≠ 0 ∧ ¬ Us N ln kd w) : MetO y_X_store mi_X_store [.inr (.inl 0), .inl (nI (pos ln e + 1)), .inl (nI j), .inl w] σ (.inr (eIA, lsF σ ln N)) := by
  have g3 := hp.ln3 he
  have g := hp.lt he
  refine met_go ok_X_store ⟨rfl, rfl⟩ si_X_store (Nat.le_of_ble_eq_true rfl) ⟨trivial, trivial, trivial, trivial, trivial⟩ [] 60 (fun X hX K R1 T1 hK hR hT => ?_)
  conv => whnf
  refine ⟨Or.inl h, fun h1 => absurd (h.symm.trans h1) (by decide), fun _ => ?_⟩
  conv => whnf
  refine ⟨N, ln, kd, hp, fun h1 => absurd ⟨e, he, hk, rfl⟩ h1, fun _ => ?_⟩
  conv => whnf
  refine ⟨pos ln e, ln e, kd e, nI j, rfl, tg_of (w := σ 2) hp he, by omega, fun h1 => absurd (wd_okN q (by omega)) h1, fun _ => ?_⟩
  conv => whnf
  refine ⟨pos ln e, ln e, kd e, congrArg (fun x => [(.inl x : AV)]) (nI_pred _), tg_of (w := σ 2) hp he, by omega, ?_⟩
  conv => whnf
  refine ⟨fun h1 => absurd h1 (nI_ge (by omega) (by omega)), fun _ => ?_⟩
  conv => whnf
  refine ⟨fun h1 => absurd h1 b.2.1, fun _ => ?_⟩
  conv => whnf
  refine ⟨N, ln, kd, hp, fun h1 => absurd h1 b.2.2, fun _ => ?_⟩
  conv => whnf
  refine ⟨fun h1 => absurd rfl h1, fun _ => ?_⟩
  conv => whnf
  refine hT _ _ _ ?_
  rw [lsF_lsF]; rfl
theorem c_X_store_end {X : CT} {oc : OC} (hX : CxO X mi_X_store oc) (j p : Nat) (w : Int32) (σ : Mem) (hpl : p + j < 265) (ho : oc = wou (pwF σ (p + j) w) (chgL (pwF σ (p + j) w 3) 1) (some (.inl (σ 2 (p + j))))) : Go X mi_X_store 48 [some (.inr (.inl 0)), some (.inl (nI p)), some (.inl (nI j)), some (.inl w), none] [] σ := by
  have e1 : nI p + nI j = nI (p + j) := nI_add _ _
  refine Go_run ok_X_store hX [] 60 (fun K R1 T1 hK hR hT => ?_)
  conv => whnf
  rw [e1]
  refine ⟨vp_in_nI (by omega) (by decide), ?_⟩
  rw [nI_clamp (by omega)]
  conv => whnf
  rw [e1]
  refine ⟨p + j, w, rfl, hpl, fun σ' h2 => ?_, fun σ' h2 => ?_⟩
  · conv => whnf
    refine hR _ _ ?_
    rw [ho]
    unfold wou
    rw [h2]; rfl
  · refine hT _ _ _ ?_
    rw [ho]
    unfold wou
    rw [h2]; rfl
theorem c_X_store_ok (j : Nat) (w : Int32) (σ : Mem) (h : σ 1 4 = 0) {N : Nat} {ln kd : Nat → Nat} (hp : HP (σ 2) N ln kd) {e : Nat} (he : e < N) (hk : kd e ≠ 0) (q : j < ln e - 2) (b : ¬ (j + 1 < kd e ∧ w ≠ 0 ∧ ¬ Us N ln kd w)) : MetO y_X_store mi_X_store [.inr (.inl 0), .inl (nI (pos ln e + 1)), .inl (nI j), .inl w] σ (wou (pwF (lsF σ ln N) (pos ln e + 1 + j) w) (chgL (pwF (lsF σ ln N) (pos ln e + 1 + j) w 3) 1) (some (.inl (σ 2 (pos ln e + 1 + j))))) := by
  have g3 := hp.ln3 he
  have g := hp.lt he
  have g4 := hp.end he
  refine met_go ok_X_store ⟨rfl, rfl⟩ si_X_store (Nat.le_of_ble_eq_true rfl) ⟨trivial, trivial, trivial, trivial, trivial⟩ [48] 60 (fun X hX K R1 T1 hK hR hT => ?_)
  have hend := c_X_store_end hX j (pos ln e + 1) w (lsF σ ln N) (by omega) rfl
  conv => whnf
  refine ⟨Or.inl h, fun h1 => absurd (h.symm.trans h1) (by decide), fun _ => ?_⟩
  conv => whnf
  refine ⟨N, ln, kd, hp, fun h1 => absurd ⟨e, he, hk, rfl⟩ h1, fun _ => ?_⟩
  conv => whnf
  refine ⟨pos ln e, ln e, kd e, nI j, rfl, tg_of (w := σ 2) hp he, by omega, fun h1 => absurd (wd_okN q (by omega)) h1, fun _ => ?_⟩
  conv => whnf
  refine ⟨pos ln e, ln e, kd e, congrArg (fun x => [(.inl x : AV)]) (nI_pred _), tg_of (w := σ 2) hp he, by omega, ?_⟩
  conv => whnf
  refine ⟨fun h1 => ?_, fun h1 => ?_⟩
  · conv => whnf
    exact hK _ _ _ _ hend
  conv => whnf
  refine ⟨fun h2 => ?_, fun h2 => ?_⟩
  · conv => whnf
    exact hK _ _ _ _ hend
  conv => whnf
  refine ⟨N, ln, kd, hp, fun h3 => ?_, fun h3 => ?_⟩
  · conv => whnf
    refine ⟨fun _ => ?_, fun h4 => absurd h4 (by decide)⟩
    conv => whnf
    refine hK _ _ _ _ ?_
    rw [lsF_lsF]; exact hend
  · have := (not_congr (nI_leI (a := kd e - 1) (b := j) (by omega) (by omega))).mp h1
    exact absurd ⟨by omega, h2, h3⟩ b
def mi_X_setRoot : MI := (b_X_setRoot, 4, "RootedWords", some .int, 5, tbl_of 36 f_X_setRoot, fl_X, [(34, (0, 0, ct_X_refuseWhenDown)), (69, (0, 1, ct_X_refuseUnlessUsed)), (93, (0, 2, ct_X_changeWord)), (99, (0, 1, ct_X_refuseUnlessRoot)), (102, (0, 1, ct_X_usedRoot))], [])
theorem ok_X_setRoot : MOK mi_X_setRoot := ⟨tbl_ok k_X_setRoot, flok_X rfl, List.forall_mem_cons.mpr ⟨okV 0 (by decide) s_X_refuseWhenDown rfl (Nat.le_of_ble_eq_true rfl) (Nat.le_of_ble_eq_true rfl) (by decide +kernel) lk_X_34 vv_X_refuseWhenDown, List.forall_mem_cons.mpr ⟨okV 0 (by decide) s_X_refuseUnlessUsed rfl (Nat.le_of_ble_eq_true rfl) (Nat.le_of_ble_eq_true rfl) (by decide +kernel) lk_X_69 vv_X_refuseUnlessUsed, List.forall_mem_cons.mpr ⟨okV 0 (by decide) s_X_changeWord rfl (Nat.le_of_ble_eq_true rfl) (Nat.le_of_ble_eq_true rfl) (by decide +kernel) lk_X_93 vv_X_changeWord, List.forall_mem_cons.mpr ⟨okV 0 (by decide) s_X_refuseUnlessRoot rfl (Nat.le_of_ble_eq_true rfl) (Nat.le_of_ble_eq_true rfl) (by decide +kernel) lk_X_99 vv_X_refuseUnlessRoot, List.forall_mem_cons.mpr ⟨okV 0 (by decide) s_X_usedRoot rfl (Nat.le_of_ble_eq_true rfl) (Nat.le_of_ble_eq_true rfl) (by decide +kernel) lk_X_102 vv_X_usedRoot, (fun _ h => absurd h List.not_mem_nil)⟩⟩⟩⟩⟩⟩
theorem si_X_setRoot : ∀ q ∈ m_tr mi_X_setRoot, SiteF mi_X_setRoot q := (fun _ h => absurd h List.not_mem_nil)
theorem c_X_setRoot_down (r w : Int32) (σ : Mem) (h : σ 1 4 = 1) : MetO y_X_setRoot mi_X_setRoot [.inr (.inl 0), .inl r, .inl w] σ (.inr (eIS, σ)) := by
  refine met_go ok_X_setRoot ⟨rfl, rfl⟩ si_X_setRoot (Nat.le_of_ble_eq_true rfl) ⟨trivial, trivial, trivial, trivial⟩ [] 60 (fun X hX K R1 T1 hK hR hT => ?_)
  conv => whnf
  refine ⟨Or.inr h, fun _ => ?_, fun h1 => absurd (h.symm.trans h1) (by decide)⟩
  exact hT _ _ _ rfl
theorem c_X_setRoot_no (r w : Int32) (σ : Mem) (h : σ 1 4 = 0) (hr : ¬ rt_ok r) : MetO y_X_setRoot mi_X_setRoot [.inr (.inl 0), .inl r, .inl w] σ (.inr (eIO, σ)) := by
  refine met_go ok_X_setRoot ⟨rfl, rfl⟩ si_X_setRoot (Nat.le_of_ble_eq_true rfl) ⟨trivial, trivial, trivial, trivial⟩ [] 60 (fun X hX K R1 T1 hK hR hT => ?_)
  conv => whnf
  refine ⟨Or.inl h, fun h1 => absurd (h.symm.trans h1) (by decide), fun _ => ?_⟩
  conv => whnf
  refine ⟨fun _ => ?_, fun h1 => absurd h1 hr⟩
  exact hT _ _ _ rfl
theorem c_X_setRoot_bad (j : Nat) (hj : j < 8) (w : Int32) (σ : Mem) (h : σ 1 4 = 0) {N : Nat} {ln kd : Nat → Nat} (hp : HP (σ 2) N ln kd) (hw : w ≠ 0) (q : ¬ Us N ln kd w) : MetO y_X_setRoot mi_X_setRoot [.inr (.inl 0), .inl (nI j), .inl w] σ (.inr (eNE, lsF σ ln N)) := by
  refine met_go ok_X_setRoot ⟨rfl, rfl⟩ si_X_setRoot (Nat.le_of_ble_eq_true rfl) ⟨trivial, trivial, trivial, trivial⟩ [] 60 (fun X hX K R1 T1 hK hR hT => ?_)
  conv => whnf
  refine ⟨Or.inl h, fun h1 => absurd (h.symm.trans h1) (by decide), fun _ => ?_⟩
  conv => whnf
  refine ⟨fun h1 => absurd (rt_okN hj) h1, fun _ => ?_⟩
  conv => whnf
  refine ⟨fun h1 => absurd h1 hw, fun _ => ?_⟩
  conv => whnf
  refine ⟨N, ln, kd, hp, fun _ => ?_, fun h1 => absurd h1 q⟩
  exact hT _ _ _ rfl
theorem c_X_setRoot_end {X : CT} {oc : OC} (hX : CxO X mi_X_setRoot oc) (j : Nat) (hj : j < 8) (w v : Int32) (σ : Mem) {N : Nat} {ln kd : Nat → Nat} (hp : HP (σ 2) N ln kd) (hv : (Us N ln kd (σ 2 (257 + j)) → v = σ 2 (257 + j)) ∧ (¬ Us N ln kd (σ 2 (257 + j)) → v = 0))
    (ho : oc = wou (pwF (lsF σ ln N) (257 + j) w) (chgL (pwF (lsF σ ln N) (257 + j) w 3) 1) (some (.inl v))) : Go X mi_X_setRoot 18 [some (.inr (.inl 0)), some (.inl (nI j)), some (.inl w), none] [] σ := by
  have e1 : nI 257 + nI j = nI (257 + j) := nI_add _ _
  have key : ∀ (K : Nat → List (Option AV) → List AV → Mem → Prop) (R1 : Option AV → Mem → Prop) (T1 : Nat → String → Mem → Prop), (∀ r σ, RtO oc r σ → R1 r σ) → (∀ pc E σ, ThO oc pc E σ → T1 pc E σ) → wpn mi_X_setRoot [] 50 23 [some (.inr (.inl 0)), some (.inl (nI j)), some (.inl w), none] [.inl v] (lsF σ ln N) K R1 T1 := by
    intro K R1 T1 hR hT
    conv => whnf
    rw [e1]
    refine ⟨257 + j, w, rfl, by omega, fun σ' h2 => ?_, fun σ' h2 => ?_⟩
    · conv => whnf
      refine hR _ _ ?_
      rw [ho]
      unfold wou
      rw [h2]; rfl
    · refine hT _ _ _ ?_
      rw [ho]
      unfold wou
      rw [h2]; rfl
  refine Go_run ok_X_setRoot hX [] 53 (fun K R1 T1 hK hR hT => ?_)
  conv => whnf
  refine ⟨j, N, ln, kd, rfl, hj, hp, fun q => ?_, fun q => ?_⟩
  · rw [← hv.1 q]
    exact key K R1 T1 hR hT
  · rw [hv.2 q] at key
    exact key K R1 T1 hR hT
theorem c_X_setRoot_ok (j : Nat) (hj : j < 8) (w v : Int32) (σ : Mem) (h : σ 1 4 = 0) {N : Nat} {ln kd : Nat → Nat} (hp : HP (σ 2) N ln kd) (hw : w = 0 ∨ Us N ln kd w) (hv : (Us N ln kd (σ 2 (257 + j)) → v = σ 2 (257 + j)) ∧ (¬ Us N ln kd (σ 2 (257 + j)) → v = 0)) :
    MetO y_X_setRoot mi_X_setRoot [.inr (.inl 0), .inl (nI j), .inl w] σ (wou (pwF (lsF σ ln N) (257 + j) w) (chgL (pwF (lsF σ ln N) (257 + j) w 3) 1) (some (.inl v))) := by
  refine met_go ok_X_setRoot ⟨rfl, rfl⟩ si_X_setRoot (Nat.le_of_ble_eq_true rfl) ⟨trivial, trivial, trivial, trivial⟩ [18] 60 (fun X hX K R1 T1 hK hR hT => ?_)
  conv => whnf
  refine ⟨Or.inl h, fun h1 => absurd (h.symm.trans h1) (by decide), fun _ => ?_⟩
  conv => whnf
  refine ⟨fun h1 => absurd (rt_okN hj) h1, fun _ => ?_⟩
  conv => whnf
  refine ⟨fun h1 => ?_, fun h1 => ?_⟩
  · conv => whnf
    exact hK _ _ _ _ (c_X_setRoot_end hX j hj w v σ hp hv rfl)
  · conv => whnf
    refine ⟨N, ln, kd, hp, fun h2 => absurd (hw.resolve_left h1) h2, fun _ => ?_⟩
    conv => whnf
    exact hK _ _ _ _ (c_X_setRoot_end hX j hj w v (lsF σ ln N) hp hv (by rw [lsF_lsF]))
end
section
/-! ===== give, take, recover ===== -/
def mi_X_give : MI := (b_X_give, 4, "RootedWords", some .int, 5, tbl_of 81 f_X_give, fl_X, [(34, (0, 0, ct_X_refuseWhenDown)), (55, (0, 1, ct_X_lengthAt)), (69, (0, 1, ct_X_refuseUnlessUsed)), (72, (0, 1, ct_X_isFreeAt)), (76, (0, 2, ct_X_makeFree))], [])
theorem ok_X_give : MOK mi_X_give := ⟨tbl_ok k_X_give, flok_X rfl, List.forall_mem_cons.mpr ⟨okV 0 (by decide) s_X_refuseWhenDown rfl (Nat.le_of_ble_eq_true rfl) (Nat.le_of_ble_eq_true rfl) (by decide +kernel) lk_X_34 vv_X_refuseWhenDown, List.forall_mem_cons.mpr ⟨okV 0 (by decide) s_X_lengthAt rfl (Nat.le_of_ble_eq_true rfl) (Nat.le_of_ble_eq_true rfl) (by decide +kernel) lk_X_55 vv_X_lengthAt, List.forall_mem_cons.mpr ⟨okV 0 (by decide) s_X_refuseUnlessUsed rfl (Nat.le_of_ble_eq_true rfl) (Nat.le_of_ble_eq_true rfl) (by decide +kernel) lk_X_69 vv_X_refuseUnlessUsed, List.forall_mem_cons.mpr ⟨okV 0 (by decide) s_X_isFreeAt rfl (Nat.le_of_ble_eq_true rfl) (Nat.le_of_ble_eq_true rfl) (by decide +kernel) lk_X_72 vv_X_isFreeAt, List.forall_mem_cons.mpr ⟨okV 0 (by decide) s_X_makeFree rfl (Nat.le_of_ble_eq_true rfl) (Nat.le_of_ble_eq_true rfl) (by decide +kernel) lk_X_76 vv_X_makeFree, (fun _ h => absurd h List.not_mem_nil)⟩⟩⟩⟩⟩⟩
theorem si_X_give : ∀ q ∈ m_tr mi_X_give, SiteF mi_X_give q := (fun _ h => absurd h List.not_mem_nil)
theorem c_X_give_down (a : Int32) (σ : Mem) (h : σ 1 4 = 1) : MetO y_X_give mi_X_give [.inr (.inl 0), .inl a] σ (.inr (eIS, σ)) := by
  refine met_go ok_X_give ⟨rfl, rfl⟩ si_X_give (Nat.le_of_ble_eq_true rfl) ⟨trivial, trivial, trivial⟩ [] 60 (fun X hX K R1 T1 hK hR hT => ?_)
  conv => whnf
  refine ⟨Or.inr h, fun _ => ?_, fun h1 => absurd (h.symm.trans h1) (by decide)⟩
  exact hT _ _ _ rfl
theorem c_X_give_no (a : Int32) (σ : Mem) (h : σ 1 4 = 0) {N : Nat} {ln kd : Nat → Nat} (hp : HP (σ 2) N ln kd) (q : ¬ Us N ln kd a) : MetO y_X_give mi_X_give [.inr (.inl 0), .inl a] σ (.inr (eNE, lsF σ ln N)) := by
  refine met_go ok_X_give ⟨rfl, rfl⟩ si_X_give (Nat.le_of_ble_eq_true rfl) ⟨trivial, trivial, trivial⟩ [] 60 (fun X hX K R1 T1 hK hR hT => ?_)
  conv => whnf
  refine ⟨Or.inl h, fun h1 => absurd (h.symm.trans h1) (by decide), fun _ => ?_⟩
  conv => whnf
  refine ⟨N, ln, kd, hp, fun _ => ?_, fun h1 => absurd h1 q⟩
  exact hT _ _ _ rfl
/-- the first and the last extent that give joins -/
def gv0 (kd : Nat → Nat) (e : Nat) : Nat := if 0 < e ∧ kd (e - 1) = 0 then e - 1 else e
def gv1 (N : Nat) (kd : Nat → Nat) (e : Nat) : Nat := if e + 1 < N ∧ kd (e + 1) = 0 then e + 1 else e
def mfO (σ : Mem) (f n : Nat) (r : Option AV) : OC := wou (peF σ 0 f n 0) (chgL (peF σ 0 f n 0 3) 2) r
theorem c_X_give_e {X : CT} {oc : OC} (hX : CxO X mi_X_give oc) (a : Int32) (f b : Nat) (σ : Mem) (hb : b ≤ 257) (hfb : f < b) (ho : oc = mfO σ f (b - f) (some (.inl (nI (f + 1))))) : Go X mi_X_give 69 [some (.inr (.inl 0)), some (.inl a), some (.inl (nI f)), some (.inl (nI b))] [] σ := by
  have e1 : nI b - nI f = nI (b - f) := pk_sub (by omega)
  have e2 : nI f + nI 1 = nI (f + 1) := nI_add _ _
  refine Go_run ok_X_give hX [] 60 (fun K R1 T1 hK hR hT => ?_)
  conv => whnf
  rw [e1]
  refine ⟨f, b - f, rfl, by omega, by omega, fun σ' h2 => ?_, fun σ' h2 => ?_⟩
  · conv => whnf
    refine hR _ _ ?_
    rw [ho, e2]
    unfold mfO wou
    rw [h2]; rfl
  · refine hT _ _ _ ?_
    rw [ho]
    unfold mfO wou
    rw [h2]; rfl
theorem pos_prev {ln : Nat → Nat} {e : Nat} (h : 0 < e) : pos ln e = pos ln (e - 1) + ln (e - 1) := by
  obtain ⟨d, rfl⟩ : ∃ d, e = d + 1 := ⟨e - 1, by omega⟩
  rfl
theorem c_X_give_44 {X : CT} {oc : OC} (hX : CxO X mi_X_give oc) (a : Int32) (b e : Nat) (σ : Mem) {N : Nat} {ln kd : Nat → Nat} (hp : HP (σ 2) N ln kd) (he : e < N) (hb : b ≤ 257) (hfb : pos ln e < b) (ho : oc = mfO σ (pos ln (gv0 kd e)) (b - pos ln (gv0 kd e)) (some (.inl (nI (pos ln (gv0 kd e) + 1))))) :
    Go X mi_X_give 44 [some (.inr (.inl 0)), some (.inl a), some (.inl (nI (pos ln e))), some (.inl (nI b))] [] σ := by
  have g := hp.lt he
  have e1 : nI (pos ln e) - nI 1 = nI (pos ln e - 1) := pk_sub (by omega)
  refine Go_run ok_X_give hX [69] 60 (fun K R1 T1 hK hR hT => ?_)
  conv => whnf
  refine ⟨fun h1 => ?_, fun h1 => ?_⟩
  · conv => whnf
    have h2 := (nI_leI (a := pos ln e) (b := 1) (by omega) (by decide)).mp h1
    have h3 : e = 0 := by
      have := pos_lo (ln := ln) (fun i hi => hp.ln3 hi) e (by omega)
      omega
    have h4 : gv0 kd e = e := by unfold gv0; rw [if_neg (fun z => by omega)]
    rw [h4] at ho
    exact hK _ _ _ _ (c_X_give_e hX a (pos ln e) b σ hb hfb ho)
  · have h2 := (not_congr (nI_leI (a := pos ln e) (b := 1) (by omega) (by decide))).mp h1
    have h3 : 0 < e := by
      rcases Nat.eq_zero_or_pos e with z | z
      · exact absurd (by rw [z]; exact Nat.le_refl 1) h2
      · exact z
    have g2 := hp.lt (i := e - 1) (by omega)
    have g3 := hp.ln3 (i := e - 1) (by omega)
    have gp := pos_prev (ln := ln) h3
    have ht : tgAt (σ 2) (pos ln e - 1) (ln (e - 1)) (kd (e - 1)) := ⟨by rw [gp]; exact hp.tag2 (by omega), by omega, by omega, by omega⟩
    conv => whnf
    refine ⟨pos ln e - 1, ln (e - 1), kd (e - 1), congrArg (fun x => [(.inl x : AV)]) e1, ht, ?_⟩
    conv => whnf
    refine ⟨fun h4 => ?_, fun h4 => ?_⟩
    · conv => whnf
      have h5 : gv0 kd e = e := by unfold gv0; rw [if_neg (fun z => fr_1.mp h4 z.2)]
      rw [h5] at ho
      exact hK _ _ _ _ (c_X_give_e hX a (pos ln e) b σ hb hfb ho)
    · conv => whnf
      refine ⟨pos ln e - 1, ln (e - 1), kd (e - 1), congrArg (fun x => [(.inl x : AV)]) e1, ht, ?_⟩
      conv => whnf
      refine hK _ _ _ _ ?_
      have h5 : gv0 kd e = e - 1 := by unfold gv0; rw [if_pos ⟨h3, fr_0.mp h4⟩]
      rw [h5] at ho
      have e5 : nI (pos ln e) - nI (ln (e - 1)) = nI (pos ln (e - 1)) := by rw [pk_sub (by omega)]; exact nI_eqI (by omega)
      show Go X mi_X_give 69 [some (.inr (.inl 0)), some (.inl a), some (.inl (nI (pos ln e) - nI (ln (e - 1)))), some (.inl (nI b))] [] σ
      rw [e5]
      exact c_X_give_e hX a (pos ln (e - 1)) b σ hb (by omega) ho
theorem c_X_give_ok (σ : Mem) (h : σ 1 4 = 0) {N : Nat} {ln kd : Nat → Nat} (hp : HP (σ 2) N ln kd) {e : Nat} (he : e < N) (hk : kd e ≠ 0) :
    MetO y_X_give mi_X_give [.inr (.inl 0), .inl (nI (pos ln e + 1))] σ (mfO (lsF σ ln N) (pos ln (gv0 kd e)) (pos ln (gv1 N kd e) + ln (gv1 N kd e) - pos ln (gv0 kd e)) (some (.inl (nI (pos ln (gv0 kd e) + 1))))) := by
  have g := hp.lt he
  have g3 := hp.ln3 he
  have g4 := hp.end he
  have e1 : nI (pos ln e + 1) - nI 1 = nI (pos ln e) := nI_pred _
  have e2 : nI (pos ln e) + nI (ln e) = nI (pos ln e + ln e) := nI_add _ _
  refine met_go ok_X_give ⟨rfl, rfl⟩ si_X_give (Nat.le_of_ble_eq_true rfl) ⟨trivial, trivial, trivial⟩ [44] 60 (fun X hX K R1 T1 hK hR hT => ?_)
  conv => whnf
  refine ⟨Or.inl h, fun h1 => absurd (h.symm.trans h1) (by decide), fun _ => ?_⟩
  conv => whnf
  refine ⟨N, ln, kd, hp, fun h1 => absurd ⟨e, he, hk, rfl⟩ h1, fun _ => ?_⟩
  conv => whnf
  rw [e1]
  refine ⟨pos ln e, ln e, kd e, rfl, tg_of (w := σ 2) hp he, ?_⟩
  conv => whnf
  rw [e2]
  refine ⟨fun h1 => ?_, fun h1 => ?_⟩
  · conv => whnf
    have h2 := (nI_ltI (a := 256) (b := pos ln e + ln e) (by decide) (by omega)).mp h1
    have h3 : gv1 N kd e = e := by
      unfold gv1
      refine if_neg (fun z => ?_)
      have := hp.lt z.1
      have := hp.sep he (j := e + 1) (by omega)
      omega
    rw [h3] at hX
    exact hK _ _ _ _ (c_X_give_44 hX _ (pos ln e + ln e) e (lsF σ ln N) hp he (by omega) (by omega) rfl)
  · have h2 := (not_congr (nI_ltI (a := 256) (b := pos ln e + ln e) (by decide) (by omega))).mp h1
    have h3 : e + 1 < N := by
      rcases Nat.lt_or_ge (e + 1) N with z | z
      · exact z
      · have z2 : e + 1 = N := by omega
        have := hp.1
        rw [← z2] at this
        exact absurd this (by show ¬ pos ln e + ln e = 257; omega)
    have ep : pos ln (e + 1) = pos ln e + ln e := rfl
    have g5 := hp.lt h3
    have g6 := hp.ln3 h3
    have g7 := hp.end h3
    conv => whnf
    refine ⟨pos ln e + ln e, ln (e + 1), kd (e + 1), rfl, by rw [← ep]; exact tg_of (w := σ 2) hp h3, ?_⟩
    conv => whnf
    refine ⟨fun h4 => ?_, fun h4 => ?_⟩
    · conv => whnf
      have h5 : gv1 N kd e = e := by unfold gv1; rw [if_neg (fun z => fr_1.mp h4 z.2)]
      rw [h5] at hX
      exact hK _ _ _ _ (c_X_give_44 hX _ (pos ln e + ln e) e (lsF σ ln N) hp he (by omega) (by omega) rfl)
    · conv => whnf
      refine ⟨pos ln e + ln e, ln (e + 1), kd (e + 1), rfl, by rw [← ep]; exact tg_of (w := σ 2) hp h3, ?_⟩
      conv => whnf
      have h5 : gv1 N kd e = e + 1 := by unfold gv1; rw [if_pos ⟨h3, fr_0.mp h4⟩]
      rw [h5] at hX
      refine hK _ _ _ _ ?_
      have e5 : nI (pos ln e + ln e) + nI (ln (e + 1)) = nI (pos ln (e + 1) + ln (e + 1)) := by rw [nI_add, ep]
      show Go X mi_X_give 44 [some (.inr (.inl 0)), some (.inl (nI (pos ln e + 1))), some (.inl (nI (pos ln e))), some (.inl (nI (pos ln e + ln e) + nI (ln (e + 1))))] [] (lsF σ ln N)
      rw [e5]
      exact c_X_give_44 hX _ _ e (lsF σ ln N) hp he (by omega) (by omega) rfl
def mi_X_take : MI := (b_X_take, 7, "RootedWords", some .int, 4, tbl_of 159 f_X_take, fl_X, [(34, (0, 0, ct_X_refuseWhenDown)), (46, (0, 1, ct_X_lowestFree)), (55, (0, 1, ct_X_lengthAt)), (58, (0, 2, ct_X_clearContent)), (61, (0, 4, ct_X_planExtent)), (65, (1, 1, ct_D_change))], [(16, "java/lang/IllegalArgumentException"), (35, "java/lang/IllegalArgumentException"), (56, "java/lang/UnsupportedOperationException")])
theorem ok_X_take : MOK mi_X_take := ⟨tbl_ok k_X_take, flok_X rfl, List.forall_mem_cons.mpr ⟨okV 0 (by decide) s_X_refuseWhenDown rfl (Nat.le_of_ble_eq_true rfl) (Nat.le_of_ble_eq_true rfl) (by decide +kernel) lk_X_34 vv_X_refuseWhenDown, List.forall_mem_cons.mpr ⟨okV 0 (by decide) s_X_lowestFree rfl (Nat.le_of_ble_eq_true rfl) (Nat.le_of_ble_eq_true rfl) (by decide +kernel) lk_X_46 vv_X_lowestFree, List.forall_mem_cons.mpr ⟨okV 0 (by decide) s_X_lengthAt rfl (Nat.le_of_ble_eq_true rfl) (Nat.le_of_ble_eq_true rfl) (by decide +kernel) lk_X_55 vv_X_lengthAt, List.forall_mem_cons.mpr ⟨okV 0 (by decide) s_X_clearContent rfl (Nat.le_of_ble_eq_true rfl) (Nat.le_of_ble_eq_true rfl) (by decide +kernel) lk_X_58 vv_X_clearContent, List.forall_mem_cons.mpr ⟨okV 0 (by decide) s_X_planExtent rfl (Nat.le_of_ble_eq_true rfl) (Nat.le_of_ble_eq_true rfl) (by decide +kernel) lk_X_61 vv_X_planExtent, List.forall_mem_cons.mpr ⟨okV 1 (by decide) s_D_change rfl (Nat.le_of_ble_eq_true rfl) (Nat.le_of_ble_eq_true rfl) (by decide +kernel) lk_X_65 vv_D_change, (fun _ h => absurd h List.not_mem_nil)⟩⟩⟩⟩⟩⟩⟩
theorem si_X_take : ∀ q ∈ m_tr mi_X_take, SiteF mi_X_take q := List.forall_mem_cons.mpr ⟨⟨37, 39, 41, "no extent can have so many words", ⟨by decide +kernel, by decide +kernel, by decide +kernel, by decide +kernel, by decide +kernel⟩, by decide +kernel, Or.inl th_X_37⟩, List.forall_mem_cons.mpr ⟨⟨37, 44, 41, "so many words cannot have so many pointers", ⟨by decide +kernel, by decide +kernel, by decide +kernel, by decide +kernel, by decide +kernel⟩, by decide +kernel, Or.inl th_X_37⟩, List.forall_mem_cons.mpr ⟨⟨50, 52, 54, "no free extent has so many words", ⟨by decide +kernel, by decide +kernel, by decide +kernel, by decide +kernel, by decide +kernel⟩, by decide +kernel, Or.inl th_X_50⟩, (fun _ h => absurd h List.not_mem_nil)⟩⟩⟩
theorem c_X_take_down (x p : Int32) (σ : Mem) (h : σ 1 4 = 1) : MetO y_X_take mi_X_take [.inr (.inl 0), .inl x, .inl p] σ (.inr (eIS, σ)) := by
  refine met_go ok_X_take ⟨rfl, rfl⟩ si_X_take (Nat.le_of_ble_eq_true rfl) ⟨trivial, trivial, trivial, trivial⟩ [] 60 (fun X hX K R1 T1 hK hR hT => ?_)
  conv => whnf
  refine ⟨Or.inr h, fun _ => ?_, fun h1 => absurd (h.symm.trans h1) (by decide)⟩
  exact hT _ _ _ rfl
def tk_ok (x p : Int32) : Prop := ¬ x < nI 1 ∧ x ≤ nI 254 ∧ ¬ p < 0 ∧ p ≤ x
theorem tk_nat {x p : Int32} (h : tk_ok x p) : ∃ m k, 1 ≤ m ∧ m ≤ 254 ∧ k ≤ m ∧ x = nI m ∧ p = nI k := by
  obtain ⟨h1, h2, h3, h4⟩ := h
  have h0 : ¬ x < 0 := fun z => h1 (by
    rw [Int32.lt_iff_toInt_lt] at z ⊢
    have : (nI 1).toInt = 1 := nI_toInt (by decide)
    rw [this]
    have : (0 : Int32).toInt = 0 := by decide
    omega)
  obtain ⟨m, hm, e⟩ := nI_of h0
  obtain ⟨k, hk, e'⟩ := nI_of h3
  subst e; subst e'
  refine ⟨m, k, ?_, ?_, ?_, rfl, rfl⟩
  · have := (not_congr (nI_ltI (a := m) (b := 1) hm (by decide))).mp h1; omega
  · exact (nI_leI hm (by decide)).mp h2
  · exact (nI_leI hk hm).mp h4
theorem tk_okN {m k : Nat} (h1 : 1 ≤ m) (h2 : m ≤ 254) (h3 : k ≤ m) : tk_ok (nI m) (nI k) := ⟨nI_nlt h1 (by omega), nI_le h2 (by decide), nI_pos (by omega), nI_le h3 (by omega)⟩
theorem c_X_take_odd (x p : Int32) (σ : Mem) (h : σ 1 4 = 0) (q : ¬ tk_ok x p) : MetO y_X_take mi_X_take [.inr (.inl 0), .inl x, .inl p] σ (.inr (eIA, σ)) := by
  refine met_go ok_X_take ⟨rfl, rfl⟩ si_X_take (Nat.le_of_ble_eq_true rfl) ⟨trivial, trivial, trivial, trivial⟩ [] 60 (fun X hX K R1 T1 hK hR hT => ?_)
  conv => whnf
  refine ⟨Or.inl h, fun h1 => absurd (h.symm.trans h1) (by decide), fun _ => ?_⟩
  conv => whnf
  refine ⟨fun _ => ?_, fun h1 => ?_⟩
  · conv => whnf
    exact hT _ _ _ rfl
  conv => whnf
  refine ⟨fun h2 => ?_, fun h2 => ?_⟩
  · conv => whnf
    refine ⟨fun _ => ?_, fun h3 => ?_⟩
    · conv => whnf
      exact hT _ _ _ rfl
    conv => whnf
    refine ⟨fun h4 => absurd ⟨h1, h2, h3, h4⟩ q, fun _ => ?_⟩
    conv => whnf
    exact hT _ _ _ rfl
  · conv => whnf
    exact hT _ _ _ rfl
theorem c_X_take_none (m k : Nat) (h1 : 1 ≤ m) (h2 : m ≤ 254) (h3 : k ≤ m) (σ : Mem) (h : σ 1 4 = 0) {N : Nat} {ln kd : Nat → Nat} (hp : HP (σ 2) N ln kd) (q : ∀ i, i < N → ¬ Fit ln kd m i) : MetO y_X_take mi_X_take [.inr (.inl 0), .inl (nI m), .inl (nI k)] σ (.inr (eUO, lsF σ ln N)) := by
  obtain ⟨t1, t2, t3, t4⟩ := tk_okN h1 h2 h3
  refine met_go ok_X_take ⟨rfl, rfl⟩ si_X_take (Nat.le_of_ble_eq_true rfl) ⟨trivial, trivial, trivial, trivial⟩ [] 60 (fun X hX K R1 T1 hK hR hT => ?_)
  conv => whnf
  refine ⟨Or.inl h, fun h1 => absurd (h.symm.trans h1) (by decide), fun _ => ?_⟩
  conv => whnf
  refine ⟨fun z => absurd z t1, fun _ => ?_⟩
  conv => whnf
  refine ⟨fun _ => ?_, fun z => absurd t2 z⟩
  conv => whnf
  refine ⟨fun z => absurd z t3, fun _ => ?_⟩
  conv => whnf
  refine ⟨fun _ => ?_, fun z => absurd t4 z⟩
  conv => whnf
  refine ⟨m, N, ln, kd, rfl, by omega, hp, fun i i1 i2 => absurd i2 (q i i1), fun _ => ?_⟩
  conv => whnf
  refine ⟨fun z => absurd rfl z, fun _ => ?_⟩
  conv => whnf
  exact hT _ _ _ rfl
/-- what take writes behind the clearing: the note of one or two extents -/
def tkP (σ : Mem) (f n len m k : Nat) : Mem := if m + 5 ≤ n then peF (peF σ 0 f len (1 + k)) 1 (f + len) (n - 2 - m) 0 else peF σ 0 f len (1 + k)
def tkL (n m : Nat) : Nat := if m + 5 ≤ n then m + 2 else n
def tkC (n m : Nat) : Nat := if m + 5 ≤ n then 4 else 2
def tkO (σ : Mem) (f n m k : Nat) : OC := if (wrs σ (zL (f + 1) (tkL n m - 2))).2 = true then .inr (eIS, (wrs σ (zL (f + 1) (tkL n m - 2))).1)
  else wou (tkP (wrs σ (zL (f + 1) (tkL n m - 2))).1 f n (tkL n m) m k) (chgL (tkP (wrs σ (zL (f + 1) (tkL n m - 2))).1 f n (tkL n m) m k 3) (tkC n m)) (some (.inl (nI (f + 1))))
theorem c_X_take_99 {X : CT} {oc : OC} (hX : CxO X mi_X_take oc) (m k f n : Nat) (h1 : 1 ≤ m) (h3 : k ≤ m) (hn : m + 2 ≤ n) (hf : f + n ≤ 257) (hf1 : 1 ≤ f) (σ : Mem) (ho : oc = tkO σ f n m k) :
    Go X mi_X_take 99 [some (.inr (.inl 0)), some (.inl (nI m)), some (.inl (nI k)), some (.inl (nI f)), some (.inl (nI n)), some (.inl (nI (n - 2 - m))), some (.inl (nI (tkL n m)))] [] σ := by
  have hL : tkL n m ≤ n ∧ 3 ≤ tkL n m := by unfold tkL; split <;> omega
  have e1 : nI 1 + nI k = nI (1 + k) := nI_add _ _
  have e2 : nI f + nI 1 = nI (f + 1) := nI_add _ _
  have e3 : nI f + nI (tkL n m) = nI (f + tkL n m) := nI_add _ _
  refine Go_run ok_X_take hX [] 80 (fun K R1 T1 hK hR hT => ?_)
  conv => whnf
  refine ⟨f, tkL n m, rfl, by omega, by omega, fun σ' hσ => ?_, fun σ' hσ => ?_⟩
  · unfold tkO at ho
    rw [hσ, if_neg (by decide : ¬ (false = true))] at ho
    conv => whnf
    rw [e1]
    refine ⟨0, f, tkL n m, 1 + k, rfl, by decide, by omega, ?_⟩
    conv => whnf
    by_cases c : m + 5 ≤ n
    · have hc : tkL n m = m + 2 := by unfold tkL; rw [if_pos c]
      have hc2 : tkC n m = 4 := by unfold tkC; rw [if_pos c]
      have hc3 : tkP σ' f n (tkL n m) m k = peF (peF σ' 0 f (tkL n m) (1 + k)) 1 (f + tkL n m) (n - 2 - m) 0 := by unfold tkP; rw [if_pos c]
      rw [hc2, hc3] at ho
      refine ⟨fun z => absurd z (nI_ge (by omega) (by omega)), fun _ => ?_⟩
      conv => whnf
      rw [e3]
      refine ⟨1, f + tkL n m, n - 2 - m, 0, rfl, by decide, by omega, ?_⟩
      conv => whnf
      refine ⟨4, rfl, ⟨by decide, fun i hi => ?_⟩, fun σ2 h2 => ?_, fun σ2 h2 => ?_⟩
      · match i, hi with
        | 0, _ => exact ⟨f, by omega, rfl⟩
        | 1, _ => exact ⟨f + tkL n m - 1, by omega, rfl⟩
        | 2, _ => exact ⟨f + tkL n m, by omega, rfl⟩
        | 3, _ => exact ⟨f + tkL n m + (n - 2 - m) - 1, by omega, rfl⟩
      · conv => whnf
        refine hR _ _ ?_
        rw [ho, e2]
        unfold wou
        rw [h2]; rfl
      · refine hT _ _ _ ?_
        rw [ho]
        unfold wou
        rw [h2]; rfl
    · have hc : tkL n m = n := by unfold tkL; rw [if_neg c]
      have hc2 : tkC n m = 2 := by unfold tkC; rw [if_neg c]
      have hc3 : tkP σ' f n (tkL n m) m k = peF σ' 0 f (tkL n m) (1 + k) := by unfold tkP; rw [if_neg c]
      rw [hc2, hc3] at ho
      refine ⟨fun _ => ?_, fun z => absurd (nI_le (by omega) (by omega)) z⟩
      conv => whnf
      refine ⟨2, rfl, mf_plOK σ' f (tkL n m) (1 + k) (by omega) (by omega), fun σ2 h2 => ?_, fun σ2 h2 => ?_⟩
      · conv => whnf
        refine hR _ _ ?_
        rw [ho, e2]
        unfold wou
        rw [h2]; rfl
      · refine hT _ _ _ ?_
        rw [ho]
        unfold wou
        rw [h2]; rfl
  · refine hT _ _ _ ?_
    rw [ho]
    unfold tkO
    rw [hσ]; rfl
theorem c_X_take_ok (m k : Nat) (h1 : 1 ≤ m) (h2 : m ≤ 254) (h3 : k ≤ m) (σ : Mem) (h : σ 1 4 = 0) {N : Nat} {ln kd : Nat → Nat} (hp : HP (σ 2) N ln kd) {e : Nat} (he : e < N) (hfit : Fit ln kd m e) (hl : ∀ j, j < e → ¬ Fit ln kd m j) :
    MetO y_X_take mi_X_take [.inr (.inl 0), .inl (nI m), .inl (nI k)] σ (tkO (lsF σ ln N) (pos ln e) (ln e) m k) := by
  obtain ⟨t1, t2, t3, t4⟩ := tk_okN h1 h2 h3
  have g := hp.lt he
  have g3 := hp.ln3 he
  have g4 := hp.end he
  have hm2 := hfit.2
  have e1 : nI (ln e) - nI 2 - nI m = nI (ln e - 2 - m) := by rw [pk_sub (by omega), pk_sub (by omega)]
  have e2 : nI (ln e) - nI (ln e - 2 - m) = nI (m + 2) := by rw [pk_sub (by omega)]; exact nI_eqI (by omega)
  refine met_go ok_X_take ⟨rfl, rfl⟩ si_X_take (Nat.le_of_ble_eq_true rfl) ⟨trivial, trivial, trivial, trivial⟩ [99] 80 (fun X hX K R1 T1 hK hR hT => ?_)
  have h99 := c_X_take_99 hX m k (pos ln e) (ln e) h1 h3 hm2 g4 g.2.2.2.2 (lsF σ ln N) rfl
  conv => whnf
  refine ⟨Or.inl h, fun h1 => absurd (h.symm.trans h1) (by decide), fun _ => ?_⟩
  conv => whnf
  refine ⟨fun z => absurd z t1, fun _ => ?_⟩
  conv => whnf
  refine ⟨fun _ => ?_, fun z => absurd t2 z⟩
  conv => whnf
  refine ⟨fun z => absurd z t3, fun _ => ?_⟩
  conv => whnf
  refine ⟨fun _ => ?_, fun z => absurd t4 z⟩
  conv => whnf
  refine ⟨m, N, ln, kd, rfl, by omega, hp, fun i i1 i2 i3 => ?_, fun z => absurd hfit (z e he)⟩
  obtain rfl : i = e := least_uniq (P := Fit ln kd m) i2 i3 hfit hl
  conv => whnf
  refine ⟨fun _ => ?_, fun z => ?_⟩
  · conv => whnf
    refine ⟨pos ln i, ln i, kd i, rfl, tg_of (w := σ 2) hp he, ?_⟩
    conv => whnf
    rw [e1]
    refine ⟨fun z => ?_, fun z => ?_⟩
    · conv => whnf
      refine hK _ _ _ _ ?_
      have hz := (nI_ltI (a := ln i - 2 - m) (b := 3) (by omega) (by decide)).mp z
      have hL : tkL (ln i) m = ln i := by unfold tkL; rw [if_neg (by omega)]
      rw [hL] at h99
      show Go X mi_X_take 99 [some (.inr (.inl 0)), some (.inl (nI m)), some (.inl (nI k)), some (.inl (nI (pos ln i))), some (.inl (nI (ln i))), some (.inl (nI (ln i - 2 - m))), some (.inl (nI (ln i)))] [] (lsF σ ln N)
      exact h99
    · conv => whnf
      refine hK _ _ _ _ ?_
      have hz := (not_congr (nI_ltI (a := ln i - 2 - m) (b := 3) (by omega) (by decide))).mp z
      have hL : tkL (ln i) m = m + 2 := by unfold tkL; rw [if_pos (by omega)]
      rw [hL] at h99
      show Go X mi_X_take 99 [some (.inr (.inl 0)), some (.inl (nI m)), some (.inl (nI k)), some (.inl (nI (pos ln i))), some (.inl (nI (ln i))), some (.inl (nI (ln i - 2 - m))), some (.inl (nI (ln i) - nI (ln i - 2 - m)))] [] (lsF σ ln N)
      rw [e2]
      exact h99
  · exfalso
    have h5 := nI_toInt (n := pos ln i) (by omega)
    rw [z] at h5
    have h6 : (-1 : Int32).toInt = -1 := by decide
    rw [h6] at h5
    omega
def mi_X_recover : MI := (b_X_recover, 2, "RootedWords", some .int, 5, tbl_of 47 f_X_recover, fl_X, [(119, (0, 0, ct_X_searchFromRoots)), (125, (1, 0, ct_D_isDown)), (129, (1, 0, ct_D_isPending)), (132, (1, 0, ct_D_finishChange)), (135, (0, 0, ct_X_freeUnreached)), (138, (1, 0, ct_D_goUp))], [])
theorem ok_X_recover : MOK mi_X_recover := ⟨tbl_ok k_X_recover, flok_X rfl, List.forall_mem_cons.mpr ⟨okV 0 (by decide) s_X_searchFromRoots rfl (Nat.le_of_ble_eq_true rfl) (Nat.le_of_ble_eq_true rfl) (by decide +kernel) lk_X_119 vv_X_searchFromRoots, List.forall_mem_cons.mpr ⟨okV 1 (by decide) s_D_isDown rfl (Nat.le_of_ble_eq_true rfl) (Nat.le_of_ble_eq_true rfl) (by decide +kernel) lk_X_125 vv_D_isDown, List.forall_mem_cons.mpr ⟨okV 1 (by decide) s_D_isPending rfl (Nat.le_of_ble_eq_true rfl) (Nat.le_of_ble_eq_true rfl) (by decide +kernel) lk_X_129 vv_D_isPending, List.forall_mem_cons.mpr ⟨okV 1 (by decide) s_D_finishChange rfl (Nat.le_of_ble_eq_true rfl) (Nat.le_of_ble_eq_true rfl) (by decide +kernel) lk_X_132 vv_D_finishChange, List.forall_mem_cons.mpr ⟨okV 0 (by decide) s_X_freeUnreached rfl (Nat.le_of_ble_eq_true rfl) (Nat.le_of_ble_eq_true rfl) (by decide +kernel) lk_X_135 vv_X_freeUnreached, List.forall_mem_cons.mpr ⟨okV 1 (by decide) s_D_goUp rfl (Nat.le_of_ble_eq_true rfl) (Nat.le_of_ble_eq_true rfl) (by decide +kernel) lk_X_138 vv_D_goUp, (fun _ h => absurd h List.not_mem_nil)⟩⟩⟩⟩⟩⟩⟩
theorem si_X_recover : ∀ q ∈ m_tr mi_X_recover, SiteF mi_X_recover q := (fun _ h => absurd h List.not_mem_nil)
theorem c_X_recover_up (σ : Mem) (h : σ 1 4 = 0) : MetO y_X_recover mi_X_recover [.inr (.inl 0)] σ (.inl (some (.inl (-1)), σ)) := by
  refine met_go ok_X_recover ⟨rfl, rfl⟩ si_X_recover (Nat.le_of_ble_eq_true rfl) ⟨trivial, trivial⟩ [] 60 (fun X hX K R1 T1 hK hR hT => ?_)
  conv => whnf
  refine ⟨Or.inl h, ?_⟩
  conv => whnf
  refine ⟨fun z => absurd h z, fun _ => ?_⟩
  conv => whnf
  exact hR _ _ rfl
/-- what is reached, as a test -/
noncomputable def rsb (w : Nat → Int32) (N : Nat) (ln kd : Nat → Nat) : Nat → Bool := fun j => @decide (RS w N ln kd j) (Classical.propDecidable _)
theorem rsb_iff {w : Nat → Int32} {N : Nat} {ln kd : Nat → Nat} {j : Nat} : rsb w N ln kd j = true ↔ RS w N ln kd j := @decide_eq_true_iff _ (Classical.propDecidable _)
noncomputable def rcF (σ : Mem) (N : Nat) (ln kd : Nat → Nat) : Mem × Bool := fuF N ln kd (rsb (σ 2) N ln kd) (N + 1) 0 (lsF (srM σ N ln kd) ln N)
noncomputable def rcO (σ : Mem) (N : Nat) (ln kd : Nat → Nat) : OC := if (rcF σ N ln kd).2 = true then .inr (eIS, (rcF σ N ln kd).1) else .inl (some (.inl (nI (cntP (RS (σ 2) N ln kd) N))), st (rcF σ N ln kd).1 1 4 0)
theorem c_X_recover_29 {X : CT} {oc : OC} (hX : CxO X mi_X_recover oc) (σ : Mem) {N : Nat} {ln kd : Nat → Nat} (hp : HP (σ 2) N ln kd) (ho : oc = rcO σ N ln kd) : Go X mi_X_recover 29 [some (.inr (.inl 0)), none] [] σ := by
  refine Go_run ok_X_recover hX [] 60 (fun K R1 T1 hK hR hT => ?_)
  have e2 : srM σ N ln kd 2 = σ 2 := srM_ne hp 2 (by decide) (by decide) (by decide)
  conv => whnf
  refine ⟨N, ln, kd, hp, ?_⟩
  conv => whnf
  refine ⟨N, ln, kd, rsb (σ 2) N ln kd, by rw [e2]; exact hp, fun j hj => rsb_iff.trans (srM_5 hp j hj).symm, fun σ' hσ => ?_, fun σ' hσ => ?_⟩
  · conv => whnf
    refine hR _ _ ?_
    rw [ho]
    unfold rcO
    have hσ : rcF σ N ln kd = (σ', false) := hσ
    rw [hσ]; rfl
  · refine hT _ _ _ ?_
    rw [ho]
    unfold rcO
    have hσ : rcF σ N ln kd = (σ', true) := hσ
    rw [hσ]; rfl
theorem c_X_recover_np (σ : Mem) (h : σ 1 4 = 1) (h0 : σ 2 265 = 0) {N : Nat} {ln kd : Nat → Nat} (hp : HP (σ 2) N ln kd) : MetO y_X_recover mi_X_recover [.inr (.inl 0)] σ (rcO σ N ln kd) := by
  refine met_go ok_X_recover ⟨rfl, rfl⟩ si_X_recover (Nat.le_of_ble_eq_true rfl) ⟨trivial, trivial⟩ [29] 60 (fun X hX K R1 T1 hK hR hT => ?_)
  conv => whnf
  refine ⟨Or.inr h, ?_⟩
  conv => whnf
  refine ⟨fun _ => ?_, fun z => absurd (h.symm.trans z) (by decide)⟩
  conv => whnf
  refine ⟨fun _ => ?_, fun z => absurd (if_pos h0) z⟩
  conv => whnf
  exact hK _ _ _ _ (c_X_recover_29 hX σ hp rfl)
/-- a pending change that is cut off again -/
theorem c_X_recover_cut (σ : Mem) (h : σ 1 4 = 1) (h0 : ¬ σ 2 265 = 0) {k : Nat} (hn : nOK (σ 2) k) (hf : (wrs σ (fin (σ 2) 0 k ++ [(265, 0)])).2 = true) : MetO y_X_recover mi_X_recover [.inr (.inl 0)] σ (.inr (eIS, (wrs σ (fin (σ 2) 0 k ++ [(265, 0)])).1)) := by
  refine met_go ok_X_recover ⟨rfl, rfl⟩ si_X_recover (Nat.le_of_ble_eq_true rfl) ⟨trivial, trivial⟩ [29] 60 (fun X hX K R1 T1 hK hR hT => ?_)
  conv => whnf
  refine ⟨Or.inr h, ?_⟩
  conv => whnf
  refine ⟨fun _ => ?_, fun z => absurd (h.symm.trans z) (by decide)⟩
  conv => whnf
  refine ⟨fun z => absurd (z.symm.trans (if_neg h0)) (by decide), fun _ => ?_⟩
  conv => whnf
  refine ⟨k, hn, fun σ' hσ => ?_, fun σ' hσ => ?_⟩
  · rw [hσ] at hf; cases hf
  · refine hT _ _ _ ?_
    rw [hσ]
theorem c_X_recover_fin (σ σ1 : Mem) (h : σ 1 4 = 1) (h0 : ¬ σ 2 265 = 0) {k : Nat} (hn : nOK (σ 2) k) (hf : wrs σ (fin (σ 2) 0 k ++ [(265, 0)]) = (σ1, false)) {N : Nat} {ln kd : Nat → Nat} (hp : HP (σ1 2) N ln kd) : MetO y_X_recover mi_X_recover [.inr (.inl 0)] σ (rcO σ1 N ln kd) := by
  refine met_go ok_X_recover ⟨rfl, rfl⟩ si_X_recover (Nat.le_of_ble_eq_true rfl) ⟨trivial, trivial⟩ [29] 60 (fun X hX K R1 T1 hK hR hT => ?_)
  conv => whnf
  refine ⟨Or.inr h, ?_⟩
  conv => whnf
  refine ⟨fun _ => ?_, fun z => absurd (h.symm.trans z) (by decide)⟩
  conv => whnf
  refine ⟨fun z => absurd (z.symm.trans (if_neg h0)) (by decide), fun _ => ?_⟩
  conv => whnf
  refine ⟨k, hn, fun σ' hσ => ?_, fun σ' hσ => ?_⟩
  · have : σ' = σ1 := (Prod.mk.inj (hσ.symm.trans hf)).1
    subst this
    conv => whnf
    exact hK _ _ _ _ (c_X_recover_29 hX σ' hp rfl)
  · rw [hσ] at hf; cases hf
end
section
/-! ===== the reference: counts of writes ===== -/
def lOK (x : Int32) : Prop := x = -1 ∨ ∃ j, j ≤ 1000 ∧ x = nI j
/-- so many writes take place -/
def lGo (x : Int32) (k : Nat) : Prop := x = -1 ∨ ∃ j, k ≤ j ∧ j ≤ 1000 ∧ x = nI j
def lsub (x : Int32) (k : Nat) : Int32 := if x < 0 then -1 else x - nI k
def spF (σ : Mem) (j : Nat) : Mem := st (st (st σ 7 9 (σ 7 9 + nI j)) 7 10 (-1)) 7 11 1
def spO (σ : Mem) (k : Nat) : Mem := st (st (st σ 7 9 (σ 7 9 + nI k)) 7 10 (lsub (σ 7 10) k)) 7 11 (σ 7 11)
theorem lGo_or {x : Int32} (h : lOK x) (k : Nat) : lGo x k ∨ ∃ j, j < k ∧ j ≤ 1000 ∧ x = nI j := by
  rcases h with h | ⟨j, h1, h2⟩
  · exact Or.inl (Or.inl h)
  · rcases Nat.lt_or_ge j k with q | q
    · exact Or.inr ⟨j, q, h1, h2⟩
    · exact Or.inl (Or.inr ⟨j, q, h1, h2⟩)
theorem m1_lt : (-1 : Int32) < 0 := by decide
def mi_M_thrown : MI := (b_M_thrown, 1, "RootedWordsModel", some .int, 0, tbl_of 5 f_M_thrown, fl_M, [], [])
theorem ok_M_thrown : MOK mi_M_thrown := ⟨tbl_ok k_M_thrown, flok_M rfl, (fun _ h => absurd h List.not_mem_nil)⟩
theorem si_M_thrown : ∀ q ∈ m_tr mi_M_thrown, SiteF mi_M_thrown q := (fun _ h => absurd h List.not_mem_nil)
theorem c_M_thrown (σ : Mem) : MetO y_M_thrown mi_M_thrown [.inr (.inl 7)] σ (.inl (some (.inl (σ 7 0)), σ)) := by
  refine met_go ok_M_thrown ⟨rfl, rfl⟩ si_M_thrown (Nat.le_of_ble_eq_true rfl) ⟨trivial, trivial⟩ [] 60 (fun X hX K R1 T1 hK hR hT => ?_)
  conv => whnf
  exact hR _ _ rfl
def mi_M_spend : MI := (b_M_spend, 4, "RootedWordsModel", some .int, 0, tbl_of 100 f_M_spend, fl_M, [], [])
theorem ok_M_spend : MOK mi_M_spend := ⟨tbl_ok k_M_spend, flok_M rfl, (fun _ h => absurd h List.not_mem_nil)⟩
theorem si_M_spend : ∀ q ∈ m_tr mi_M_spend, SiteF mi_M_spend q := (fun _ h => absurd h List.not_mem_nil)
theorem c_M_spend_tail {X : CT} {oc : OC} (hX : CxO X mi_M_spend oc) (σ : Mem) (k : Nat) (hk : k < 100000) (hb : bl (σ 7 11)) (h : lGo (σ 7 10) k) (ho : oc = .inl (some (.inl (-1)), spO σ k)) (x : Option AV) : Go X mi_M_spend 22 [some (.inr (.inl 7)), some (.inl (nI k)), x, none] [] σ := by
  refine Go_run ok_M_spend hX [] 60 (fun K R1 T1 hK hR hT => ?_)
  conv => whnf
  refine ⟨fun _ => ?_, fun z => absurd (nI_le (Nat.le_refl _) (by omega)) z⟩
  conv => whnf
  refine ⟨fun z => absurd rfl z, fun _ => ?_⟩
  conv => whnf
  refine ⟨fun z => ?_, fun z => ?_⟩
  · conv => whnf
    refine ⟨fun z2 => ?_, fun z2 => ?_⟩
    · conv => whnf
      refine ⟨Or.inr rfl, ?_⟩
      conv => whnf
      refine ⟨fun _ => ?_, fun z => absurd rfl z⟩
      conv => whnf
      refine hR _ _ ?_
      have hb1 : σ 7 11 = 1 := hb.resolve_left z2
      rw [ho]
      unfold spO lsub
      have z : 0 ≤ σ 7 10 := z
      rw [if_neg (Int32.not_lt.mpr z), hb1]; rfl
    · conv => whnf
      refine ⟨fun _ => ?_, fun z => absurd rfl z⟩
      conv => whnf
      refine ⟨Or.inl rfl, ?_⟩
      conv => whnf
      refine ⟨fun _ => ?_, fun z => absurd rfl z⟩
      conv => whnf
      refine hR _ _ ?_
      have hb1 : σ 7 11 = 0 := z2
      rw [ho]
      unfold spO lsub
      have z : 0 ≤ σ 7 10 := z
      rw [if_neg (Int32.not_lt.mpr z), hb1]; rfl
  · conv => whnf
    refine ⟨fun z2 => ?_, fun z2 => ?_⟩
    · conv => whnf
      refine ⟨Or.inr rfl, ?_⟩
      conv => whnf
      refine ⟨fun _ => ?_, fun z => absurd rfl z⟩
      conv => whnf
      refine hR _ _ ?_
      have hb1 : σ 7 11 = 1 := hb.resolve_left z2
      rw [ho]
      unfold spO lsub
      have z : ¬ 0 ≤ σ 7 10 := z
      rw [if_pos (Int32.not_le.mp z), hb1]; rfl
    · conv => whnf
      refine ⟨fun _ => ?_, fun z => absurd rfl z⟩
      conv => whnf
      refine ⟨Or.inl rfl, ?_⟩
      conv => whnf
      refine ⟨fun _ => ?_, fun z => absurd rfl z⟩
      conv => whnf
      refine hR _ _ ?_
      have hb1 : σ 7 11 = 0 := z2
      rw [ho]
      unfold spO lsub
      have z : ¬ 0 ≤ σ 7 10 := z
      rw [if_pos (Int32.not_le.mp z), hb1]; rfl
theorem c_M_spend_o (σ : Mem) (k : Nat) (hk : k < 100000) (hb : bl (σ 7 11)) (h : lGo (σ 7 10) k) : MetO y_M_spend mi_M_spend [.inr (.inl 7), .inl (nI k)] σ (.inl (some (.inl (-1)), spO σ k)) := by
  refine met_go ok_M_spend ⟨rfl, rfl⟩ si_M_spend (Nat.le_of_ble_eq_true rfl) ⟨trivial, trivial, trivial⟩ [22] 60 (fun X hX K R1 T1 hK hR hT => ?_)
  conv => whnf
  refine ⟨fun _ => ?_, fun z => ?_⟩
  · conv => whnf
    exact hK _ _ _ _ (c_M_spend_tail hX σ k hk hb h rfl none)
  · conv => whnf
    refine ⟨fun _ => ?_, fun z2 => ?_⟩
    · conv => whnf
      exact hK _ _ _ _ (c_M_spend_tail hX σ k hk hb h rfl none)
    · exfalso
      rcases h with h | ⟨j, h1, h2, h3⟩
      · exact z (by rw [h]; exact m1_lt)
      · exact z2 (by rw [h3]; exact nI_le h1 (by omega))
theorem c_M_spend_f (σ : Mem) (k j : Nat) (hk : k < 100000) (hb : bl (σ 7 11)) (hj : j < k) (h : σ 7 10 = nI j) : MetO y_M_spend mi_M_spend [.inr (.inl 7), .inl (nI k)] σ (.inl (some (.inl (nI j)), spF σ j)) := by
  refine met_go ok_M_spend ⟨rfl, rfl⟩ si_M_spend (Nat.le_of_ble_eq_true rfl) ⟨trivial, trivial, trivial⟩ [] 60 (fun X hX K R1 T1 hK hR hT => ?_)
  conv => whnf
  refine ⟨fun z => absurd z (by rw [h]; exact nI_pos (by omega)), fun _ => ?_⟩
  conv => whnf
  rw [h]
  refine ⟨fun z => absurd z (nI_ge hj (by omega)), fun _ => ?_⟩
  conv => whnf
  rw [h]
  refine ⟨fun z => absurd z (nI_ge hj (by omega)), fun _ => ?_⟩
  conv => whnf
  refine ⟨fun _ => ?_, fun z => absurd z (by decide)⟩
  conv => whnf
  refine ⟨fun z2 => ?_, fun z2 => ?_⟩
  · conv => whnf
    refine ⟨Or.inr rfl, ?_⟩
    conv => whnf
    refine ⟨fun z => absurd z (by decide), fun _ => ?_⟩
    conv => whnf
    exact hR _ _ rfl
  · conv => whnf
    refine ⟨fun z => absurd z (by decide), fun _ => ?_⟩
    conv => whnf
    refine ⟨Or.inr rfl, ?_⟩
    conv => whnf
    refine ⟨fun z => absurd z (by decide), fun _ => ?_⟩
    conv => whnf
    exact hR _ _ rfl
def ct_M_spend : CTy := fun as σ KN _ => ∃ k, as = [.inl (nI k)] ∧ k < 100000 ∧ bl (σ 7 11) ∧ lOK (σ 7 10) ∧ (lGo (σ 7 10) k → KN (some (.inl (-1))) (spO σ k)) ∧ (∀ j, j < k → j ≤ 1000 → σ 7 10 = nI j → KN (some (.inl (nI j))) (spF σ j))
theorem s_M_spend : Snd y_M_spend mi_M_spend 7 1 ct_M_spend := by
  intro as σ KN KX _ ⟨k, e, hk, hb, hl, h1, h2⟩
  subst e
  rcases lGo_or hl k with q | ⟨j, q1, q2, q3⟩
  · exact ⟨.inl (_, _), h1 q, c_M_spend_o σ k hk hb q⟩
  · exact ⟨.inl (_, _), h2 j q1 q2 q3, c_M_spend_f σ k j hk hb q1 q3⟩
def mi_M_change : MI := (b_M_change, 3, "RootedWordsModel", some .int, 1, tbl_of 45 f_M_change, fl_M, [(49, (7, 1, ct_M_spend))], [])
theorem ok_M_change : MOK mi_M_change := ⟨tbl_ok k_M_change, flok_M rfl, List.forall_mem_cons.mpr ⟨okV 2 (by decide) s_M_spend rfl (Nat.le_of_ble_eq_true rfl) (Nat.le_of_ble_eq_true rfl) (by decide +kernel) lk_M_49 vv_M_spend, (fun _ h => absurd h List.not_mem_nil)⟩⟩
theorem si_M_change : ∀ q ∈ m_tr mi_M_change, SiteF mi_M_change q := (fun _ h => absurd h List.not_mem_nil)
theorem c_M_change_o (σ : Mem) (k : Nat) (hk : k ≤ 4) (hb : bl (σ 7 11)) (h : lGo (σ 7 10) (3 * k + 2)) : MetO y_M_change mi_M_change [.inr (.inl 7), .inl (nI k)] σ (.inl (some (.inl 0), spO σ (3 * k + 2))) := by
  have e1 : nI 3 * nI k + nI 2 = nI (3 * k + 2) := by rw [pk_mul, nI_add]
  have hl : lOK (σ 7 10) := h.elim Or.inl (fun ⟨j, h1, h2, h3⟩ => Or.inr ⟨j, h2, h3⟩)
  refine met_go ok_M_change ⟨rfl, rfl⟩ si_M_change (Nat.le_of_ble_eq_true rfl) ⟨trivial, trivial, trivial⟩ [] 60 (fun X hX K R1 T1 hK hR hT => ?_)
  conv => whnf
  rw [e1]
  refine ⟨3 * k + 2, rfl, by omega, hb, hl, fun _ => ?_, fun j j1 j2 j3 => ?_⟩
  · conv => whnf
    refine ⟨fun z => absurd z (by decide), fun _ => ?_⟩
    conv => whnf
    exact hR _ _ rfl
  · exfalso
    rcases h with h | ⟨j', h1, h2, h3⟩
    · have h5 := nI_toInt (n := j) (by omega)
      rw [← j3, h] at h5
      have h6 : (-1 : Int32).toInt = -1 := by decide
      rw [h6] at h5
      omega
    · have := nI_inj (by omega) (by omega) (h3.symm.trans j3)
      omega
theorem not_lGo {x : Int32} {k j : Nat} (hj : j < k) (hj2 : j ≤ 1000) (h : x = nI j) : ¬ lGo x k := by
  rintro (h1 | ⟨j', h1, h2, h3⟩)
  · have h5 := nI_toInt (n := j) (by omega)
    rw [← h, h1] at h5
    have h6 : (-1 : Int32).toInt = -1 := by decide
    rw [h6] at h5
    omega
  · have := nI_inj (by omega) (by omega) (h3.symm.trans h)
    omega
theorem c_M_change_f (σ : Mem) (k j : Nat) (hk : k ≤ 4) (hb : bl (σ 7 11)) (hj : j < 3 * k + 2) (h : σ 7 10 = nI j) (r v : Int32) (hr : (2 * k < j → r = 1 ∧ v = nI k) ∧ (j ≤ 2 * k → r = 2 ∧ v = 0)) : MetO y_M_change mi_M_change [.inr (.inl 7), .inl (nI k)] σ (.inl (some (.inl r), st (spF σ j) 7 12 v)) := by
  have e1 : nI 3 * nI k + nI 2 = nI (3 * k + 2) := by rw [pk_mul, nI_add]
  have e2 : nI 2 * nI k = nI (2 * k) := pk_mul _ _
  refine met_go ok_M_change ⟨rfl, rfl⟩ si_M_change (Nat.le_of_ble_eq_true rfl) ⟨trivial, trivial, trivial⟩ [] 60 (fun X hX K R1 T1 hK hR hT => ?_)
  conv => whnf
  rw [e1]
  refine ⟨3 * k + 2, rfl, by omega, hb, Or.inr ⟨j, by omega, h⟩, fun q => absurd q (not_lGo hj (by omega) h), fun j' j1 j2 j3 => ?_⟩
  obtain rfl : j' = j := nI_inj (by omega) (by omega) (j3.symm.trans h)
  conv => whnf
  refine ⟨fun _ => ?_, fun z => absurd (nI_pos' (by omega)) z⟩
  conv => whnf
  rw [e2]
  refine ⟨fun z => ?_, fun z => ?_⟩
  · have z1 := (nI_leI (by omega) (by omega)).mp z
    conv => whnf
    rw [e2]
    refine ⟨fun _ => ?_, fun z2 => absurd z z2⟩
    conv => whnf
    refine hR _ _ ?_
    rw [(hr.2 z1).1, (hr.2 z1).2]; rfl
  · have z1 := (not_congr (nI_leI (a := j') (b := 2 * k) (by omega) (by omega))).mp z
    conv => whnf
    rw [e2]
    refine ⟨fun z2 => absurd z2 z, fun _ => ?_⟩
    conv => whnf
    refine hR _ _ ?_
    rw [(hr.1 (by omega)).1, (hr.1 (by omega)).2]; rfl
def ct_M_change : CTy := fun as σ KN _ => ∃ k, as = [.inl (nI k)] ∧ k ≤ 4 ∧ bl (σ 7 11) ∧ lOK (σ 7 10) ∧ (lGo (σ 7 10) (3 * k + 2) → KN (some (.inl 0)) (spO σ (3 * k + 2))) ∧ (∀ j, 2 * k < j → j < 3 * k + 2 → σ 7 10 = nI j → KN (some (.inl 1)) (st (spF σ j) 7 12 (nI k))) ∧ (∀ j, j ≤ 2 * k → σ 7 10 = nI j → KN (some (.inl 2)) (st (spF σ j) 7 12 0))
theorem s_M_change : Snd y_M_change mi_M_change 7 1 ct_M_change := by
  intro as σ KN KX _ ⟨k, e, hk, hb, hl, h1, h2, h3⟩
  subst e
  rcases lGo_or hl (3 * k + 2) with q | ⟨j, q1, q2, q3⟩
  · exact ⟨.inl (_, _), h1 q, c_M_change_o σ k hk hb q⟩
  · rcases Nat.lt_or_ge (2 * k) j with z | z
    · exact ⟨.inl (_, _), h2 j z q1 q3, c_M_change_f σ k j hk hb q1 q3 1 (nI k) ⟨fun _ => ⟨rfl, rfl⟩, fun y => absurd y (by omega)⟩⟩
    · exact ⟨.inl (_, _), h3 j z q3, c_M_change_f σ k j hk hb q1 q3 2 0 ⟨fun y => absurd y (by omega), fun _ => ⟨rfl, rfl⟩⟩⟩
def dsO (σ : Mem) (k : Nat) : Mem := st (spO σ (3 * k + 2)) 7 0 0
def ds1 (σ : Mem) (k j : Nat) : Mem := st (st (spF σ j) 7 12 (nI k)) 7 0 1
def ds2 (σ : Mem) (j : Nat) : Mem := st (st (spF σ j) 7 12 0) 7 0 1
def mi_M_does : MI := (b_M_does, 3, "RootedWordsModel", some .boolean, 2, tbl_of 30 f_M_does, fl_M, [(56, (7, 1, ct_M_change))], [])
theorem ok_M_does : MOK mi_M_does := ⟨tbl_ok k_M_does, flok_M rfl, List.forall_mem_cons.mpr ⟨okV 2 (by decide) s_M_change rfl (Nat.le_of_ble_eq_true rfl) (Nat.le_of_ble_eq_true rfl) (by decide +kernel) lk_M_56 vv_M_change, (fun _ h => absurd h List.not_mem_nil)⟩⟩
theorem si_M_does : ∀ q ∈ m_tr mi_M_does, SiteF mi_M_does q := (fun _ h => absurd h List.not_mem_nil)
theorem c_M_does_o (σ : Mem) (k : Nat) (hk : k ≤ 4) (hb : bl (σ 7 11)) (hl : lOK (σ 7 10)) (h : lGo (σ 7 10) (3 * k + 2)) : MetO y_M_does mi_M_does [.inr (.inl 7), .inl (nI k)] σ (.inl (some (.inl 1), dsO σ k)) := by
  refine met_go ok_M_does ⟨rfl, rfl⟩ si_M_does (Nat.le_of_ble_eq_true rfl) ⟨trivial, trivial, trivial⟩ [] 60 (fun X hX K R1 T1 hK hR hT => ?_)
  conv => whnf
  refine ⟨k, rfl, hk, hb, hl, fun _ => ?_, fun j j1 j2 j3 => absurd h (not_lGo j2 (by omega) j3), fun j j1 j2 => absurd h (not_lGo (by omega) (by omega) j2)⟩
  conv => whnf
  refine ⟨fun _ => ?_, fun z => absurd (by decide) z⟩
  conv => whnf
  refine ⟨fun z => absurd z (by decide), fun _ => ?_⟩
  conv => whnf
  exact ⟨rfl, hR _ _ rfl⟩
theorem c_M_does_1 (σ : Mem) (k j : Nat) (hk : k ≤ 4) (hb : bl (σ 7 11)) (hj : 2 * k < j) (hj2 : j < 3 * k + 2) (h : σ 7 10 = nI j) : MetO y_M_does mi_M_does [.inr (.inl 7), .inl (nI k)] σ (.inl (some (.inl 1), ds1 σ k j)) := by
  refine met_go ok_M_does ⟨rfl, rfl⟩ si_M_does (Nat.le_of_ble_eq_true rfl) ⟨trivial, trivial, trivial⟩ [] 60 (fun X hX K R1 T1 hK hR hT => ?_)
  conv => whnf
  refine ⟨k, rfl, hk, hb, Or.inr ⟨j, by omega, h⟩, fun q => absurd q (not_lGo hj2 (by omega) h), fun j' j1 j2 j3 => ?_, fun j' j1 j2 => ?_⟩
  · obtain rfl : j' = j := nI_inj (by omega) (by omega) (j3.symm.trans h)
    conv => whnf
    refine ⟨fun z => absurd z (by decide), fun _ => ?_⟩
    conv => whnf
    refine ⟨fun z => absurd z (by decide), fun _ => ?_⟩
    conv => whnf
    exact ⟨rfl, hR _ _ rfl⟩
  · have : j' = j := nI_inj (by omega) (by omega) (j2.symm.trans h)
    omega
theorem c_M_does_2 (σ : Mem) (k j : Nat) (hk : k ≤ 4) (hb : bl (σ 7 11)) (hj : j ≤ 2 * k) (h : σ 7 10 = nI j) : MetO y_M_does mi_M_does [.inr (.inl 7), .inl (nI k)] σ (.inl (some (.inl 0), ds2 σ j)) := by
  refine met_go ok_M_does ⟨rfl, rfl⟩ si_M_does (Nat.le_of_ble_eq_true rfl) ⟨trivial, trivial, trivial⟩ [] 60 (fun X hX K R1 T1 hK hR hT => ?_)
  conv => whnf
  refine ⟨k, rfl, hk, hb, Or.inr ⟨j, by omega, h⟩, fun q => absurd q (not_lGo (by omega : j < _) (by omega) h), fun j' j1 j2 j3 => ?_, fun j' j1 j2 => ?_⟩
  · have : j' = j := nI_inj (by omega) (by omega) (j3.symm.trans h)
    omega
  · obtain rfl : j' = j := nI_inj (by omega) (by omega) (j2.symm.trans h)
    conv => whnf
    refine ⟨fun z => absurd z (by decide), fun _ => ?_⟩
    conv => whnf
    refine ⟨fun _ => ?_, fun z => absurd (by decide) z⟩
    conv => whnf
    exact ⟨rfl, hR _ _ rfl⟩
/-- how a change of k words ends: 0 done, 1 cut off behind its note, 2 cut off before -/
def Dz (σ : Mem) (k r : Nat) (σ1 : Mem) : Prop := (lGo (σ 7 10) (3 * k + 2) ∧ r = 0 ∧ σ1 = dsO σ k) ∨ (∃ j, 2 * k < j ∧ j < 3 * k + 2 ∧ σ 7 10 = nI j ∧ r = 1 ∧ σ1 = ds1 σ k j) ∨ (∃ j, j ≤ 2 * k ∧ σ 7 10 = nI j ∧ r = 2 ∧ σ1 = ds2 σ j)
def dv (r : Nat) : Int32 := if r < 2 then 1 else 0
def dc (r : Nat) : Int32 := if r = 0 then 0 else 1
theorem Dz.ex {σ : Mem} (hl : lOK (σ 7 10)) (k : Nat) : ∃ r σ1, Dz σ k r σ1 := by
  rcases lGo_or hl (3 * k + 2) with q | ⟨j, q1, q2, q3⟩
  · exact ⟨_, _, Or.inl ⟨q, rfl, rfl⟩⟩
  · rcases Nat.lt_or_ge (2 * k) j with z | z
    · exact ⟨_, _, Or.inr (Or.inl ⟨j, z, q1, q3, rfl, rfl⟩)⟩
    · exact ⟨_, _, Or.inr (Or.inr ⟨j, z, q3, rfl, rfl⟩)⟩
theorem Dz.uniq {σ : Mem} {k r r' : Nat} {σ1 σ2 : Mem} (hk : k ≤ 4) (h : Dz σ k r σ1) (h' : Dz σ k r' σ2) : r = r' ∧ σ1 = σ2 := by
  rcases h with ⟨a1, rfl, rfl⟩ | ⟨j, a1, a2, a3, rfl, rfl⟩ | ⟨j, a1, a3, rfl, rfl⟩ <;> rcases h' with ⟨b1, rfl, rfl⟩ | ⟨i, b1, b2, b3, rfl, rfl⟩ | ⟨i, b1, b3, rfl, rfl⟩
  · exact ⟨rfl, rfl⟩
  · exact absurd a1 (not_lGo b2 (by omega) b3)
  · exact absurd a1 (not_lGo (j := i) (by omega) (by omega) b3)
  · exact absurd b1 (not_lGo a2 (by omega) a3)
  · obtain rfl : i = j := nI_inj (by omega) (by omega) (b3.symm.trans a3)
    exact ⟨rfl, rfl⟩
  · obtain rfl : i = j := nI_inj (by omega) (by omega) (b3.symm.trans a3)
    omega
  · exact absurd b1 (not_lGo (j := j) (by omega) (by omega) a3)
  · obtain rfl : i = j := nI_inj (by omega) (by omega) (b3.symm.trans a3)
    omega
  · obtain rfl : i = j := nI_inj (by omega) (by omega) (b3.symm.trans a3)
    exact ⟨rfl, rfl⟩
theorem Dz.code {σ : Mem} {k r : Nat} {σ1 : Mem} (h : Dz σ k r σ1) : σ1 7 0 = dc r := by
  rcases h with ⟨a1, rfl, rfl⟩ | ⟨j, a1, a2, a3, rfl, rfl⟩ | ⟨j, a1, a3, rfl, rfl⟩ <;> rfl
theorem Dz.ne {σ : Mem} {k r : Nat} {σ1 : Mem} (h : Dz σ k r σ1) (a : Nat) (ha : a ≠ 7) : σ1 a = σ a := by
  rcases h with ⟨a1, rfl, rfl⟩ | ⟨j, a1, a2, a3, rfl, rfl⟩ | ⟨j, a1, a3, rfl, rfl⟩
  · unfold dsO spO; simp only [st_stA]; simp only [stA_ne _ _ ha]
  · unfold ds1 spF; simp only [st_stA]; simp only [stA_ne _ _ ha]
  · unfold ds2 spF; simp only [st_stA]; simp only [stA_ne _ _ ha]
theorem Dz.n {σ : Mem} {k r : Nat} {σ1 : Mem} (h : Dz σ k r σ1) : σ1 7 1 = σ 7 1 := by
  rcases h with ⟨a1, rfl, rfl⟩ | ⟨j, a1, a2, a3, rfl, rfl⟩ | ⟨j, a1, a3, rfl, rfl⟩ <;> rfl
theorem Dz.v0 {r : Nat} (h : dv r = 0) : 2 ≤ r := by
  unfold dv at h
  by_cases q : r < 2
  · rw [if_pos q] at h; exact absurd h (by decide)
  · omega
theorem Dz.v1 {r : Nat} (h : ¬ dv r = 0) : r < 2 := by
  unfold dv at h
  by_cases q : r < 2
  · exact q
  · rw [if_neg q] at h; exact absurd rfl h
theorem dc_0 {r : Nat} (h : dc r ≤ 0) : r = 0 := by
  unfold dc at h
  by_cases q : r = 0
  · exact q
  · rw [if_neg q] at h; exact absurd h (by decide)
theorem dc_1 {r : Nat} (h : ¬ dc r ≤ 0) : r ≠ 0 := by
  rintro rfl
  exact h (by decide)
def ct_M_does : CTy := fun as σ KN _ => ∃ k, as = [.inl (nI k)] ∧ k ≤ 4 ∧ bl (σ 7 11) ∧ lOK (σ 7 10) ∧ ∀ r σ1, Dz σ k r σ1 → KN (some (.inl (dv r))) σ1
theorem s_M_does : Snd y_M_does mi_M_does 7 1 ct_M_does := by
  intro as σ KN KX _ ⟨k, e, hk, hb, hl, h1⟩
  subst e
  rcases lGo_or hl (3 * k + 2) with q | ⟨j, q1, q2, q3⟩
  · exact ⟨.inl (_, _), h1 0 _ (Or.inl ⟨q, rfl, rfl⟩), c_M_does_o σ k hk hb hl q⟩
  · rcases Nat.lt_or_ge (2 * k) j with z | z
    · exact ⟨.inl (_, _), h1 1 _ (Or.inr (Or.inl ⟨j, z, q1, q3, rfl, rfl⟩)), c_M_does_1 σ k j hk hb z q1 q3⟩
    · exact ⟨.inl (_, _), h1 2 _ (Or.inr (Or.inr ⟨j, z, q3, rfl, rfl⟩)), c_M_does_2 σ k j hk hb z q3⟩
end
section
/-! ===== the reference: its arrays as a heap ===== -/
def HL (N : Nat) (ln kd : Nat → Nat) : Prop := pos ln N = 257 ∧ ∀ i, i < N → 3 ≤ ln i ∧ kd i + 1 ≤ ln i
theorem HP.hl {w : Nat → Int32} {N : Nat} {ln kd : Nat → Nat} (h : HP w N ln kd) : HL N ln kd := ⟨h.1, fun i hi => ⟨h.ln3 hi, h.kdl hi⟩⟩
section HL
variable {N : Nat} {ln kd : Nat → Nat}
theorem HL.ln3 (h : HL N ln kd) {i : Nat} (hi : i < N) : 3 ≤ ln i := (h.2 i hi).1
theorem HL.kdl (h : HL N ln kd) {i : Nat} (hi : i < N) : kd i + 1 ≤ ln i := (h.2 i hi).2
theorem HL.end (h : HL N ln kd) {i : Nat} (hi : i < N) : pos ln i + ln i ≤ 257 := by
  have h1 := pos_mono (ln := ln) (i := i + 1) (j := N) hi
  rw [h.1] at h1
  exact h1
theorem HL.N85 (h : HL N ln kd) : N ≤ 85 := by
  have h1 := pos_lo (ln := ln) (fun i hi => h.ln3 hi) N (Nat.le_refl N)
  rw [h.1] at h1
  omega
theorem HL.pos1 (h : HL N ln kd) : 1 ≤ N := by
  rcases Nat.eq_zero_or_pos N with q | q
  · have h1 := h.1
    rw [q] at h1
    exact absurd h1 (by show ¬ 1 = 257; decide)
  · exact q
theorem HL.lt (h : HL N ln kd) {i : Nat} (hi : i < N) : pos ln i ≤ 254 ∧ pos ln i + 1 < 257 ∧ ln i ≤ 256 ∧ kd i < 256 ∧ 1 ≤ pos ln i := by
  have h1 := h.end hi
  have h2 := h.ln3 hi
  have h3 := h.kdl hi
  have h4 := pos_pos ln i
  omega
theorem HL.sep (h : HL N ln kd) {i j : Nat} (hi : i < N) (q : i < j) : pos ln i + ln i ≤ pos ln j := pos_mono (ln := ln) (i := i + 1) (j := j) q
theorem HL.inj (h : HL N ln kd) {i j : Nat} (hi : i < N) (hj : j < N) (e : pos ln i = pos ln j) : i = j := by
  rcases Nat.lt_trichotomy i j with q | q | q
  · have h1 := h.sep hi q
    have h2 := h.ln3 hi
    omega
  · exact q
  · have h1 := h.sep hj q
    have h2 := h.ln3 hj
    omega
theorem HL.uniq (h : HL N ln kd) {i j : Nat} {a : Int32} (h1 : Usd N ln kd i a) (h2 : Usd N ln kd j a) : i = j := by
  have g1 := h.lt h1.1
  have g2 := h.lt h2.1
  have h3 := nI_inj (a := pos ln i + 1) (b := pos ln j + 1) (by omega) (by omega) (h1.2.2.trans h2.2.2.symm)
  exact h.inj h1.1 h2.1 (by omega)
end HL
def ub (k : Nat) : Int32 := if k = 0 then 0 else 1
theorem ub_0 {k : Nat} : ub k = 0 ↔ k = 0 := by
  unfold ub
  by_cases h : k = 0
  · rw [if_pos h]; exact ⟨fun _ => h, fun _ => rfl⟩
  · rw [if_neg h]; exact ⟨fun z => absurd z (by decide), fun z => absurd z h⟩
theorem ub_bl (k : Nat) : bl (ub k) := by
  unfold ub bl
  split
  · exact Or.inl rfl
  · exact Or.inr rfl
def MP (τ : Mem) (N : Nat) (ln kd : Nat → Nat) : Prop := HL N ln kd ∧ τ 7 1 = nI N ∧ ∀ i, i < N → τ 8 i = nI (pos ln i) ∧ τ 9 i = nI (ln i) ∧ τ 10 i = ub (kd i) ∧ (kd i ≠ 0 → τ 11 i = nI (kd i - 1))
theorem MP.cong {σ τ : Mem} {N : Nat} {ln kd : Nat → Nat} (h : MP σ N ln kd) (h1 : τ 7 1 = σ 7 1) (h8 : τ 8 = σ 8) (h9 : τ 9 = σ 9) (h10 : τ 10 = σ 10) (h11 : τ 11 = σ 11) : MP τ N ln kd := by
  refine ⟨h.1, h1.trans h.2.1, fun i hi => ?_⟩
  rw [h8, h9, h10, h11]
  exact h.2.2 i hi
def mi_M_at : MI := (b_M_at, 4, "RootedWordsModel", some .int, 0, tbl_of 47 f_M_at, fl_M, [], [])
theorem ok_M_at : MOK mi_M_at := ⟨tbl_ok k_M_at, flok_M rfl, (fun _ h => absurd h List.not_mem_nil)⟩
theorem si_M_at : ∀ q ∈ m_tr mi_M_at, SiteF mi_M_at q := (fun _ h => absurd h List.not_mem_nil)
theorem c_M_at_loop {X : CT} {oc : OC} (hX : CxO X mi_M_at oc) {σ : Mem} {N : Nat} {ln kd : Nat → Nat} (h : MP σ N ln kd) {a r : Int32} (hr : (∀ e, Usd N ln kd e a → r = nI e) ∧ (¬ Us N ln kd a → r = -1)) (ho : oc = .inl (some (.inl r), σ)) : ∀ (n i : Nat) (f : Int32), i + n = N → (∀ j, j < i → Usd N ln kd j a → f = nI j) → ((∀ j, j < i → ¬ Usd N ln kd j a) → f = -1) →
    Go X mi_M_at 4 [some (.inr (.inl 7)), some (.inl a), some (.inl f), some (.inl (nI i))] [] σ := by
  intro n
  have hN := h.1.N85
  induction n with
  | zero =>
    intro i f hi h1 h2
    obtain rfl : i = N := by omega
    refine Go_run ok_M_at hX [4] 60 (fun K R1 T1 hK hR hT => ?_)
    conv => whnf
    rw [h.2.1]
    refine ⟨fun _ => ?_, fun z => absurd (nI_le (Nat.le_refl _) (by omega)) z⟩
    conv => whnf
    refine hR _ _ ?_
    rw [ho]
    have e : r = f := by
      by_cases q : Us i ln kd a
      · obtain ⟨e, e1, e2, e3⟩ := q
        rw [hr.1 e ⟨e1, e2, e3⟩, h1 e e1 ⟨e1, e2, e3⟩]
      · rw [hr.2 q, h2 (fun j hj hu => q ⟨j, hu.1, hu.2.1, hu.2.2⟩)]
    rw [e]; rfl
  | succ n ih =>
    intro i f hi h1 h2
    have hi' : i < N := by omega
    have g1 := h.1.lt hi'
    obtain ⟨m8, m9, m10, m11⟩ := h.2.2 i hi'
    have e2 : nI i + nI 1 = nI (i + 1) := nI_add i 1
    have e3 : nI (pos ln i) + nI 1 = nI (pos ln i + 1) := nI_add _ _
    have keep : ¬ Usd N ln kd i a → Go X mi_M_at 4 [some (.inr (.inl 7)), some (.inl a), some (.inl f), some (.inl (nI i + nI 1))] [] σ := by
      intro hn
      rw [e2]
      refine ih (i + 1) f (by omega) (fun j hj hu => ?_) (fun hx => h2 (fun j hj => hx j (by omega)))
      rcases Nat.lt_or_ge j i with q | q
      · exact h1 j q hu
      · obtain rfl : j = i := by omega
        exact absurd hu hn
    refine Go_run ok_M_at hX [4] 60 (fun K R1 T1 hK hR hT => ?_)
    conv => whnf
    rw [h.2.1]
    refine ⟨fun z => absurd z (nI_ge hi' (by omega)), fun _ => ?_⟩
    conv => whnf
    refine ⟨vp_in_nI (by omega) (by decide), ?_⟩
    rw [nI_clamp (by omega), m10]
    conv => whnf
    refine ⟨fun z => ?_, fun z => ?_⟩
    · conv => whnf
      exact hK _ _ _ _ (keep (fun hu => hu.2.1 (ub_0.mp z)))
    · conv => whnf
      refine ⟨vp_in_nI (by omega) (by decide), ?_⟩
      rw [nI_clamp (by omega), m8]
      conv => whnf
      rw [e3]
      refine ⟨fun z2 => ?_, fun z2 => ?_⟩
      · conv => whnf
        exact hK _ _ _ _ (keep (fun hu => z2 hu.2.2))
      · conv => whnf
        refine hK _ _ _ _ ?_
        show Go X mi_M_at 4 [some (.inr (.inl 7)), some (.inl a), some (.inl (nI i)), some (.inl (nI i + nI 1))] [] σ
        rw [e2]
        have hu : Usd N ln kd i a := ⟨hi', fun q => z (ub_0.mpr q), z2⟩
        refine ih (i + 1) (nI i) (by omega) (fun j hj hu2 => by rw [h.1.uniq hu hu2]) (fun hx => absurd hu (hx i (by omega)))
theorem c_M_at (σ : Mem) {N : Nat} {ln kd : Nat → Nat} (h : MP σ N ln kd) (a r : Int32) (hr : (∀ e, Usd N ln kd e a → r = nI e) ∧ (¬ Us N ln kd a → r = -1)) : MetO y_M_at mi_M_at [.inr (.inl 7), .inl a] σ (.inl (some (.inl r), σ)) := by
  refine met_go ok_M_at ⟨rfl, rfl⟩ si_M_at (Nat.le_of_ble_eq_true rfl) ⟨trivial, trivial, trivial⟩ [4] 60 (fun X hX K R1 T1 hK hR hT => ?_)
  conv => whnf
  exact hK _ _ _ _ (c_M_at_loop hX h hr rfl N 0 (-1) (by omega) (fun j hj => absurd hj (Nat.not_lt_zero j)) (fun _ => rfl))
def ct_M_at : CTy := fun as σ KN _ => match as with
  | [.inl a] => ∃ N ln kd, MP σ N ln kd ∧ (∀ e, Usd N ln kd e a → KN (some (.inl (nI e))) σ) ∧ (¬ Us N ln kd a → KN (some (.inl (-1))) σ)
  | _ => False
theorem s_M_at : Snd y_M_at mi_M_at 7 1 ct_M_at := by
  intro as σ KN KX _ hf
  match as, hf with
  | [.inl a], ⟨N, ln, kd, h, h1, h2⟩ =>
    by_cases q : Us N ln kd a
    · obtain ⟨e, e1, e2, e3⟩ := q
      exact ⟨.inl (_, _), h1 e ⟨e1, e2, e3⟩, c_M_at σ h a (nI e) ⟨fun e' he' => by rw [h.1.uniq ⟨e1, e2, e3⟩ he'], fun z => absurd ⟨e, e1, e2, e3⟩ z⟩⟩
    · exact ⟨.inl (_, _), h2 q, c_M_at σ h a (-1) ⟨fun e' he' => absurd ⟨e', he'.1, he'.2.1, he'.2.2⟩ q, fun _ => rfl⟩⟩
theorem nI_nm1 {n : Nat} (h : n < 2 ^ 31) : ¬ nI n < 0 := nI_pos h
theorem nI_0le {n : Nat} (h : n < 2 ^ 31) : 0 ≤ nI n := nI_pos' h
def mi_M_isWord : MI := (b_M_isWord, 3, "RootedWordsModel", some .boolean, 0, tbl_of 22 f_M_isWord, fl_M, [], [])
theorem ok_M_isWord : MOK mi_M_isWord := ⟨tbl_ok k_M_isWord, flok_M rfl, (fun _ h => absurd h List.not_mem_nil)⟩
theorem si_M_isWord : ∀ q ∈ m_tr mi_M_isWord, SiteF mi_M_isWord q := (fun _ h => absurd h List.not_mem_nil)
theorem c_M_isWord (σ : Mem) {N : Nat} {ln kd : Nat → Nat} (h : MP σ N ln kd) {e : Nat} (he : e < N) (i r : Int32) (hr : (wd_ok i (ln e) → r = 1) ∧ (¬ wd_ok i (ln e) → r = 0)) : MetO y_M_isWord mi_M_isWord [.inr (.inl 7), .inl (nI e), .inl i] σ (.inl (some (.inl r), σ)) := by
  have hN := h.1.N85
  have g3 := h.1.ln3 he
  obtain ⟨m8, m9, m10, m11⟩ := h.2.2 e he
  refine met_go ok_M_isWord ⟨rfl, rfl⟩ si_M_isWord (Nat.le_of_ble_eq_true rfl) ⟨trivial, trivial, trivial, trivial⟩ [] 60 (fun X hX K R1 T1 hK hR hT => ?_)
  conv => whnf
  refine ⟨fun z => ?_, fun z => ?_⟩
  · conv => whnf
    refine ⟨rfl, hR _ _ ?_⟩
    rw [hr.2 (fun q => q.1 z)]; rfl
  conv => whnf
  refine ⟨vp_in_nI (by omega) (by decide), ?_⟩
  rw [nI_clamp (by omega), m9]
  conv => whnf
  rw [pk_sub (a := ln e) (b := 2) (by omega)]
  refine ⟨fun z2 => ?_, fun z2 => ?_⟩
  · conv => whnf
    refine ⟨rfl, hR _ _ ?_⟩
    rw [hr.2 (fun q => Int32.not_le.mpr q.2 z2)]; rfl
  · conv => whnf
    refine ⟨rfl, hR _ _ ?_⟩
    rw [hr.1 ⟨z, Int32.not_le.mp z2⟩]; rfl
def ct_M_isWord : CTy := fun as σ KN _ => ∃ N ln kd e i, as = [.inl (nI e), .inl i] ∧ MP σ N ln kd ∧ e < N ∧ (wd_ok i (ln e) → KN (some (.inl 1)) σ) ∧ (¬ wd_ok i (ln e) → KN (some (.inl 0)) σ)
theorem s_M_isWord : Snd y_M_isWord mi_M_isWord 7 2 ct_M_isWord := by
  intro as σ KN KX _ ⟨N, ln, kd, e, i, ea, h, he, h1, h2⟩
  subst ea
  by_cases q : wd_ok i (ln e)
  · exact ⟨.inl (_, _), h1 q, c_M_isWord σ h he i 1 ⟨fun _ => rfl, fun z => absurd q z⟩⟩
  · exact ⟨.inl (_, _), h2 q, c_M_isWord σ h he i 0 ⟨fun z => absurd z q, fun _ => rfl⟩⟩
def mi_M_isRoot : MI := (b_M_isRoot, 1, "RootedWordsModel", some .boolean, 0, tbl_of 16 f_M_isRoot, fl_M, [], [])
theorem ok_M_isRoot : MOK mi_M_isRoot := ⟨tbl_ok k_M_isRoot, flok_M rfl, (fun _ h => absurd h List.not_mem_nil)⟩
theorem si_M_isRoot : ∀ q ∈ m_tr mi_M_isRoot, SiteF mi_M_isRoot q := (fun _ h => absurd h List.not_mem_nil)
theorem c_M_isRoot (σ : Mem) (i r : Int32) (hr : (rt_ok i → r = 1) ∧ (¬ rt_ok i → r = 0)) : MetO y_M_isRoot mi_M_isRoot [.inl i] σ (.inl (some (.inl r), σ)) := by
  refine met_go ok_M_isRoot ⟨rfl, rfl⟩ si_M_isRoot (Nat.le_of_ble_eq_true rfl) ⟨trivial, trivial⟩ [] 60 (fun X hX K R1 T1 hK hR hT => ?_)
  conv => whnf
  refine ⟨fun z => ?_, fun z => ?_⟩
  · conv => whnf
    refine ⟨rfl, hR _ _ ?_⟩
    rw [hr.2 (fun q => q.1 z)]; rfl
  conv => whnf
  refine ⟨fun z2 => ?_, fun z2 => ?_⟩
  · conv => whnf
    refine ⟨rfl, hR _ _ ?_⟩
    rw [hr.2 (fun q => Int32.not_le.mpr q.2 z2)]; rfl
  · conv => whnf
    refine ⟨rfl, hR _ _ ?_⟩
    rw [hr.1 ⟨z, Int32.not_le.mp z2⟩]; rfl
def ct_M_isRoot : CTy := fun as σ KN _ => match as with
  | [.inl i] => (rt_ok i → KN (some (.inl 1)) σ) ∧ (¬ rt_ok i → KN (some (.inl 0)) σ)
  | _ => False
theorem s_M_isRoot : SndS y_M_isRoot mi_M_isRoot 1 ct_M_isRoot := by
  intro as σ KN KX _ hf
  match as, hf with
  | [.inl i], ⟨h1, h2⟩ =>
    by_cases q : rt_ok i
    · exact ⟨.inl (_, _), h1 q, c_M_isRoot σ i 1 ⟨fun _ => rfl, fun z => absurd q z⟩⟩
    · exact ⟨.inl (_, _), h2 q, c_M_isRoot σ i 0 ⟨fun z => absurd z q, fun _ => rfl⟩⟩
def mi_M_rootNow : MI := (b_M_rootNow, 2, "RootedWordsModel", some .int, 1, tbl_of 24 f_M_rootNow, fl_M, [(67, (7, 1, ct_M_at))], [])
theorem ok_M_rootNow : MOK mi_M_rootNow := ⟨tbl_ok k_M_rootNow, flok_M rfl, List.forall_mem_cons.mpr ⟨okV 2 (by decide) s_M_at rfl (Nat.le_of_ble_eq_true rfl) (Nat.le_of_ble_eq_true rfl) (by decide +kernel) lk_M_67 vv_M_at, (fun _ h => absurd h List.not_mem_nil)⟩⟩
theorem si_M_rootNow : ∀ q ∈ m_tr mi_M_rootNow, SiteF mi_M_rootNow q := (fun _ h => absurd h List.not_mem_nil)
theorem c_M_rootNow (σ : Mem) {N : Nat} {ln kd : Nat → Nat} (h : MP σ N ln kd) (j : Nat) (hj : j < 8) (r : Int32) (hr : (Us N ln kd (σ 14 j) → r = σ 14 j) ∧ (¬ Us N ln kd (σ 14 j) → r = 0)) : MetO y_M_rootNow mi_M_rootNow [.inr (.inl 7), .inl (nI j)] σ (.inl (some (.inl r), σ)) := by
  have hN := h.1.N85
  refine met_go ok_M_rootNow ⟨rfl, rfl⟩ si_M_rootNow (Nat.le_of_ble_eq_true rfl) ⟨trivial, trivial, trivial⟩ [] 60 (fun X hX K R1 T1 hK hR hT => ?_)
  conv => whnf
  refine ⟨vp_in_nI (by omega) (by decide), ?_⟩
  rw [nI_clamp (by omega)]
  conv => whnf
  refine ⟨N, ln, kd, h, fun e he => ?_, fun q => ?_⟩
  · conv => whnf
    refine ⟨fun _ => ?_, fun z => absurd (nI_0le (by have := he.1; omega)) z⟩
    conv => whnf
    refine ⟨vp_in_nI (by omega) (by decide), ?_⟩
    rw [nI_clamp (by omega)]
    conv => whnf
    refine hR _ _ ?_
    rw [hr.1 ⟨e, he.1, he.2.1, he.2.2⟩]
  · conv => whnf
    refine ⟨fun z => absurd z (by decide), fun _ => ?_⟩
    conv => whnf
    refine hR _ _ ?_
    rw [hr.2 q]; rfl
def ct_M_rootNow : CTy := fun as σ KN _ => ∃ N ln kd j, as = [.inl (nI j)] ∧ MP σ N ln kd ∧ j < 8 ∧ (Us N ln kd (σ 14 j) → KN (some (.inl (σ 14 j))) σ) ∧ (¬ Us N ln kd (σ 14 j) → KN (some (.inl 0)) σ)
theorem s_M_rootNow : Snd y_M_rootNow mi_M_rootNow 7 1 ct_M_rootNow := by
  intro as σ KN KX _ ⟨N, ln, kd, j, e, h, hj, h1, h2⟩
  subst e
  by_cases q : Us N ln kd (σ 14 j)
  · exact ⟨.inl (_, _), h1 q, c_M_rootNow σ h j hj _ ⟨fun _ => rfl, fun z => absurd q z⟩⟩
  · exact ⟨.inl (_, _), h2 q, c_M_rootNow σ h j hj _ ⟨fun z => absurd z q, fun _ => rfl⟩⟩
end
section
/-! ===== the reference: its face, without changes ===== -/
theorem MP.st7 {σ : Mem} {N : Nat} {ln kd : Nat → Nat} (h : MP σ N ln kd) (k : Nat) (v : Int32) (hk : 1 ≠ k) : MP (st σ 7 k v) N ln kd := by
  refine h.cong ?_ rfl rfl rfl rfl
  rw [st_stA, stA_self, upd_n _ _ hk]
theorem Usd.us {N : Nat} {ln kd : Nat → Nat} {e : Nat} {a : Int32} (h : Usd N ln kd e a) : Us N ln kd a := ⟨e, h⟩
theorem cIn {k : Nat} (h : 0 < k) (h2 : k < 1000 := by decide) : ¬ nI k ≤ 0 := fun z => by
  have := (nI_leI (a := k) (b := 0) (by omega) (by decide)).mp z
  omega
theorem c0n : (0 : Int32) ≤ 0 := by decide
def mi_M_order : MI := (b_M_order, 2, "RootedWordsModel", some .boolean, 0, tbl_of 25 f_M_order, fl_M, [], [])
theorem ok_M_order : MOK mi_M_order := ⟨tbl_ok k_M_order, flok_M rfl, (fun _ h => absurd h List.not_mem_nil)⟩
theorem si_M_order : ∀ q ∈ m_tr mi_M_order, SiteF mi_M_order q := (fun _ h => absurd h List.not_mem_nil)
theorem c_M_order_ok (n : Int32) (σ : Mem) (h : or_ok n) : MetO y_M_order mi_M_order [.inr (.inl 7), .inl n] σ (.inl (some (.inl 1), st (st σ 7 0 0) 7 10 n)) := by
  refine met_go ok_M_order ⟨rfl, rfl⟩ si_M_order (Nat.le_of_ble_eq_true rfl) ⟨trivial, trivial, trivial⟩ [] 60 (fun X hX K R1 T1 hK hR hT => ?_)
  conv => whnf
  refine ⟨fun h1 => absurd h1 h.1, fun _ => ?_⟩
  conv => whnf
  refine ⟨fun _ => ?_, fun h1 => absurd h.2 h1⟩
  conv => whnf
  exact ⟨rfl, hR _ _ rfl⟩
theorem c_M_order_no (n : Int32) (σ : Mem) (h : ¬ or_ok n) : MetO y_M_order mi_M_order [.inr (.inl 7), .inl n] σ (.inl (some (.inl 0), st σ 7 0 0)) := by
  refine met_go ok_M_order ⟨rfl, rfl⟩ si_M_order (Nat.le_of_ble_eq_true rfl) ⟨trivial, trivial, trivial⟩ [] 60 (fun X hX K R1 T1 hK hR hT => ?_)
  conv => whnf
  refine ⟨fun _ => ?_, fun h1 => ?_⟩
  · conv => whnf
    exact ⟨rfl, hR _ _ rfl⟩
  · conv => whnf
    refine ⟨fun h2 => absurd ⟨h1, h2⟩ h, fun _ => ?_⟩
    conv => whnf
    exact ⟨rfl, hR _ _ rfl⟩
def mi_M_writes : MI := (b_M_writes, 1, "RootedWordsModel", some .int, 0, tbl_of 10 f_M_writes, fl_M, [], [])
theorem ok_M_writes : MOK mi_M_writes := ⟨tbl_ok k_M_writes, flok_M rfl, (fun _ h => absurd h List.not_mem_nil)⟩
theorem si_M_writes : ∀ q ∈ m_tr mi_M_writes, SiteF mi_M_writes q := (fun _ h => absurd h List.not_mem_nil)
theorem c_M_writes (σ : Mem) : MetO y_M_writes mi_M_writes [.inr (.inl 7)] σ (.inl (some (.inl (σ 7 9)), st σ 7 0 0)) := by
  refine met_go ok_M_writes ⟨rfl, rfl⟩ si_M_writes (Nat.le_of_ble_eq_true rfl) ⟨trivial, trivial⟩ [] 60 (fun X hX K R1 T1 hK hR hT => ?_)
  conv => whnf
  exact hR _ _ rfl
def mi_M_down : MI := (b_M_down, 1, "RootedWordsModel", some .boolean, 0, tbl_of 10 f_M_down, fl_M, [], [])
theorem ok_M_down : MOK mi_M_down := ⟨tbl_ok k_M_down, flok_M rfl, (fun _ h => absurd h List.not_mem_nil)⟩
theorem si_M_down : ∀ q ∈ m_tr mi_M_down, SiteF mi_M_down q := (fun _ h => absurd h List.not_mem_nil)
theorem c_M_down (σ : Mem) (h : bl (σ 7 11)) : MetO y_M_down mi_M_down [.inr (.inl 7)] σ (.inl (some (.inl (σ 7 11)), st σ 7 0 0)) := by
  refine met_go ok_M_down ⟨rfl, rfl⟩ si_M_down (Nat.le_of_ble_eq_true rfl) ⟨trivial, trivial⟩ [] 60 (fun X hX K R1 T1 hK hR hT => ?_)
  conv => whnf
  exact ⟨bl_and h, hR _ _ rfl⟩
def mi_M_root : MI := (b_M_root, 2, "RootedWordsModel", some .int, 2, tbl_of 44 f_M_root, fl_M, [(77, (99, 1, ct_M_isRoot)), (80, (7, 1, ct_M_rootNow))], [])
theorem ok_M_root : MOK mi_M_root := ⟨tbl_ok k_M_root, flok_M rfl, List.forall_mem_cons.mpr ⟨okS s_M_isRoot rfl (Nat.le_of_ble_eq_true rfl) (Nat.le_of_ble_eq_true rfl) (by decide +kernel) lk_M_77 vs_M_isRoot, List.forall_mem_cons.mpr ⟨okV 2 (by decide) s_M_rootNow rfl (Nat.le_of_ble_eq_true rfl) (Nat.le_of_ble_eq_true rfl) (by decide +kernel) lk_M_80 vv_M_rootNow, (fun _ h => absurd h List.not_mem_nil)⟩⟩⟩
theorem si_M_root : ∀ q ∈ m_tr mi_M_root, SiteF mi_M_root q := (fun _ h => absurd h List.not_mem_nil)
theorem c_M_root_down (r : Int32) (σ : Mem) (hd : σ 7 11 = 1) : MetO y_M_root mi_M_root [.inr (.inl 7), .inl r] σ (.inl (some (.inl 0), st σ 7 0 1)) := by
  refine met_go ok_M_root ⟨rfl, rfl⟩ si_M_root (Nat.le_of_ble_eq_true rfl) ⟨trivial, trivial, trivial⟩ [] 60 (fun X hX K R1 T1 hK hR hT => ?_)
  conv => whnf
  refine ⟨fun z => absurd (hd.symm.trans z) (by decide), fun _ => ?_⟩
  conv => whnf
  refine ⟨fun z => absurd z (cIn (k := 1) (by decide)), fun _ => ?_⟩
  conv => whnf
  exact hR _ _ rfl
theorem c_M_root_no (r : Int32) (σ : Mem) (hd : σ 7 11 = 0) (hr : ¬ rt_ok r) : MetO y_M_root mi_M_root [.inr (.inl 7), .inl r] σ (.inl (some (.inl 0), st σ 7 0 2)) := by
  refine met_go ok_M_root ⟨rfl, rfl⟩ si_M_root (Nat.le_of_ble_eq_true rfl) ⟨trivial, trivial, trivial⟩ [] 60 (fun X hX K R1 T1 hK hR hT => ?_)
  conv => whnf
  refine ⟨fun _ => ?_, fun z => absurd hd z⟩
  conv => whnf
  refine ⟨fun h1 => absurd h1 hr, fun _ => ?_⟩
  conv => whnf
  refine ⟨fun _ => ?_, fun z => absurd rfl z⟩
  conv => whnf
  refine ⟨fun z => absurd z (cIn (k := 2) (by decide)), fun _ => ?_⟩
  conv => whnf
  exact hR _ _ rfl
theorem c_M_root_ok (j : Nat) (hj : j < 8) (σ : Mem) (hd : σ 7 11 = 0) {N : Nat} {ln kd : Nat → Nat} (h : MP σ N ln kd) (v : Int32) (hv : (Us N ln kd (σ 14 j) → v = σ 14 j) ∧ (¬ Us N ln kd (σ 14 j) → v = 0)) : MetO y_M_root mi_M_root [.inr (.inl 7), .inl (nI j)] σ (.inl (some (.inl v), st σ 7 0 0)) := by
  have h' := h.st7 0 0 (by decide)
  refine met_go ok_M_root ⟨rfl, rfl⟩ si_M_root (Nat.le_of_ble_eq_true rfl) ⟨trivial, trivial, trivial⟩ [] 60 (fun X hX K R1 T1 hK hR hT => ?_)
  conv => whnf
  refine ⟨fun _ => ?_, fun z => absurd hd z⟩
  conv => whnf
  refine ⟨fun _ => ?_, fun h1 => absurd (rt_okN hj) h1⟩
  conv => whnf
  refine ⟨fun z => absurd z (by decide), fun _ => ?_⟩
  conv => whnf
  refine ⟨fun _ => ?_, fun z => absurd c0n z⟩
  conv => whnf
  refine ⟨N, ln, kd, j, rfl, h', hj, fun q => ?_, fun q => ?_⟩
  · conv => whnf
    refine hR _ _ ?_
    rw [hv.1 q]; rfl
  · conv => whnf
    refine hR _ _ ?_
    rw [hv.2 q]; rfl
def mi_M_extent : MI := (b_M_extent, 2, "RootedWordsModel", some .int, 0, tbl_of 71 f_M_extent, fl_M, [], [])
theorem ok_M_extent : MOK mi_M_extent := ⟨tbl_ok k_M_extent, flok_M rfl, (fun _ h => absurd h List.not_mem_nil)⟩
theorem si_M_extent : ∀ q ∈ m_tr mi_M_extent, SiteF mi_M_extent q := (fun _ h => absurd h List.not_mem_nil)
theorem c_M_extent_down (i : Int32) (σ : Mem) (hd : σ 7 11 = 1) : MetO y_M_extent mi_M_extent [.inr (.inl 7), .inl i] σ (.inl (some (.inl 0), st σ 7 0 1)) := by
  refine met_go ok_M_extent ⟨rfl, rfl⟩ si_M_extent (Nat.le_of_ble_eq_true rfl) ⟨trivial, trivial, trivial⟩ [] 60 (fun X hX K R1 T1 hK hR hT => ?_)
  conv => whnf
  refine ⟨fun z => absurd (hd.symm.trans z) (by decide), fun _ => ?_⟩
  conv => whnf
  refine ⟨fun z => absurd z (cIn (k := 1) (by decide)), fun _ => ?_⟩
  conv => whnf
  exact hR _ _ rfl
theorem c_M_extent_no (i : Int32) (σ : Mem) (hd : σ 7 11 = 0) {N : Nat} {ln kd : Nat → Nat} (h : MP σ N ln kd) (hi : i < 0 ∨ ¬ i < nI N) : MetO y_M_extent mi_M_extent [.inr (.inl 7), .inl i] σ (.inl (some (.inl 0), st σ 7 0 2)) := by
  refine met_go ok_M_extent ⟨rfl, rfl⟩ si_M_extent (Nat.le_of_ble_eq_true rfl) ⟨trivial, trivial, trivial⟩ [] 60 (fun X hX K R1 T1 hK hR hT => ?_)
  conv => whnf
  refine ⟨fun _ => ?_, fun z => absurd hd z⟩
  conv => whnf
  refine ⟨fun z => ?_, fun z => ?_⟩
  · conv => whnf
    refine ⟨fun z => absurd z (cIn (k := 2) (by decide)), fun _ => ?_⟩
    conv => whnf
    exact hR _ _ rfl
  · have hi := hi.resolve_left z
    conv => whnf
    rw [h.2.1]
    refine ⟨fun z => absurd z hi, fun _ => ?_⟩
    conv => whnf
    refine ⟨fun z => absurd z (cIn (k := 2) (by decide)), fun _ => ?_⟩
    conv => whnf
    exact hR _ _ rfl
theorem c_M_extent_ok (k : Nat) (σ : Mem) (hd : σ 7 11 = 0) {N : Nat} {ln kd : Nat → Nat} (h : MP σ N ln kd) (hk : k < N) (v : Int32) (hv : (kd k = 0 → v = -nI (pos ln k + 1)) ∧ (kd k ≠ 0 → v = nI (pos ln k + 1))) : MetO y_M_extent mi_M_extent [.inr (.inl 7), .inl (nI k)] σ (.inl (some (.inl v), st σ 7 0 0)) := by
  have hN := h.1.N85
  have g := h.1.lt hk
  obtain ⟨m8, m9, m10, m11⟩ := h.2.2 k hk
  have e1 : nI (pos ln k) + nI 1 = nI (pos ln k + 1) := nI_add _ _
  have e2 : -nI (pos ln k) - nI 1 = -nI (pos ln k + 1) := by rw [← e1, Int32.neg_add, Int32.sub_eq_add_neg]
  refine met_go ok_M_extent ⟨rfl, rfl⟩ si_M_extent (Nat.le_of_ble_eq_true rfl) ⟨trivial, trivial, trivial⟩ [] 60 (fun X hX K R1 T1 hK hR hT => ?_)
  conv => whnf
  refine ⟨fun _ => ?_, fun z => absurd hd z⟩
  conv => whnf
  refine ⟨fun z => absurd z (nI_pos (by omega)), fun _ => ?_⟩
  conv => whnf
  rw [h.2.1]
  refine ⟨fun _ => ?_, fun z => absurd (nI_lt hk (by omega)) z⟩
  conv => whnf
  refine ⟨fun _ => ?_, fun z => absurd c0n z⟩
  conv => whnf
  refine ⟨vp_in_nI (by omega) (by decide), ?_⟩
  rw [nI_clamp (by omega)]
  have m10 : st σ 7 0 (nI 0) 10 k = ub (kd k) := m10
  have m8 : st σ 7 0 (nI 0) 8 k = nI (pos ln k) := m8
  rw [m10]
  conv => whnf
  refine ⟨fun z => ?_, fun z => ?_⟩
  · conv => whnf
    refine ⟨vp_in_nI (by omega) (by decide), ?_⟩
    rw [nI_clamp (by omega), m8]
    conv => whnf
    refine hR _ _ ?_
    rw [hv.1 (ub_0.mp z), ← e2]; rfl
  · conv => whnf
    refine ⟨vp_in_nI (by omega) (by decide), ?_⟩
    rw [nI_clamp (by omega), m8]
    conv => whnf
    refine hR _ _ ?_
    rw [hv.2 (fun q => z (ub_0.mpr q)), ← e1]; rfl
def mi_M_size : MI := (b_M_size, 4, "RootedWordsModel", some .int, 1, tbl_of 63 f_M_size, fl_M, [(67, (7, 1, ct_M_at))], [])
theorem ok_M_size : MOK mi_M_size := ⟨tbl_ok k_M_size, flok_M rfl, List.forall_mem_cons.mpr ⟨okV 2 (by decide) s_M_at rfl (Nat.le_of_ble_eq_true rfl) (Nat.le_of_ble_eq_true rfl) (by decide +kernel) lk_M_67 vv_M_at, (fun _ h => absurd h List.not_mem_nil)⟩⟩
theorem si_M_size : ∀ q ∈ m_tr mi_M_size, SiteF mi_M_size q := (fun _ h => absurd h List.not_mem_nil)
theorem c_M_size_down (a x : Int32) (σ : Mem) (hd : σ 7 11 = 1) {N : Nat} {ln kd : Nat → Nat} (h : MP σ N ln kd) : MetO y_M_size mi_M_size [.inr (.inl 7), .inl a, .inl x] σ (.inl (some (.inl 0), st σ 7 0 1)) := by
  refine met_go ok_M_size ⟨rfl, rfl⟩ si_M_size (Nat.le_of_ble_eq_true rfl) ⟨trivial, trivial, trivial, trivial⟩ [] 60 (fun X hX K R1 T1 hK hR hT => ?_)
  conv => whnf
  refine ⟨N, ln, kd, h, fun e' he' => ?_, fun q => ?_⟩
  · conv => whnf
    refine ⟨fun z => absurd (hd.symm.trans z) (by decide), fun _ => ?_⟩
    conv => whnf
    refine ⟨fun z => absurd z (cIn (k := 1) (by decide)), fun _ => ?_⟩
    conv => whnf
    exact hR _ _ rfl
  · conv => whnf
    refine ⟨fun z => absurd (hd.symm.trans z) (by decide), fun _ => ?_⟩
    conv => whnf
    refine ⟨fun z => absurd z (cIn (k := 1) (by decide)), fun _ => ?_⟩
    conv => whnf
    exact hR _ _ rfl
theorem c_M_size_no (a x : Int32) (σ : Mem) (hd : σ 7 11 = 0) {N : Nat} {ln kd : Nat → Nat} (h : MP σ N ln kd) (q : ¬ Us N ln kd a) : MetO y_M_size mi_M_size [.inr (.inl 7), .inl a, .inl x] σ (.inl (some (.inl 0), st σ 7 0 2)) := by
  refine met_go ok_M_size ⟨rfl, rfl⟩ si_M_size (Nat.le_of_ble_eq_true rfl) ⟨trivial, trivial, trivial, trivial⟩ [] 60 (fun X hX K R1 T1 hK hR hT => ?_)
  conv => whnf
  refine ⟨N, ln, kd, h, fun e' he' => absurd he'.us q, fun _ => ?_⟩
  conv => whnf
  refine ⟨fun _ => ?_, fun z => absurd hd z⟩
  conv => whnf
  refine ⟨fun z => absurd z (cIn (k := 2) (by decide)), fun _ => ?_⟩
  conv => whnf
  refine ⟨fun z => absurd z (cIn (k := 2) (by decide)), fun _ => ?_⟩
  conv => whnf
  exact hR _ _ rfl
theorem c_M_size_ok (x : Int32) (σ : Mem) (hd : σ 7 11 = 0) {N : Nat} {ln kd : Nat → Nat} (h : MP σ N ln kd) {a : Int32} {e : Nat} (hu : Usd N ln kd e a) (v : Int32) (hv : (x = 0 → v = nI (ln e - 2)) ∧ (x ≠ 0 → v = nI (kd e - 1))) : MetO y_M_size mi_M_size [.inr (.inl 7), .inl a, .inl x] σ (.inl (some (.inl v), st σ 7 0 0)) := by
  have hN := h.1.N85
  have he := hu.1
  have g3 := h.1.ln3 he
  obtain ⟨m8, m9, m10, m11⟩ := h.2.2 e he
  refine met_go ok_M_size ⟨rfl, rfl⟩ si_M_size (Nat.le_of_ble_eq_true rfl) ⟨trivial, trivial, trivial, trivial⟩ [] 60 (fun X hX K R1 T1 hK hR hT => ?_)
  conv => whnf
  refine ⟨N, ln, kd, h, fun e' he' => ?_, fun q => absurd hu.us q⟩
  obtain rfl := h.1.uniq he' hu
  conv => whnf
  refine ⟨fun _ => ?_, fun z => absurd hd z⟩
  conv => whnf
  refine ⟨fun _ => ?_, fun z => absurd (nI_0le (by omega)) z⟩
  conv => whnf
  refine ⟨fun _ => ?_, fun z => absurd c0n z⟩
  conv => whnf
  refine ⟨fun z => ?_, fun z => ?_⟩
  · conv => whnf
    refine ⟨vp_in_nI (by omega) (by decide), ?_⟩
    rw [nI_clamp (by omega)]
    have m11 : st σ 7 0 (nI 0) 11 e' = nI (kd e' - 1) := m11 hu.2.1
    rw [m11]
    conv => whnf
    refine hR _ _ ?_
    rw [hv.2 z]; rfl
  · conv => whnf
    refine ⟨vp_in_nI (by omega) (by decide), ?_⟩
    rw [nI_clamp (by omega)]
    have m9 : st σ 7 0 (nI 0) 9 e' = nI (ln e') := m9
    rw [m9]
    conv => whnf
    refine hR _ _ ?_
    rw [hv.1 z, ← pk_sub (by omega)]; rfl
def mi_M_load : MI := (b_M_load, 4, "RootedWordsModel", some .int, 1, tbl_of 63 f_M_load, fl_M, [(67, (7, 1, ct_M_at)), (73, (7, 2, ct_M_isWord))], [])
theorem ok_M_load : MOK mi_M_load := ⟨tbl_ok k_M_load, flok_M rfl, List.forall_mem_cons.mpr ⟨okV 2 (by decide) s_M_at rfl (Nat.le_of_ble_eq_true rfl) (Nat.le_of_ble_eq_true rfl) (by decide +kernel) lk_M_67 vv_M_at, List.forall_mem_cons.mpr ⟨okV 2 (by decide) s_M_isWord rfl (Nat.le_of_ble_eq_true rfl) (Nat.le_of_ble_eq_true rfl) (by decide +kernel) lk_M_73 vv_M_isWord, (fun _ h => absurd h List.not_mem_nil)⟩⟩⟩
theorem si_M_load : ∀ q ∈ m_tr mi_M_load, SiteF mi_M_load q := (fun _ h => absurd h List.not_mem_nil)
theorem c_M_load_down (a x : Int32) (σ : Mem) (hd : σ 7 11 = 1) {N : Nat} {ln kd : Nat → Nat} (h : MP σ N ln kd) : MetO y_M_load mi_M_load [.inr (.inl 7), .inl a, .inl x] σ (.inl (some (.inl 0), st σ 7 0 1)) := by
  refine met_go ok_M_load ⟨rfl, rfl⟩ si_M_load (Nat.le_of_ble_eq_true rfl) ⟨trivial, trivial, trivial, trivial⟩ [] 60 (fun X hX K R1 T1 hK hR hT => ?_)
  conv => whnf
  refine ⟨N, ln, kd, h, fun e' he' => ?_, fun q => ?_⟩
  · conv => whnf
    refine ⟨fun z => absurd (hd.symm.trans z) (by decide), fun _ => ?_⟩
    conv => whnf
    refine ⟨fun z => absurd z (cIn (k := 1) (by decide)), fun _ => ?_⟩
    conv => whnf
    exact hR _ _ rfl
  · conv => whnf
    refine ⟨fun z => absurd (hd.symm.trans z) (by decide), fun _ => ?_⟩
    conv => whnf
    refine ⟨fun z => absurd z (cIn (k := 1) (by decide)), fun _ => ?_⟩
    conv => whnf
    exact hR _ _ rfl
theorem c_M_load_no (a x : Int32) (σ : Mem) (hd : σ 7 11 = 0) {N : Nat} {ln kd : Nat → Nat} (h : MP σ N ln kd) (q : ¬ Us N ln kd a) : MetO y_M_load mi_M_load [.inr (.inl 7), .inl a, .inl x] σ (.inl (some (.inl 0), st σ 7 0 2)) := by
  refine met_go ok_M_load ⟨rfl, rfl⟩ si_M_load (Nat.le_of_ble_eq_true rfl) ⟨trivial, trivial, trivial, trivial⟩ [] 60 (fun X hX K R1 T1 hK hR hT => ?_)
  conv => whnf
  refine ⟨N, ln, kd, h, fun e' he' => absurd he'.us q, fun _ => ?_⟩
  conv => whnf
  refine ⟨fun _ => ?_, fun z => absurd hd z⟩
  conv => whnf
  refine ⟨fun z => absurd z (cIn (k := 2) (by decide)), fun _ => ?_⟩
  conv => whnf
  refine ⟨fun z => absurd z (cIn (k := 2) (by decide)), fun _ => ?_⟩
  conv => whnf
  exact hR _ _ rfl
theorem c_M_load_word (x : Int32) (σ : Mem) (hd : σ 7 11 = 0) {N : Nat} {ln kd : Nat → Nat} (h : MP σ N ln kd) {a : Int32} {e : Nat} (hu : Usd N ln kd e a) (q : ¬ wd_ok x (ln e)) : MetO y_M_load mi_M_load [.inr (.inl 7), .inl a, .inl x] σ (.inl (some (.inl 0), st σ 7 0 3)) := by
  have hN := h.1.N85
  have he := hu.1
  refine met_go ok_M_load ⟨rfl, rfl⟩ si_M_load (Nat.le_of_ble_eq_true rfl) ⟨trivial, trivial, trivial, trivial⟩ [] 60 (fun X hX K R1 T1 hK hR hT => ?_)
  conv => whnf
  refine ⟨N, ln, kd, h, fun e' he' => ?_, fun q => absurd hu.us q⟩
  obtain rfl := h.1.uniq he' hu
  conv => whnf
  refine ⟨fun _ => ?_, fun z => absurd hd z⟩
  conv => whnf
  refine ⟨fun _ => ?_, fun z => absurd (nI_0le (by omega)) z⟩
  conv => whnf
  refine ⟨N, ln, kd, e', x, rfl, h, he, fun z => absurd z q, fun _ => ?_⟩
  conv => whnf
  refine ⟨fun _ => ?_, fun z => absurd rfl z⟩
  conv => whnf
  refine ⟨fun z => absurd z (cIn (k := 3) (by decide)), fun _ => ?_⟩
  conv => whnf
  exact hR _ _ rfl
theorem c_M_load_ok (j : Nat) (σ : Mem) (hd : σ 7 11 = 0) {N : Nat} {ln kd : Nat → Nat} (h : MP σ N ln kd) {e : Nat} (he : e < N) (hk : kd e ≠ 0) (q : j < ln e - 2) : MetO y_M_load mi_M_load [.inr (.inl 7), .inl (nI (pos ln e + 1)), .inl (nI j)] σ (.inl (some (.inl (σ 13 (pos ln e + 1 + j))), st σ 7 0 0)) := by
  have hN := h.1.N85
  have g := h.1.lt he
  have g4 := h.1.end he
  have hu : Usd N ln kd e (nI (pos ln e + 1)) := ⟨he, hk, rfl⟩
  have e1 : nI (pos ln e + 1) + nI j = nI (pos ln e + 1 + j) := nI_add _ _
  refine met_go ok_M_load ⟨rfl, rfl⟩ si_M_load (Nat.le_of_ble_eq_true rfl) ⟨trivial, trivial, trivial, trivial⟩ [] 60 (fun X hX K R1 T1 hK hR hT => ?_)
  conv => whnf
  refine ⟨N, ln, kd, h, fun e' he' => ?_, fun q => absurd hu.us q⟩
  obtain rfl := h.1.uniq he' hu
  conv => whnf
  refine ⟨fun _ => ?_, fun z => absurd hd z⟩
  conv => whnf
  refine ⟨fun _ => ?_, fun z => absurd (nI_0le (by omega)) z⟩
  conv => whnf
  refine ⟨N, ln, kd, e', nI j, rfl, h, he, fun _ => ?_, fun z => absurd (wd_okN q (by omega)) z⟩
  conv => whnf
  refine ⟨fun z => absurd z (by decide), fun _ => ?_⟩
  conv => whnf
  refine ⟨fun _ => ?_, fun z => absurd c0n z⟩
  conv => whnf
  rw [e1]
  refine ⟨vp_in_nI (by omega) (by decide), ?_⟩
  rw [nI_clamp (by omega)]
  conv => whnf
  exact hR _ _ rfl
def mi_M_freeWords : MI := (b_M_freeWords, 3, "RootedWordsModel", some .int, 0, tbl_of 67 f_M_freeWords, fl_M, [], [])
theorem ok_M_freeWords : MOK mi_M_freeWords := ⟨tbl_ok k_M_freeWords, flok_M rfl, (fun _ h => absurd h List.not_mem_nil)⟩
theorem si_M_freeWords : ∀ q ∈ m_tr mi_M_freeWords, SiteF mi_M_freeWords q := (fun _ h => absurd h List.not_mem_nil)
theorem c_M_freeWords_down (σ : Mem) (hd : σ 7 11 = 1) {N : Nat} {ln kd : Nat → Nat} (h : MP σ N ln kd) : MetO y_M_freeWords mi_M_freeWords [.inr (.inl 7)] σ (.inl (some (.inl 0), st σ 7 0 1)) := by
  have hN := h.1.N85
  have hN1 := h.1.pos1
  refine met_go ok_M_freeWords ⟨rfl, rfl⟩ si_M_freeWords (Nat.le_of_ble_eq_true rfl) ⟨trivial, trivial⟩ [] 60 (fun X hX K R1 T1 hK hR hT => ?_)
  conv => whnf
  refine ⟨fun z => absurd (hd.symm.trans z) (by decide), fun _ => ?_⟩
  conv => whnf
  have m : st σ 7 0 (nI 1) 7 1 = nI N := h.2.1
  rw [m]
  refine ⟨fun z => absurd z (nI_ge (a := 0) (by omega) (by omega)), fun _ => ?_⟩
  conv => whnf
  refine ⟨fun _ => ?_, fun z => absurd z (show ¬ nI 1 = 0 by decide)⟩
  conv => whnf
  exact hR _ _ rfl
theorem c_M_freeWords_loop {X : CT} {oc : OC} (hX : CxO X mi_M_freeWords oc) {σ : Mem} {N : Nat} {ln kd : Nat → Nat} (h : MP σ N ln kd) (hc : σ 7 0 = 0) (ho : oc = .inl (some (.inl (nI (fsum ln kd N))), σ)) : ∀ (n i : Nat), i + n = N →
    Go X mi_M_freeWords 20 [some (.inr (.inl 7)), some (.inl (nI (fsum ln kd i))), some (.inl (nI i))] [] σ := by
  intro n
  have hN := h.1.N85
  induction n with
  | zero =>
    intro i hi
    obtain rfl : i = N := by omega
    refine Go_run ok_M_freeWords hX [20] 60 (fun K R1 T1 hK hR hT => ?_)
    conv => whnf
    rw [h.2.1]
    refine ⟨fun _ => ?_, fun h1 => absurd (nI_le (Nat.le_refl _) (by omega)) h1⟩
    conv => whnf
    exact hR _ _ ho
  | succ n ih =>
    intro i hi
    have hi' : i < N := by omega
    have g1 := h.1.lt hi'
    have g3 := h.1.ln3 hi'
    obtain ⟨m8, m9, m10, m11⟩ := h.2.2 i hi'
    have e2 : nI i + nI 1 = nI (i + 1) := nI_add i 1
    have h9 := ih (i + 1) (by omega)
    unfold fsum at h9
    refine Go_run ok_M_freeWords hX [20] 60 (fun K R1 T1 hK hR hT => ?_)
    conv => whnf
    rw [h.2.1]
    refine ⟨fun h2 => absurd h2 (nI_ge hi' (by omega)), fun _ => ?_⟩
    conv => whnf
    refine ⟨fun h2 => absurd hc h2, fun _ => ?_⟩
    conv => whnf
    refine ⟨vp_in_nI (by omega) (by decide), ?_⟩
    rw [nI_clamp (by omega), m10]
    conv => whnf
    refine ⟨fun h3 => ?_, fun h3 => ?_⟩
    · conv => whnf
      refine ⟨vp_in_nI (by omega) (by decide), ?_⟩
      rw [nI_clamp (by omega), m9]
      conv => whnf
      refine hK _ _ _ _ ?_
      show Go X mi_M_freeWords 20 [some (.inr (.inl 7)), some (.inl (nI (fsum ln kd i) + nI (ln i) - nI 2)), some (.inl (nI i + nI 1))] [] σ
      rw [if_pos (ub_0.mp h3)] at h9
      rw [e2, nI_add, pk_sub (by omega), Nat.add_sub_assoc (by omega)]
      exact h9
    · conv => whnf
      refine hK _ _ _ _ ?_
      show Go X mi_M_freeWords 20 [some (.inr (.inl 7)), some (.inl (nI (fsum ln kd i))), some (.inl (nI i + nI 1))] [] σ
      rw [if_neg (fun z => h3 (ub_0.mpr z))] at h9
      rw [e2]
      exact h9
theorem c_M_freeWords_up (σ : Mem) (hd : σ 7 11 = 0) {N : Nat} {ln kd : Nat → Nat} (h : MP σ N ln kd) : MetO y_M_freeWords mi_M_freeWords [.inr (.inl 7)] σ (.inl (some (.inl (nI (fsum ln kd N))), st σ 7 0 0)) := by
  refine met_go ok_M_freeWords ⟨rfl, rfl⟩ si_M_freeWords (Nat.le_of_ble_eq_true rfl) ⟨trivial, trivial⟩ [20] 60 (fun X hX K R1 T1 hK hR hT => ?_)
  conv => whnf
  refine ⟨fun _ => ?_, fun z => absurd hd z⟩
  conv => whnf
  exact hK _ _ _ _ (c_M_freeWords_loop hX (h.st7 0 0 (by decide)) rfl rfl N 0 (by omega))
def mi_M_largestFree : MI := (b_M_largestFree, 3, "RootedWordsModel", some .int, 0, tbl_of 77 f_M_largestFree, fl_M, [], [])
theorem ok_M_largestFree : MOK mi_M_largestFree := ⟨tbl_ok k_M_largestFree, flok_M rfl, (fun _ h => absurd h List.not_mem_nil)⟩
theorem si_M_largestFree : ∀ q ∈ m_tr mi_M_largestFree, SiteF mi_M_largestFree q := (fun _ h => absurd h List.not_mem_nil)
theorem fmax_le' {N : Nat} {ln kd : Nat → Nat} (h : HL N ln kd) : ∀ i, i ≤ N → fmax ln kd i ≤ 256
  | 0, _ => Nat.zero_le _
  | i + 1, hi => by
    have h1 := fmax_le' h i (by omega)
    have h2 := h.lt (i := i) (by omega)
    unfold fmax
    split
    · exact Nat.max_le.mpr ⟨h1, by omega⟩
    · exact h1
theorem c_M_largestFree_down (σ : Mem) (hd : σ 7 11 = 1) {N : Nat} {ln kd : Nat → Nat} (h : MP σ N ln kd) : MetO y_M_largestFree mi_M_largestFree [.inr (.inl 7)] σ (.inl (some (.inl 0), st σ 7 0 1)) := by
  have hN := h.1.N85
  have hN1 := h.1.pos1
  refine met_go ok_M_largestFree ⟨rfl, rfl⟩ si_M_largestFree (Nat.le_of_ble_eq_true rfl) ⟨trivial, trivial⟩ [] 60 (fun X hX K R1 T1 hK hR hT => ?_)
  conv => whnf
  refine ⟨fun z => absurd (hd.symm.trans z) (by decide), fun _ => ?_⟩
  conv => whnf
  have m : st σ 7 0 (nI 1) 7 1 = nI N := h.2.1
  rw [m]
  refine ⟨fun z => absurd z (nI_ge (a := 0) (by omega) (by omega)), fun _ => ?_⟩
  conv => whnf
  refine ⟨fun _ => ?_, fun z => absurd z (show ¬ nI 1 = 0 by decide)⟩
  conv => whnf
  exact hR _ _ rfl
theorem c_M_largestFree_loop {X : CT} {oc : OC} (hX : CxO X mi_M_largestFree oc) {σ : Mem} {N : Nat} {ln kd : Nat → Nat} (h : MP σ N ln kd) (hc : σ 7 0 = 0) (ho : oc = .inl (some (.inl (nI (fmax ln kd N))), σ)) : ∀ (n i : Nat), i + n = N →
    Go X mi_M_largestFree 20 [some (.inr (.inl 7)), some (.inl (nI (fmax ln kd i))), some (.inl (nI i))] [] σ := by
  intro n
  have hN := h.1.N85
  induction n with
  | zero =>
    intro i hi
    obtain rfl : i = N := by omega
    refine Go_run ok_M_largestFree hX [20] 60 (fun K R1 T1 hK hR hT => ?_)
    conv => whnf
    rw [h.2.1]
    refine ⟨fun _ => ?_, fun h1 => absurd (nI_le (Nat.le_refl _) (by omega)) h1⟩
    conv => whnf
    exact hR _ _ ho
  | succ n ih =>
    intro i hi
    have hi' : i < N := by omega
    have g1 := h.1.lt hi'
    have g3 := h.1.ln3 hi'
    obtain ⟨m8, m9, m10, m11⟩ := h.2.2 i hi'
    have e2 : nI i + nI 1 = nI (i + 1) := nI_add i 1
    have h9 := ih (i + 1) (by omega)
    unfold fmax at h9
    refine Go_run ok_M_largestFree hX [20] 60 (fun K R1 T1 hK hR hT => ?_)
    conv => whnf
    rw [h.2.1]
    refine ⟨fun h2 => absurd h2 (nI_ge hi' (by omega)), fun _ => ?_⟩
    conv => whnf
    refine ⟨fun h2 => absurd hc h2, fun _ => ?_⟩
    conv => whnf
    refine ⟨vp_in_nI (by omega) (by decide), ?_⟩
    rw [nI_clamp (by omega), m10]
    conv => whnf
    have g4 : fmax ln kd i ≤ 256 := fmax_le' h.1 i (by omega)
    refine ⟨fun h3 => ?_, fun h3 => ?_⟩
    · conv => whnf
      refine hK _ _ _ _ ?_
      show Go X mi_M_largestFree 20 [some (.inr (.inl 7)), some (.inl (nI (fmax ln kd i))), some (.inl (nI i + nI 1))] [] σ
      rw [if_neg (fun z => h3 (ub_0.mpr z))] at h9
      rw [e2]
      exact h9
    · have h4 : kd i = 0 := ub_0.mp h3
      rw [if_pos h4] at h9
      conv => whnf
      refine ⟨vp_in_nI (by omega) (by decide), ?_⟩
      rw [nI_clamp (by omega), m9]
      conv => whnf
      rw [pk_sub (a := ln i) (b := 2) (by omega)]
      refine ⟨fun z => ?_, fun z => ?_⟩
      · conv => whnf
        have z1 := (nI_leI (by omega) (by omega)).mp z
        refine hK _ _ _ _ ?_
        show Go X mi_M_largestFree 20 [some (.inr (.inl 7)), some (.inl (nI (fmax ln kd i))), some (.inl (nI i + nI 1))] [] σ
        rw [Nat.max_eq_left z1] at h9
        rw [e2]
        exact h9
      · conv => whnf
        have z1 := (not_congr (nI_leI (a := ln i - 2) (b := fmax ln kd i) (by omega) (by omega))).mp z
        refine ⟨vp_in_nI (by omega) (by decide), ?_⟩
        rw [nI_clamp (by omega), m9]
        conv => whnf
        refine hK _ _ _ _ ?_
        show Go X mi_M_largestFree 20 [some (.inr (.inl 7)), some (.inl (nI (ln i) - nI 2)), some (.inl (nI i + nI 1))] [] σ
        rw [Nat.max_eq_right (by omega)] at h9
        rw [e2, pk_sub (by omega)]
        exact h9
theorem c_M_largestFree_up (σ : Mem) (hd : σ 7 11 = 0) {N : Nat} {ln kd : Nat → Nat} (h : MP σ N ln kd) : MetO y_M_largestFree mi_M_largestFree [.inr (.inl 7)] σ (.inl (some (.inl (nI (fmax ln kd N))), st σ 7 0 0)) := by
  refine met_go ok_M_largestFree ⟨rfl, rfl⟩ si_M_largestFree (Nat.le_of_ble_eq_true rfl) ⟨trivial, trivial⟩ [20] 60 (fun X hX K R1 T1 hK hR hT => ?_)
  conv => whnf
  refine ⟨fun _ => ?_, fun z => absurd hd z⟩
  conv => whnf
  exact hK _ _ _ _ (c_M_largestFree_loop hX (h.st7 0 0 (by decide)) rfl rfl N 0 (by omega))
end
section
/-! ===== the reference: store and setRoot ===== -/
def mi_M_store : MI := (b_M_store, 6, "RootedWordsModel", some .int, 3, tbl_of 123 f_M_store, fl_M, [(59, (7, 1, ct_M_does)), (67, (7, 1, ct_M_at)), (73, (7, 2, ct_M_isWord))], [])
theorem ok_M_store : MOK mi_M_store := ⟨tbl_ok k_M_store, flok_M rfl, List.forall_mem_cons.mpr ⟨okV 2 (by decide) s_M_does rfl (Nat.le_of_ble_eq_true rfl) (Nat.le_of_ble_eq_true rfl) (by decide +kernel) lk_M_59 vv_M_does, List.forall_mem_cons.mpr ⟨okV 2 (by decide) s_M_at rfl (Nat.le_of_ble_eq_true rfl) (Nat.le_of_ble_eq_true rfl) (by decide +kernel) lk_M_67 vv_M_at, List.forall_mem_cons.mpr ⟨okV 2 (by decide) s_M_isWord rfl (Nat.le_of_ble_eq_true rfl) (Nat.le_of_ble_eq_true rfl) (by decide +kernel) lk_M_73 vv_M_isWord, (fun _ h => absurd h List.not_mem_nil)⟩⟩⟩⟩
theorem si_M_store : ∀ q ∈ m_tr mi_M_store, SiteF mi_M_store q := (fun _ h => absurd h List.not_mem_nil)
theorem c_M_store_down (a x w : Int32) (σ : Mem) (hd : σ 7 11 = 1) {N : Nat} {ln kd : Nat → Nat} (h : MP σ N ln kd) : MetO y_M_store mi_M_store [.inr (.inl 7), .inl a, .inl x, .inl w] σ (.inl (some (.inl 0), st σ 7 0 1)) := by
  refine met_go ok_M_store ⟨rfl, rfl⟩ si_M_store (Nat.le_of_ble_eq_true rfl) ⟨trivial, trivial, trivial, trivial, trivial⟩ [] 60 (fun X hX K R1 T1 hK hR hT => ?_)
  conv => whnf
  refine ⟨N, ln, kd, h, fun e' he' => ?_, fun q => ?_⟩
  · conv => whnf
    refine ⟨fun z => absurd (hd.symm.trans z) (by decide), fun _ => ?_⟩
    conv => whnf
    refine ⟨fun z => absurd z (cIn (k := 1) (by decide)), fun _ => ?_⟩
    conv => whnf
    exact hR _ _ rfl
  · conv => whnf
    refine ⟨fun z => absurd (hd.symm.trans z) (by decide), fun _ => ?_⟩
    conv => whnf
    refine ⟨fun z => absurd z (cIn (k := 1) (by decide)), fun _ => ?_⟩
    conv => whnf
    exact hR _ _ rfl
theorem c_M_store_no (a x w : Int32) (σ : Mem) (hd : σ 7 11 = 0) {N : Nat} {ln kd : Nat → Nat} (h : MP σ N ln kd) (q : ¬ Us N ln kd a) : MetO y_M_store mi_M_store [.inr (.inl 7), .inl a, .inl x, .inl w] σ (.inl (some (.inl 0), st σ 7 0 2)) := by
  refine met_go ok_M_store ⟨rfl, rfl⟩ si_M_store (Nat.le_of_ble_eq_true rfl) ⟨trivial, trivial, trivial, trivial, trivial⟩ [] 60 (fun X hX K R1 T1 hK hR hT => ?_)
  conv => whnf
  refine ⟨N, ln, kd, h, fun e' he' => absurd he'.us q, fun _ => ?_⟩
  conv => whnf
  refine ⟨fun _ => ?_, fun z => absurd hd z⟩
  conv => whnf
  refine ⟨fun z => absurd z (by decide), fun _ => ?_⟩
  conv => whnf
  refine ⟨fun z => absurd z (cIn (k := 2) (by decide)), fun _ => ?_⟩
  conv => whnf
  exact hR _ _ rfl
theorem c_M_store_word (x w : Int32) (σ : Mem) (hd : σ 7 11 = 0) {N : Nat} {ln kd : Nat → Nat} (h : MP σ N ln kd) {a : Int32} {e : Nat} (hu : Usd N ln kd e a) (q : ¬ wd_ok x (ln e)) : MetO y_M_store mi_M_store [.inr (.inl 7), .inl a, .inl x, .inl w] σ (.inl (some (.inl 0), st σ 7 0 3)) := by
  have hN := h.1.N85
  have he := hu.1
  refine met_go ok_M_store ⟨rfl, rfl⟩ si_M_store (Nat.le_of_ble_eq_true rfl) ⟨trivial, trivial, trivial, trivial, trivial⟩ [] 60 (fun X hX K R1 T1 hK hR hT => ?_)
  conv => whnf
  refine ⟨N, ln, kd, h, fun e' he' => ?_, fun q => absurd hu.us q⟩
  obtain rfl := h.1.uniq he' hu
  conv => whnf
  refine ⟨fun _ => ?_, fun z => absurd hd z⟩
  conv => whnf
  refine ⟨fun _ => ?_, fun z => absurd (nI_0le (by omega)) z⟩
  conv => whnf
  refine ⟨N, ln, kd, e', x, rfl, h, he, fun z => absurd z q, fun _ => ?_⟩
  conv => whnf
  refine ⟨fun z => absurd rfl z, fun _ => ?_⟩
  conv => whnf
  refine ⟨fun z => absurd z (cIn (k := 3) (by decide)), fun _ => ?_⟩
  conv => whnf
  exact hR _ _ rfl
theorem c_M_store_ptr (j : Nat) (w : Int32) (σ : Mem) (hd : σ 7 11 = 0) {N : Nat} {ln kd : Nat → Nat} (h : MP σ N ln kd) {a : Int32} {e : Nat} (hu : Usd N ln kd e a) (q : j < ln e - 2) (hj : j + 1 < kd e) (hw : w ≠ 0) (hw2 : ¬ Us N ln kd w) : MetO y_M_store mi_M_store [.inr (.inl 7), .inl a, .inl (nI j), .inl w] σ (.inl (some (.inl 0), st σ 7 0 4)) := by
  have hN := h.1.N85
  have he := hu.1
  have g := h.1.lt he
  obtain ⟨m8, m9, m10, m11⟩ := h.2.2 e he
  refine met_go ok_M_store ⟨rfl, rfl⟩ si_M_store (Nat.le_of_ble_eq_true rfl) ⟨trivial, trivial, trivial, trivial, trivial⟩ [69] 60 (fun X hX K R1 T1 hK hR hT => ?_)
  conv => whnf
  refine ⟨N, ln, kd, h, fun e' he' => ?_, fun q => absurd hu.us q⟩
  obtain rfl := h.1.uniq he' hu
  conv => whnf
  refine ⟨fun _ => ?_, fun z => absurd hd z⟩
  conv => whnf
  refine ⟨fun _ => ?_, fun z => absurd (nI_0le (by omega)) z⟩
  conv => whnf
  refine ⟨N, ln, kd, e', nI j, rfl, h, he, fun _ => ?_, fun z => absurd (wd_okN q (by omega)) z⟩
  conv => whnf
  refine ⟨fun _ => ?_, fun z => absurd z (by decide)⟩
  conv => whnf
  refine ⟨vp_in_nI (by omega) (by decide), ?_⟩
  rw [nI_clamp (by omega), m11 hu.2.1]
  conv => whnf
  refine ⟨fun z => absurd z (nI_ge (by omega) (by omega)), fun _ => ?_⟩
  conv => whnf
  refine ⟨fun z => absurd z hw, fun _ => ?_⟩
  conv => whnf
  refine ⟨N, ln, kd, h, fun e2 he2 => absurd he2.us hw2, fun _ => ?_⟩
  conv => whnf
  refine ⟨fun z => absurd z (by decide), fun _ => ?_⟩
  conv => whnf
  refine ⟨fun z => absurd z (cIn (k := 4) (by decide)), fun _ => ?_⟩
  conv => whnf
  exact hR _ _ rfl
theorem c_M_store_69 {X : CT} {oc : OC} (hX : CxO X mi_M_store oc) {σ : Mem} (hb : bl (σ 7 11)) (hl : lOK (σ 7 10)) {r : Nat} {σ1 : Mem} (hds : Dz (st σ 7 0 (nI 0)) 1 r σ1) (a j : Nat) (w : Int32) (x y : Option AV) (ha : a + j < 257) (ho : oc = .inl (some (.inl (if r = 0 then σ 13 (a + j) else 0)), if r < 2 then st σ1 13 (a + j) w else σ1)) : Go X mi_M_store 69 [some (.inr (.inl 7)), some (.inl (nI a)), some (.inl (nI j)), some (.inl w), x, y] [.inr (.inl 7)] σ := by
  have e1 : nI a + nI j = nI (a + j) := nI_add a j
  refine Go_run ok_M_store hX [] 80 (fun K R1 T1 hK hR hT => ?_)
  conv => whnf
  refine ⟨fun _ => ?_, fun z => absurd c0n z⟩
  conv => whnf
  rw [e1]
  refine ⟨vp_in_nI (by omega) (by decide), ?_⟩
  rw [nI_clamp (by omega)]
  conv => whnf
  refine ⟨1, rfl, by decide, hb, hl, fun r' σ' hd' => ?_⟩
  obtain ⟨rfl, rfl⟩ := Dz.uniq (by decide) hds hd'
  conv => whnf
  refine ⟨fun z => ?_, fun z => ?_⟩
  · have z2 := Dz.v0 z
    conv => whnf
    rw [hds.code]
    refine ⟨fun z => absurd (dc_0 z) (by omega), fun _ => ?_⟩
    conv => whnf
    refine hR _ _ ?_
    rw [ho, if_neg (by omega), if_neg (by omega)]; rfl
  · have z2 := Dz.v1 z
    conv => whnf
    rw [e1]
    refine ⟨vp_in_nI (by omega) (by decide), ?_⟩
    rw [nI_clamp (by omega)]
    conv => whnf
    have hc : st σ1 13 (a + j) w 7 0 = dc r := hds.code
    rw [hc]
    refine ⟨fun z => ?_, fun z => ?_⟩
    · conv => whnf
      refine hR _ _ ?_
      rw [ho, if_pos (dc_0 z), if_pos z2]; rfl
    · conv => whnf
      refine hR _ _ ?_
      rw [ho, if_neg (dc_1 z), if_pos z2]; rfl
theorem c_M_store_ok (j : Nat) (w : Int32) (σ : Mem) (hd : σ 7 11 = 0) (hl : lOK (σ 7 10)) {N : Nat} {ln kd : Nat → Nat} (h : MP σ N ln kd) {e : Nat} (he : e < N) (hk : kd e ≠ 0) (q : j < ln e - 2) (hp : j + 1 < kd e → w ≠ 0 → Us N ln kd w) {r : Nat} {σ1 : Mem} (hds : Dz (st σ 7 0 (nI 0)) 1 r σ1) :
    MetO y_M_store mi_M_store [.inr (.inl 7), .inl (nI (pos ln e + 1)), .inl (nI j), .inl w] σ (.inl (some (.inl (if r = 0 then σ 13 (pos ln e + 1 + j) else 0)), if r < 2 then st σ1 13 (pos ln e + 1 + j) w else σ1)) := by
  have hN := h.1.N85
  have hu : Usd N ln kd e (nI (pos ln e + 1)) := ⟨he, hk, rfl⟩
  have g := h.1.lt he
  have g4 := h.1.end he
  obtain ⟨m8, m9, m10, m11⟩ := h.2.2 e he
  refine met_go ok_M_store ⟨rfl, rfl⟩ si_M_store (Nat.le_of_ble_eq_true rfl) ⟨trivial, trivial, trivial, trivial, trivial⟩ [69] 60 (fun X hX K R1 T1 hK hR hT => ?_)
  have h69 := fun x y => c_M_store_69 hX (Or.inl hd) hl hds (pos ln e + 1) j w x y (by omega) rfl
  conv => whnf
  refine ⟨N, ln, kd, h, fun e' he' => ?_, fun q => absurd hu.us q⟩
  obtain rfl := h.1.uniq he' hu
  conv => whnf
  refine ⟨fun _ => ?_, fun z => absurd hd z⟩
  conv => whnf
  refine ⟨fun _ => ?_, fun z => absurd (nI_0le (by omega)) z⟩
  conv => whnf
  refine ⟨N, ln, kd, e', nI j, rfl, h, he, fun _ => ?_, fun z => absurd (wd_okN q (by omega)) z⟩
  conv => whnf
  refine ⟨fun _ => ?_, fun z => absurd z (by decide)⟩
  conv => whnf
  refine ⟨vp_in_nI (by omega) (by decide), ?_⟩
  rw [nI_clamp (by omega), m11 hu.2.1]
  conv => whnf
  refine ⟨fun _ => ?_, fun z => ?_⟩
  · conv => whnf
    exact hK _ _ _ _ (h69 _ _)
  have z1 := (not_congr (nI_leI (a := kd e' - 1) (b := j) (by omega) (by omega))).mp z
  conv => whnf
  refine ⟨fun _ => ?_, fun z2 => ?_⟩
  · conv => whnf
    exact hK _ _ _ _ (h69 _ _)
  conv => whnf
  refine ⟨N, ln, kd, h, fun e2 he2 => ?_, fun q2 => absurd (hp (by omega) z2) q2⟩
  have he3 := he2.1
  conv => whnf
  refine ⟨fun _ => ?_, fun z => absurd (nI_0le (by omega)) z⟩
  conv => whnf
  exact hK _ _ _ _ (h69 _ _)
def mi_M_setRoot : MI := (b_M_setRoot, 4, "RootedWordsModel", some .int, 3, tbl_of 86 f_M_setRoot, fl_M, [(59, (7, 1, ct_M_does)), (67, (7, 1, ct_M_at)), (77, (99, 1, ct_M_isRoot)), (80, (7, 1, ct_M_rootNow))], [])
theorem ok_M_setRoot : MOK mi_M_setRoot := ⟨tbl_ok k_M_setRoot, flok_M rfl, List.forall_mem_cons.mpr ⟨okV 2 (by decide) s_M_does rfl (Nat.le_of_ble_eq_true rfl) (Nat.le_of_ble_eq_true rfl) (by decide +kernel) lk_M_59 vv_M_does, List.forall_mem_cons.mpr ⟨okV 2 (by decide) s_M_at rfl (Nat.le_of_ble_eq_true rfl) (Nat.le_of_ble_eq_true rfl) (by decide +kernel) lk_M_67 vv_M_at, List.forall_mem_cons.mpr ⟨okS s_M_isRoot rfl (Nat.le_of_ble_eq_true rfl) (Nat.le_of_ble_eq_true rfl) (by decide +kernel) lk_M_77 vs_M_isRoot, List.forall_mem_cons.mpr ⟨okV 2 (by decide) s_M_rootNow rfl (Nat.le_of_ble_eq_true rfl) (Nat.le_of_ble_eq_true rfl) (by decide +kernel) lk_M_80 vv_M_rootNow, (fun _ h => absurd h List.not_mem_nil)⟩⟩⟩⟩⟩
theorem si_M_setRoot : ∀ q ∈ m_tr mi_M_setRoot, SiteF mi_M_setRoot q := (fun _ h => absurd h List.not_mem_nil)
theorem c_M_setRoot_down (x w : Int32) (σ : Mem) (hd : σ 7 11 = 1) : MetO y_M_setRoot mi_M_setRoot [.inr (.inl 7), .inl x, .inl w] σ (.inl (some (.inl 0), st σ 7 0 1)) := by
  refine met_go ok_M_setRoot ⟨rfl, rfl⟩ si_M_setRoot (Nat.le_of_ble_eq_true rfl) ⟨trivial, trivial, trivial, trivial⟩ [] 60 (fun X hX K R1 T1 hK hR hT => ?_)
  conv => whnf
  refine ⟨fun z => absurd (hd.symm.trans z) (by decide), fun _ => ?_⟩
  conv => whnf
  refine ⟨fun z => absurd z (cIn (k := 1) (by decide)), fun _ => ?_⟩
  conv => whnf
  exact hR _ _ rfl
theorem c_M_setRoot_no (x w : Int32) (σ : Mem) (hd : σ 7 11 = 0) (hr : ¬ rt_ok x) : MetO y_M_setRoot mi_M_setRoot [.inr (.inl 7), .inl x, .inl w] σ (.inl (some (.inl 0), st σ 7 0 2)) := by
  refine met_go ok_M_setRoot ⟨rfl, rfl⟩ si_M_setRoot (Nat.le_of_ble_eq_true rfl) ⟨trivial, trivial, trivial, trivial⟩ [] 60 (fun X hX K R1 T1 hK hR hT => ?_)
  conv => whnf
  refine ⟨fun _ => ?_, fun z => absurd hd z⟩
  conv => whnf
  refine ⟨fun z => absurd z hr, fun _ => ?_⟩
  conv => whnf
  refine ⟨fun z => absurd rfl z, fun _ => ?_⟩
  conv => whnf
  refine ⟨fun z => absurd z (cIn (k := 2) (by decide)), fun _ => ?_⟩
  conv => whnf
  exact hR _ _ rfl
theorem c_M_setRoot_bad (j : Nat) (hj : j < 8) (w : Int32) (σ : Mem) (hd : σ 7 11 = 0) {N : Nat} {ln kd : Nat → Nat} (h : MP σ N ln kd) (hw : w ≠ 0) (hw2 : ¬ Us N ln kd w) : MetO y_M_setRoot mi_M_setRoot [.inr (.inl 7), .inl (nI j), .inl w] σ (.inl (some (.inl 0), st σ 7 0 3)) := by
  refine met_go ok_M_setRoot ⟨rfl, rfl⟩ si_M_setRoot (Nat.le_of_ble_eq_true rfl) ⟨trivial, trivial, trivial, trivial⟩ [39] 60 (fun X hX K R1 T1 hK hR hT => ?_)
  conv => whnf
  refine ⟨fun _ => ?_, fun z => absurd hd z⟩
  conv => whnf
  refine ⟨fun _ => ?_, fun z => absurd (rt_okN hj) z⟩
  conv => whnf
  refine ⟨fun _ => ?_, fun z => absurd z (by decide)⟩
  conv => whnf
  refine ⟨fun z => absurd z hw, fun _ => ?_⟩
  conv => whnf
  refine ⟨N, ln, kd, h, fun e2 he2 => absurd he2.us hw2, fun _ => ?_⟩
  conv => whnf
  refine ⟨fun z => absurd z (by decide), fun _ => ?_⟩
  conv => whnf
  refine ⟨fun z => absurd z (cIn (k := 3) (by decide)), fun _ => ?_⟩
  conv => whnf
  exact hR _ _ rfl
theorem c_M_setRoot_39 {X : CT} {oc : OC} (hX : CxO X mi_M_setRoot oc) {σ : Mem} (hb : bl (σ 7 11)) (hl : lOK (σ 7 10)) {N : Nat} {ln kd : Nat → Nat} (h : MP σ N ln kd) {r : Nat} {σ1 : Mem} (hds : Dz (st σ 7 0 (nI 0)) 1 r σ1) (j : Nat) (hj : j < 8) (w : Int32) (v : Int32) (hv : (Us N ln kd (σ 14 j) → v = σ 14 j) ∧ (¬ Us N ln kd (σ 14 j) → v = 0)) (y : Option AV) (ho : oc = .inl (some (.inl (if r = 0 then v else 0)), if r < 2 then st σ1 14 j w else σ1)) : Go X mi_M_setRoot 39 [some (.inr (.inl 7)), some (.inl (nI j)), some (.inl w), y] [.inr (.inl 7)] σ := by
  have h' := h.st7 0 (nI 0) (by decide)
  have tail : ∀ σ2 (u : Int32), u = v → σ2 7 0 = dc r → (if r < 2 then st σ1 14 j w else σ1) = σ2 → Go X mi_M_setRoot 73 [some (.inr (.inl 7)), some (.inl (nI j)), some (.inl w), some (.inl u)] [] σ2 := by
    intro σ2 u hu hc2 he2
    subst hu
    refine Go_run ok_M_setRoot hX [] 80 (fun K R1 T1 hK hR hT => ?_)
    conv => whnf
    rw [hc2]
    refine ⟨fun z => ?_, fun z => ?_⟩
    · conv => whnf
      refine hR _ _ ?_
      rw [ho, if_pos (dc_0 z), he2]; rfl
    · conv => whnf
      refine hR _ _ ?_
      rw [ho, if_neg (dc_1 z), he2]; rfl
  have rest : ∀ u : Int32, u = v → Go X mi_M_setRoot 58 [some (.inr (.inl 7)), some (.inl (nI j)), some (.inl w), some (.inl u)] [] (st σ 7 0 (nI 0)) := by
    intro u hu
    refine Go_run ok_M_setRoot hX [73] 80 (fun K R1 T1 hK hR hT => ?_)
    conv => whnf
    refine ⟨1, rfl, by decide, hb, hl, fun r' σ' hd' => ?_⟩
    obtain ⟨rfl, rfl⟩ := Dz.uniq (by decide) hds hd'
    conv => whnf
    refine ⟨fun z => ?_, fun z => ?_⟩
    · have z2 := Dz.v0 z
      conv => whnf
      exact hK _ _ _ _ (tail σ1 u hu hds.code (if_neg (by omega)))
    · have z2 := Dz.v1 z
      conv => whnf
      refine ⟨vp_in_nI (by omega) (by decide), ?_⟩
      rw [nI_clamp (by omega)]
      conv => whnf
      exact hK _ _ _ _ (tail (st σ1 14 j w) u hu hds.code (if_pos z2))
  refine Go_run ok_M_setRoot hX [58] 80 (fun K R1 T1 hK hR hT => ?_)
  conv => whnf
  refine ⟨fun _ => ?_, fun z => absurd c0n z⟩
  conv => whnf
  refine ⟨N, ln, kd, j, rfl, h', hj, fun q => ?_, fun q => ?_⟩
  · conv => whnf
    exact hK _ _ _ _ (rest _ (hv.1 q).symm)
  · conv => whnf
    exact hK _ _ _ _ (rest _ (hv.2 q).symm)
theorem c_M_setRoot_ok (j : Nat) (hj : j < 8) (w : Int32) (σ : Mem) (hd : σ 7 11 = 0) (hl : lOK (σ 7 10)) {N : Nat} {ln kd : Nat → Nat} (h : MP σ N ln kd) (hp : w ≠ 0 → Us N ln kd w) {r : Nat} {σ1 : Mem} (hds : Dz (st σ 7 0 (nI 0)) 1 r σ1) (v : Int32) (hv : (Us N ln kd (σ 14 j) → v = σ 14 j) ∧ (¬ Us N ln kd (σ 14 j) → v = 0)) :
    MetO y_M_setRoot mi_M_setRoot [.inr (.inl 7), .inl (nI j), .inl w] σ (.inl (some (.inl (if r = 0 then v else 0)), if r < 2 then st σ1 14 j w else σ1)) := by
  have hN := h.1.N85
  refine met_go ok_M_setRoot ⟨rfl, rfl⟩ si_M_setRoot (Nat.le_of_ble_eq_true rfl) ⟨trivial, trivial, trivial, trivial⟩ [39] 60 (fun X hX K R1 T1 hK hR hT => ?_)
  have h39 := fun y => c_M_setRoot_39 hX (Or.inl hd) hl h hds j hj w v hv y rfl
  conv => whnf
  refine ⟨fun _ => ?_, fun z => absurd hd z⟩
  conv => whnf
  refine ⟨fun _ => ?_, fun z => absurd (rt_okN hj) z⟩
  conv => whnf
  refine ⟨fun _ => ?_, fun z => absurd z (by decide)⟩
  conv => whnf
  refine ⟨fun _ => ?_, fun z2 => ?_⟩
  · conv => whnf
    exact hK _ _ _ _ (h39 _)
  conv => whnf
  refine ⟨N, ln, kd, h, fun e2 he2 => ?_, fun q2 => absurd (hp z2) q2⟩
  have he3 := he2.1
  conv => whnf
  refine ⟨fun _ => ?_, fun z => absurd (nI_0le (by omega)) z⟩
  conv => whnf
  exact hK _ _ _ _ (h39 _)
end
section
/-! ===== the heap, abstractly: extents joined, an extent cut ===== -/
theorem pos_cong {ln ln' : Nat → Nat} : ∀ i, (∀ j, j < i → ln' j = ln j) → pos ln' i = pos ln i
  | 0, _ => rfl
  | i + 1, h => by
    show pos ln' i + ln' i = pos ln i + ln i
    rw [pos_cong i (fun j hj => h j (by omega)), h i (by omega)]
theorem pos_shift {ln ln' : Nat → Nat} {a b : Nat} (h0 : pos ln' a = pos ln b) : ∀ n, (∀ j, j < n → ln' (a + j) = ln (b + j)) → pos ln' (a + n) = pos ln (b + n)
  | 0, _ => h0
  | n + 1, h => by
    show pos ln' (a + n) + ln' (a + n) = pos ln (b + n) + ln (b + n)
    rw [pos_shift h0 n (fun j hj => h j (by omega)), h n (by omega)]
/-- the extents from one to another one become one that is free -/
def jln (ln : Nat → Nat) (fr to : Nat) : Nat → Nat := fun i => if i < fr then ln i else if i = fr then pos ln (to + 1) - pos ln fr else ln (i + (to - fr))
def jkd (kd : Nat → Nat) (fr to : Nat) : Nat → Nat := fun i => if i < fr then kd i else if i = fr then 0 else kd (i + (to - fr))
/-- an extent cut behind so many words, and used with such a kind -/
def xln (ln : Nat → Nat) (e m : Nat) : Nat → Nat := fun i => if i < e then ln i else if i = e then m else if i = e + 1 then ln e - m else ln (i - 1)
def xkd (kd : Nat → Nat) (e k : Nat) : Nat → Nat := fun i => if i < e then kd i else if i = e then k else if i = e + 1 then 0 else kd (i - 1)
/-- an extent that is used with such a kind -/
def ukd (kd : Nat → Nat) (e k : Nat) : Nat → Nat := fun i => if i = e then k else kd i
section jn
variable {ln kd : Nat → Nat} {fr to : Nat}
theorem jln_lo {i : Nat} (h : i < fr) : jln ln fr to i = ln i := if_pos h
theorem jln_at : jln ln fr to fr = pos ln (to + 1) - pos ln fr := by unfold jln; rw [if_neg (Nat.lt_irrefl _), if_pos rfl]
theorem jln_hi {i : Nat} (h : fr < i) : jln ln fr to i = ln (i + (to - fr)) := by unfold jln; rw [if_neg (by omega), if_neg (by omega)]
theorem jkd_lo {i : Nat} (h : i < fr) : jkd kd fr to i = kd i := if_pos h
theorem jkd_at : jkd kd fr to fr = 0 := by unfold jkd; rw [if_neg (Nat.lt_irrefl _), if_pos rfl]
theorem jkd_hi {i : Nat} (h : fr < i) : jkd kd fr to i = kd (i + (to - fr)) := by unfold jkd; rw [if_neg (by omega), if_neg (by omega)]
theorem jpos_lo {i : Nat} (h : i ≤ fr) : pos (jln ln fr to) i = pos ln i := pos_cong i (fun j hj => jln_lo (by omega))
theorem jpos_hi (hft : fr ≤ to) {i : Nat} (h : fr < i) : pos (jln ln fr to) i = pos ln (i + (to - fr)) := by
  have h1 : pos (jln ln fr to) (fr + 1) = pos ln (to + 1) := by
    show pos (jln ln fr to) fr + jln ln fr to fr = _
    rw [jpos_lo (Nat.le_refl _), jln_at]
    have := pos_mono (ln := ln) (i := fr) (j := to + 1) (by omega)
    omega
  have h2 := pos_shift (ln' := jln ln fr to) (a := fr + 1) (b := to + 1) h1 (i - (fr + 1)) (fun j hj => by
    rw [jln_hi (by omega)]
    have : fr + 1 + j + (to - fr) = to + 1 + j := by omega
    rw [this])
  have e1 : fr + 1 + (i - (fr + 1)) = i := by omega
  have e2 : to + 1 + (i - (fr + 1)) = i + (to - fr) := by omega
  rw [e1, e2] at h2
  exact h2
theorem jlen (h : ∀ i, fr ≤ i → i ≤ to → 3 ≤ ln i) (hft : fr ≤ to) : 3 ≤ pos ln (to + 1) - pos ln fr ∧ pos ln fr + (pos ln (to + 1) - pos ln fr) = pos ln (to + 1) := by
  have h1 := pos_mono (ln := ln) (i := fr) (j := to) hft
  have h2 := h to hft (Nat.le_refl _)
  have h3 : pos ln (to + 1) = pos ln to + ln to := rfl
  omega
theorem HL.jn {N : Nat} (h : HL N ln kd) (hft : fr ≤ to) (ht : to < N) : HL (N - (to - fr)) (jln ln fr to) (jkd kd fr to) := by
  have h3 := jlen (ln := ln) (fr := fr) (to := to) (fun i _ h2 => h.ln3 (by omega)) hft
  refine ⟨?_, fun i hi => ?_⟩
  · rw [jpos_hi hft (by omega), Nat.sub_add_cancel (by omega)]
    exact h.1
  · rcases Nat.lt_trichotomy i fr with q | q | q
    · rw [jln_lo q, jkd_lo q]; exact h.2 i (by omega)
    · subst q
      rw [jln_at, jkd_at]; omega
    · rw [jln_hi q, jkd_hi q]; exact h.2 _ (by omega)
/-- the words behind a change of the tags at both ends of a row -/
theorem HP.jn {w v : Nat → Int32} {N : Nat} (h : HP w N ln kd) (hft : fr ≤ to) (ht : to < N) (hv1 : v (pos ln fr) = nI (256 * (pos ln (to + 1) - pos ln fr))) (hv2 : v (pos ln (to + 1) - 1) = nI (256 * (pos ln (to + 1) - pos ln fr)))
    (hv : ∀ i, i < N → (i < fr ∨ to < i) → v (pos ln i) = w (pos ln i) ∧ v (pos ln i + ln i - 1) = w (pos ln i + ln i - 1)) : HP v (N - (to - fr)) (jln ln fr to) (jkd kd fr to) := by
  have h3 := jlen (ln := ln) (fr := fr) (to := to) (fun i _ h2 => h.ln3 (by omega)) hft
  have h4 := HL.jn h.hl hft ht
  refine ⟨h4.1, fun i hi => ⟨h4.ln3 hi, h4.kdl hi, ?_⟩⟩
  rcases Nat.lt_trichotomy i fr with q | q | q
  · rw [jln_lo q, jkd_lo q, jpos_lo (by omega)]
    have h5 := hv i (by omega) (Or.inl q)
    rw [h5.1, h5.2]
    exact ⟨h.tag (by omega), h.tag2 (by omega)⟩
  · subst q
    rw [jln_at, jkd_at, jpos_lo (Nat.le_refl _), h3.2, hv1, hv2]
    exact ⟨rfl, rfl⟩
  · rw [jln_hi q, jkd_hi q, jpos_hi hft q]
    have h5 := hv (i + (to - fr)) (by omega) (Or.inr (by omega))
    rw [h5.1, h5.2]
    exact ⟨h.tag (by omega), h.tag2 (by omega)⟩
end jn
section xn
variable {ln kd : Nat → Nat} {e m k : Nat}
theorem xln_lo {i : Nat} (h : i < e) : xln ln e m i = ln i := if_pos h
theorem xln_at : xln ln e m e = m := by unfold xln; rw [if_neg (Nat.lt_irrefl _), if_pos rfl]
theorem xln_a1 : xln ln e m (e + 1) = ln e - m := by unfold xln; rw [if_neg (by omega), if_neg (by omega), if_pos rfl]
theorem xln_hi {i : Nat} (h : e + 1 < i) : xln ln e m i = ln (i - 1) := by unfold xln; rw [if_neg (by omega), if_neg (by omega), if_neg (by omega)]
theorem xkd_lo {i : Nat} (h : i < e) : xkd kd e k i = kd i := if_pos h
theorem xkd_at : xkd kd e k e = k := by unfold xkd; rw [if_neg (Nat.lt_irrefl _), if_pos rfl]
theorem xkd_a1 : xkd kd e k (e + 1) = 0 := by unfold xkd; rw [if_neg (by omega), if_neg (by omega), if_pos rfl]
theorem xkd_hi {i : Nat} (h : e + 1 < i) : xkd kd e k i = kd (i - 1) := by unfold xkd; rw [if_neg (by omega), if_neg (by omega), if_neg (by omega)]
theorem xpos_lo {i : Nat} (h : i ≤ e) : pos (xln ln e m) i = pos ln i := pos_cong i (fun j hj => xln_lo (by omega))
theorem xpos_a1 : pos (xln ln e m) (e + 1) = pos ln e + m := by
  show pos (xln ln e m) e + xln ln e m e = _
  rw [xpos_lo (Nat.le_refl _), xln_at]
theorem xpos_hi (hm : m ≤ ln e) {i : Nat} (h : e + 1 < i) : pos (xln ln e m) i = pos ln (i - 1) := by
  have h1 : pos (xln ln e m) (e + 2) = pos ln (e + 1) := by
    show pos (xln ln e m) (e + 1) + xln ln e m (e + 1) = pos ln e + ln e
    rw [xpos_a1, xln_a1]
    omega
  have h2 := pos_shift (ln' := xln ln e m) (a := e + 2) (b := e + 1) h1 (i - (e + 2)) (fun j hj => by
    rw [xln_hi (by omega)]
    have : e + 2 + j - 1 = e + 1 + j := by omega
    rw [this])
  have e1 : e + 2 + (i - (e + 2)) = i := by omega
  have e2 : e + 1 + (i - (e + 2)) = i - 1 := by omega
  rw [e1, e2] at h2
  exact h2
theorem HL.xn {N : Nat} (h : HL N ln kd) (he : e < N) (hm : 3 ≤ m) (hk : k + 1 ≤ m) (hm2 : m + 3 ≤ ln e) : HL (N + 1) (xln ln e m) (xkd kd e k) := by
  refine ⟨?_, fun i hi => ?_⟩
  · rw [xpos_hi (by omega) (by omega)]
    exact h.1
  · rcases Nat.lt_trichotomy i e with q | q | q
    · rw [xln_lo q, xkd_lo q]; exact h.2 i (by omega)
    · subst q
      rw [xln_at, xkd_at]; omega
    · rcases Nat.lt_or_ge (e + 1) i with q2 | q2
      · rw [xln_hi q2, xkd_hi q2]; exact h.2 _ (by omega)
      · obtain rfl : i = e + 1 := by omega
        rw [xln_a1, xkd_a1]; omega
theorem HP.xn {w v : Nat → Int32} {N : Nat} (h : HP w N ln kd) (he : e < N) (hm : 3 ≤ m) (hk : k + 1 ≤ m) (hm2 : m + 3 ≤ ln e) (hv1 : v (pos ln e) = nI (256 * m + k)) (hv2 : v (pos ln e + m - 1) = nI (256 * m + k)) (hv3 : v (pos ln e + m) = nI (256 * (ln e - m))) (hv4 : v (pos ln e + ln e - 1) = nI (256 * (ln e - m)))
    (hv : ∀ i, i < N → i ≠ e → v (pos ln i) = w (pos ln i) ∧ v (pos ln i + ln i - 1) = w (pos ln i + ln i - 1)) : HP v (N + 1) (xln ln e m) (xkd kd e k) := by
  have h4 := HL.xn h.hl he hm hk hm2
  refine ⟨h4.1, fun i hi => ⟨h4.ln3 hi, h4.kdl hi, ?_⟩⟩
  rcases Nat.lt_trichotomy i e with q | q | q
  · rw [xln_lo q, xkd_lo q, xpos_lo (by omega)]
    have h5 := hv i (by omega) (by omega)
    rw [h5.1, h5.2]
    exact ⟨h.tag (by omega), h.tag2 (by omega)⟩
  · subst q
    rw [xln_at, xkd_at, xpos_lo (Nat.le_refl _)]
    exact ⟨hv1, hv2⟩
  · rcases Nat.lt_or_ge (e + 1) i with q2 | q2
    · rw [xln_hi q2, xkd_hi q2, xpos_hi (by omega) q2]
      have h5 := hv (i - 1) (by omega) (by omega)
      rw [h5.1, h5.2]
      exact ⟨h.tag (by omega), h.tag2 (by omega)⟩
    · obtain rfl : i = e + 1 := by omega
      rw [xln_a1, xkd_a1, xpos_a1]
      have e1 : pos ln e + m + (ln e - m) - 1 = pos ln e + ln e - 1 := by omega
      rw [e1, hv3, hv4]
      exact ⟨rfl, rfl⟩
theorem HL.un {N : Nat} (h : HL N ln kd) (he : e < N) (hk : k + 1 ≤ ln e) : HL N ln (ukd kd e k) := by
  refine ⟨h.1, fun i hi => ⟨h.ln3 hi, ?_⟩⟩
  unfold ukd
  by_cases q : i = e
  · rw [if_pos q, q]; exact hk
  · rw [if_neg q]; exact h.kdl hi
theorem HP.un {w v : Nat → Int32} {N : Nat} (h : HP w N ln kd) (he : e < N) (hk : k + 1 ≤ ln e) (hv1 : v (pos ln e) = nI (256 * ln e + k)) (hv2 : v (pos ln e + ln e - 1) = nI (256 * ln e + k))
    (hv : ∀ i, i < N → i ≠ e → v (pos ln i) = w (pos ln i) ∧ v (pos ln i + ln i - 1) = w (pos ln i + ln i - 1)) : HP v N ln (ukd kd e k) := by
  have h4 := HL.un h.hl he hk
  refine ⟨h4.1, fun i hi => ⟨h4.ln3 hi, h4.kdl hi, ?_⟩⟩
  unfold ukd
  by_cases q : i = e
  · subst q; rw [if_pos rfl]; exact ⟨hv1, hv2⟩
  · rw [if_neg q, (hv i hi q).1, (hv i hi q).2]
    exact ⟨h.tag hi, h.tag2 hi⟩
end xn
end
section
/-! ===== the reference: extents joined, an extent cut ===== -/
theorem st_id (σ : Mem) (o k : Nat) : st σ o k (σ o k) = σ := by
  rw [st_stA]
  have : upd (σ o) k (σ o k) = σ o := by
    funext j
    unfold upd
    split
    · rename_i h; rw [h]
    · rfl
  rw [this, stA_id]
theorem st_st (σ : Mem) (o k : Nat) (v v' : Int32) : st (st σ o k v) o k v' = st σ o k v' := by
  rw [st_stA, st_stA, st_stA, stA_stA, stA_self]
  congr 1
  funext j
  unfold upd
  split <;> rfl
/-- the model's five rows -/
def ar (τ : Mem) (A B C D E : Nat → Int32) : Mem := fun a => if a = 8 then A else if a = 9 then B else if a = 10 then C else if a = 11 then D else if a = 12 then E else τ a
theorem ar_self (σ : Mem) : ar σ (σ 8) (σ 9) (σ 10) (σ 11) (σ 12) = σ := by
  funext a
  unfold ar
  by_cases h8 : a = 8
  · rw [if_pos h8, h8]
  rw [if_neg h8]
  by_cases h9 : a = 9
  · rw [if_pos h9, h9]
  rw [if_neg h9]
  by_cases h10 : a = 10
  · rw [if_pos h10, h10]
  rw [if_neg h10]
  by_cases h11 : a = 11
  · rw [if_pos h11, h11]
  rw [if_neg h11]
  by_cases h12 : a = 12
  · rw [if_pos h12, h12]
  rw [if_neg h12]
theorem ar_ne (τ : Mem) (A B C D E : Nat → Int32) (a : Nat) (h8 : a ≠ 8) (h9 : a ≠ 9) (h10 : a ≠ 10) (h11 : a ≠ 11) (h12 : a ≠ 12) : ar τ A B C D E a = τ a := by
  unfold ar
  rw [if_neg h8, if_neg h9, if_neg h10, if_neg h11, if_neg h12]
section ar
variable (τ : Mem) (A B C D E : Nat → Int32) (k : Nat) (v : Int32)
theorem ar_8 : st (ar τ A B C D E) 8 k v = ar τ (upd A k v) B C D E := by
  funext a
  by_cases h : a = 8
  · subst h; rfl
  · rw [st_ne _ _ _ h]; unfold ar; simp only [if_neg h]
theorem ar_9 : st (ar τ A B C D E) 9 k v = ar τ A (upd B k v) C D E := by
  funext a
  by_cases h : a = 9
  · subst h; rfl
  · rw [st_ne _ _ _ h]; unfold ar; simp only [if_neg h]
theorem ar_10 : st (ar τ A B C D E) 10 k v = ar τ A B (upd C k v) D E := by
  funext a
  by_cases h : a = 10
  · subst h; rfl
  · rw [st_ne _ _ _ h]; unfold ar; simp only [if_neg h]
theorem ar_11 : st (ar τ A B C D E) 11 k v = ar τ A B C (upd D k v) E := by
  funext a
  by_cases h : a = 11
  · subst h; rfl
  · rw [st_ne _ _ _ h]; unfold ar; simp only [if_neg h]
theorem ar_12 : st (ar τ A B C D E) 12 k v = ar τ A B C D (upd E k v) := by
  funext a
  by_cases h : a = 12
  · subst h; rfl
  · rw [st_ne _ _ _ h]; unfold ar; simp only [if_neg h]
theorem ar_7 : st (ar τ A B C D E) 7 k v = ar (st τ 7 k v) A B C D E := by
  funext a
  by_cases h : a = 7
  · subst h; rfl
  · rw [st_ne _ _ _ h]; unfold ar; rw [st_ne _ _ _ h]
end ar
/-- a row moved down by g behind fr, as far as n -/
def shF (f : Nat → Int32) (fr g n : Nat) : Nat → Int32 := fun j => if fr < j ∧ j < n then f (j + g) else f j
theorem shF_0 (f : Nat → Int32) (fr g : Nat) : shF f fr g (fr + 1) = f := by
  funext j
  exact if_neg (fun h => by omega)
theorem shF_r (f : Nat → Int32) (fr g e : Nat) : shF f fr g e (e + g) = f (e + g) := if_neg (fun h => by omega)
theorem shF_s (f : Nat → Int32) {fr g e : Nat} (h : fr < e) : upd (shF f fr g e) e (f (e + g)) = shF f fr g (e + 1) := by
  funext j
  unfold upd shF
  by_cases q : j = e
  · rw [if_pos q, if_pos (by omega), q]
  · rw [if_neg q]
    by_cases q2 : fr < j ∧ j < e
    · rw [if_pos q2, if_pos (by omega)]
    · rw [if_neg q2, if_neg (by omega)]
theorem shF_lo (f : Nat → Int32) {fr g n j : Nat} (h : j ≤ fr) : shF f fr g n j = f j := if_neg (fun z => by omega)
theorem shF_hi (f : Nat → Int32) {fr g n j : Nat} (h : fr < j) (h2 : j < n) : shF f fr g n j = f (j + g) := if_pos ⟨h, h2⟩
theorem shF_bl {f : Nat → Int32} (h : ∀ j, bl (f j)) (fr g n j : Nat) : bl (shF f fr g n j) := by
  unfold shF
  split
  · exact h _
  · exact h _
def jnM (σ : Mem) (ln : Nat → Nat) (fr to N : Nat) : Mem := ar (st σ 7 1 (nI (N - (to - fr)))) (shF (σ 8) fr (to - fr) (N - (to - fr))) (shF (upd (σ 9) fr (nI (pos ln (to + 1) - pos ln fr))) fr (to - fr) (N - (to - fr))) (shF (upd (σ 10) fr 0) fr (to - fr) (N - (to - fr))) (shF (σ 11) fr (to - fr) (N - (to - fr))) (shF (σ 12) fr (to - fr) (N - (to - fr)))
theorem jnM_ne (σ : Mem) (ln : Nat → Nat) (fr to N a : Nat) (h7 : a ≠ 7) (h8 : a ≠ 8) (h9 : a ≠ 9) (h10 : a ≠ 10) (h11 : a ≠ 11) (h12 : a ≠ 12) : jnM σ ln fr to N a = σ a := by
  unfold jnM
  rw [ar_ne _ _ _ _ _ _ a h8 h9 h10 h11 h12, st_ne _ _ _ h7]
theorem jnM_7 (σ : Mem) (ln : Nat → Nat) (fr to N k : Nat) (h : k ≠ 1) : jnM σ ln fr to N 7 k = σ 7 k := by
  show upd (σ 7) 1 _ k = σ 7 k
  exact upd_n _ _ h
theorem MP.jn {σ : Mem} {N : Nat} {ln kd : Nat → Nat} (h : MP σ N ln kd) {fr to : Nat} (hft : fr ≤ to) (ht : to < N) : MP (jnM σ ln fr to N) (N - (to - fr)) (jln ln fr to) (jkd kd fr to) := by
  refine ⟨h.1.jn hft ht, rfl, fun i hi => ?_⟩
  show shF (σ 8) fr (to - fr) (N - (to - fr)) i = _ ∧ shF (upd (σ 9) fr (nI (pos ln (to + 1) - pos ln fr))) fr (to - fr) (N - (to - fr)) i = _ ∧ shF (upd (σ 10) fr 0) fr (to - fr) (N - (to - fr)) i = _ ∧ (_ → shF (σ 11) fr (to - fr) (N - (to - fr)) i = _)
  rcases Nat.lt_trichotomy i fr with q | q | q
  · obtain ⟨m8, m9, m10, m11⟩ := h.2.2 i (by omega)
    rw [shF_lo _ (by omega), shF_lo _ (by omega), shF_lo _ (by omega), shF_lo _ (by omega), upd_n _ _ (by omega), upd_n _ _ (by omega), jln_lo q, jkd_lo q, jpos_lo (by omega)]
    exact ⟨m8, m9, m10, m11⟩
  · subst q
    obtain ⟨m8, m9, m10, m11⟩ := h.2.2 i (by omega)
    rw [shF_lo _ (by omega), shF_lo _ (by omega), shF_lo _ (by omega), shF_lo _ (by omega), upd_s, upd_s, jln_at, jkd_at, jpos_lo (by omega)]
    exact ⟨m8, rfl, rfl, fun z => absurd rfl z⟩
  · obtain ⟨m8, m9, m10, m11⟩ := h.2.2 (i + (to - fr)) (by omega)
    rw [shF_hi _ q hi, shF_hi _ q hi, shF_hi _ q hi, shF_hi _ q hi, upd_n _ _ (by omega), upd_n _ _ (by omega), jln_hi q, jkd_hi q, jpos_hi hft q]
    exact ⟨m8, m9, m10, m11⟩
def mi_M_join : MI := (b_M_join, 5, "RootedWordsModel", none, 0, tbl_of 159 f_M_join, fl_M, [], [])
theorem ok_M_join : MOK mi_M_join := ⟨tbl_ok k_M_join, flok_M rfl, (fun _ h => absurd h List.not_mem_nil)⟩
theorem si_M_join : ∀ q ∈ m_tr mi_M_join, SiteF mi_M_join q := (fun _ h => absurd h List.not_mem_nil)
theorem c_M_join_63 {X : CT} {oc : OC} (hX : CxO X mi_M_join oc) (τ : Mem) (A B C D E : Nat → Int32) (fr g n' : Nat) (a2 : Option AV) (hn : τ 7 1 = nI n') (hg : n' + g ≤ 86) (hC : ∀ j, j < n' + g → bl (C j)) (hE : ∀ j, bl (E j))
    (ho : oc = .inl (none, ar τ (shF A fr g n') (shF B fr g n') (shF C fr g n') (shF D fr g n') (shF E fr g n'))) : ∀ (n e : Nat), e + n = n' → fr < e →
    Go X mi_M_join 63 [some (.inr (.inl 7)), some (.inl (nI fr)), a2, some (.inl (nI g)), some (.inl (nI e))] [] (ar τ (shF A fr g e) (shF B fr g e) (shF C fr g e) (shF D fr g e) (shF E fr g e)) := by
  intro n
  induction n with
  | zero =>
    intro e he hfe
    obtain rfl : e = n' := by omega
    refine Go_run ok_M_join hX [63] 80 (fun K R1 T1 hK hR hT => ?_)
    conv => whnf
    have hn' : ar τ (shF A fr g e) (shF B fr g e) (shF C fr g e) (shF D fr g e) (shF E fr g e) 7 1 = nI e := hn
    rw [hn']
    refine ⟨fun _ => ?_, fun z => absurd (nI_le (Nat.le_refl _) (by omega)) z⟩
    conv => whnf
    exact hR _ _ ho
  | succ n ih =>
    intro e he hfe
    have e2 : nI e + nI 1 = nI (e + 1) := nI_add e 1
    have e3 : nI e + nI g = nI (e + g) := nI_add e g
    refine Go_run ok_M_join hX [63] 120 (fun K R1 T1 hK hR hT => ?_)
    conv => whnf
    have hn' : ar τ (shF A fr g e) (shF B fr g e) (shF C fr g e) (shF D fr g e) (shF E fr g e) 7 1 = nI n' := hn
    rw [hn']
    refine ⟨fun z => absurd z (nI_ge (by omega) (by omega)), fun _ => ?_⟩
    conv => whnf
    rw [e3]
    refine ⟨vp_in_nI (by omega) (by decide), ?_⟩
    rw [nI_clamp (by omega)]
    conv => whnf
    refine ⟨vp_in_nI (by omega) (by decide), ?_⟩
    rw [nI_clamp (by omega)]
    conv => whnf
    rw [e3]
    refine ⟨vp_in_nI (by omega) (by decide), ?_⟩
    rw [nI_clamp (by omega)]
    conv => whnf
    refine ⟨vp_in_nI (by omega) (by decide), ?_⟩
    rw [nI_clamp (by omega)]
    conv => whnf
    rw [e3]
    refine ⟨vp_in_nI (by omega) (by decide), ?_⟩
    rw [nI_clamp (by omega)]
    conv => whnf
    refine ⟨vp_in_nI (by omega) (by decide), ?_⟩
    rw [nI_clamp (by omega)]
    conv => whnf
    rw [e3]
    refine ⟨vp_in_nI (by omega) (by decide), ?_⟩
    rw [nI_clamp (by omega)]
    conv => whnf
    refine ⟨vp_in_nI (by omega) (by decide), ?_⟩
    rw [nI_clamp (by omega)]
    conv => whnf
    rw [e3]
    refine ⟨vp_in_nI (by omega) (by decide), ?_⟩
    rw [nI_clamp (by omega)]
    conv => whnf
    refine ⟨vp_in_nI (by omega) (by decide), ?_⟩
    rw [nI_clamp (by omega)]
    conv => whnf
    refine hK _ _ _ _ ?_
    show Go X mi_M_join 63 [some (.inr (.inl 7)), some (.inl (nI fr)), a2, some (.inl (nI g)), some (.inl (nI e + nI 1))] [] (st (st (st (st (st (ar τ (shF A fr g e) (shF B fr g e) (shF C fr g e) (shF D fr g e) (shF E fr g e)) 8 e (shF A fr g e (e + g))) 9 e (shF B fr g e (e + g))) 10 e (shF C fr g e (e + g) &&& 1)) 11 e (shF D fr g e (e + g))) 12 e (shF E fr g e (e + g) &&& 1))
    rw [e2, shF_r, shF_r, shF_r, shF_r, shF_r, bl_and (hC _ (by omega)), bl_and (hE _), ar_8, ar_9, ar_10, ar_11, ar_12, shF_s _ hfe, shF_s _ hfe, shF_s _ hfe, shF_s _ hfe, shF_s _ hfe]
    exact ih (e + 1) (by omega) (by omega)
theorem c_M_join_9 {X : CT} {oc : OC} (hX : CxO X mi_M_join oc) (σ : Mem) {N : Nat} {ln kd : Nat → Nat} (h : MP σ N ln kd) {fr to : Nat} (hft : fr ≤ to) (ht : to < N) (hm : ∀ j, bl (σ 12 j)) (ho : oc = .inl (none, jnM σ ln fr to N)) : ∀ (n e : Nat), e + n = to + 1 → fr < e →
    Go X mi_M_join 9 [some (.inr (.inl 7)), some (.inl (nI fr)), some (.inl (nI to)), some (.inl (nI (to - fr))), some (.inl (nI e))] [] (st σ 9 fr (nI (pos ln e - pos ln fr))) := by
  have hN := h.1.N85
  intro n
  induction n with
  | zero =>
    intro e he hfe
    obtain rfl : e = to + 1 := by omega
    have hx : st σ 9 fr (nI (pos ln (to + 1) - pos ln fr)) 7 1 = nI N := h.2.1
    have e2 : nI fr + nI 1 = nI (fr + 1) := nI_add _ _
    have e3 : nI N - nI (to - fr) = nI (N - (to - fr)) := pk_sub (by omega)
    have h63 := fun a2 => c_M_join_63 hX (st σ 7 1 (nI (N - (to - fr)))) (σ 8) (upd (σ 9) fr (nI (pos ln (to + 1) - pos ln fr))) (upd (σ 10) fr 0) (σ 11) (σ 12) fr (to - fr) (N - (to - fr)) a2 rfl (by omega) (fun j hj => ?_) hm ho (N - (to - fr) - (fr + 1)) (fr + 1) (by omega) (by omega)
    · rw [shF_0, shF_0, shF_0, shF_0, shF_0] at h63
      refine Go_run ok_M_join hX [63] 80 (fun K R1 T1 hK hR hT => ?_)
      conv => whnf
      refine ⟨fun _ => ?_, fun z => absurd (nI_lt (by omega) (by omega)) z⟩
      conv => whnf
      refine ⟨vp_in_nI (by omega) (by decide), ?_⟩
      rw [nI_clamp (by omega)]
      conv => whnf
      refine hK _ _ _ _ ?_
      show Go X mi_M_join 63 [some (.inr (.inl 7)), some (.inl (nI fr)), some (.inl (nI to)), some (.inl (nI (to - fr))), some (.inl (nI fr + nI 1))] [] (st (st (st σ 9 fr (nI (pos ln (to + 1) - pos ln fr))) 10 fr (nI 0 &&& 1)) 7 1 (st σ 9 fr (nI (pos ln (to + 1) - pos ln fr)) 7 1 - nI (to - fr)))
      rw [e2, hx, e3]
      have e4 : st (st (st σ 9 fr (nI (pos ln (to + 1) - pos ln fr))) 10 fr (nI 0 &&& 1)) 7 1 (nI (N - (to - fr))) = ar (st σ 7 1 (nI (N - (to - fr)))) (σ 8) (upd (σ 9) fr (nI (pos ln (to + 1) - pos ln fr))) (upd (σ 10) fr 0) (σ 11) (σ 12) := by
        conv => lhs; rw [← ar_self σ]
        rw [ar_9, ar_10, ar_7]; rfl
      rw [e4]
      exact h63 _
    · unfold upd
      split
      · exact Or.inl rfl
      · rw [(h.2.2 j (by omega)).2.2.1]; exact ub_bl _
  | succ n ih =>
    intro e he hfe
    have e2 : nI e + nI 1 = nI (e + 1) := nI_add e 1
    have he' : e < N := by omega
    have p1 := pos_mono (ln := ln) (i := fr) (j := e) (by omega)
    have r1 : st σ 9 fr (nI (pos ln e - pos ln fr)) 9 fr = nI (pos ln e - pos ln fr) := upd_s _ _ _
    have r2 : st σ 9 fr (nI (pos ln e - pos ln fr)) 9 e = nI (ln e) := (upd_n (σ 9) _ (by omega)).trans (h.2.2 e he').2.1
    refine Go_run ok_M_join hX [9] 80 (fun K R1 T1 hK hR hT => ?_)
    conv => whnf
    refine ⟨fun z => absurd z (nI_nlt (by omega) (by omega)), fun _ => ?_⟩
    conv => whnf
    refine ⟨vp_in_nI (by omega) (by decide), ?_⟩
    rw [nI_clamp (by omega), r1]
    conv => whnf
    refine ⟨vp_in_nI (by omega) (by decide), ?_⟩
    rw [nI_clamp (by omega), r2]
    conv => whnf
    refine ⟨vp_in_nI (by omega) (by decide), ?_⟩
    rw [nI_clamp (by omega)]
    conv => whnf
    refine hK _ _ _ _ ?_
    show Go X mi_M_join 9 [some (.inr (.inl 7)), some (.inl (nI fr)), some (.inl (nI to)), some (.inl (nI (to - fr))), some (.inl (nI e + nI 1))] [] (st (st σ 9 fr (nI (pos ln e - pos ln fr))) 9 fr (nI (pos ln e - pos ln fr) + nI (ln e)))
    have e3 : nI (pos ln e - pos ln fr) + nI (ln e) = nI (pos ln (e + 1) - pos ln fr) := by
      rw [nI_add]
      exact nI_eqI (by show _ = pos ln e + ln e - pos ln fr; omega)
    rw [e2, st_st, e3]
    exact ih (e + 1) (by omega) (by omega)
theorem c_M_join (σ : Mem) {N : Nat} {ln kd : Nat → Nat} (h : MP σ N ln kd) {fr to : Nat} (hft : fr ≤ to) (ht : to < N) (hm : ∀ j, bl (σ 12 j)) : MetO y_M_join mi_M_join [.inr (.inl 7), .inl (nI fr), .inl (nI to)] σ (.inl (none, jnM σ ln fr to N)) := by
  have hN := h.1.N85
  have e2 : nI fr + nI 1 = nI (fr + 1) := nI_add _ _
  have e3 : nI to - nI fr = nI (to - fr) := pk_sub hft
  refine met_go ok_M_join ⟨rfl, rfl⟩ si_M_join (Nat.le_of_ble_eq_true rfl) ⟨trivial, trivial, trivial, trivial⟩ [9] 60 (fun X hX K R1 T1 hK hR hT => ?_)
  conv => whnf
  refine hK _ _ _ _ ?_
  show Go X mi_M_join 9 [some (.inr (.inl 7)), some (.inl (nI fr)), some (.inl (nI to)), some (.inl (nI to - nI fr)), some (.inl (nI fr + nI 1))] [] σ
  rw [e2, e3]
  have h9 := c_M_join_9 hX σ h hft ht hm rfl (to - fr) (fr + 1) (by omega) (by omega)
  have e4 : nI (pos ln (fr + 1) - pos ln fr) = σ 9 fr := by
    rw [(h.2.2 fr (by omega)).2.1]
    exact nI_eqI (by show pos ln fr + ln fr - pos ln fr = _; omega)
  rw [e4, st_id] at h9
  exact h9
def ct_M_join : CTy := fun as σ KN _ => ∃ N ln kd fr to, as = [.inl (nI fr), .inl (nI to)] ∧ MP σ N ln kd ∧ fr ≤ to ∧ to < N ∧ (∀ j, bl (σ 12 j)) ∧ KN none (jnM σ ln fr to N)
theorem s_M_join : Snd y_M_join mi_M_join 7 2 ct_M_join := by
  intro as σ KN KX _ ⟨N, ln, kd, fr, to, e, h, h1, h2, h3, h4⟩
  subst e
  exact ⟨.inl (_, _), h4, c_M_join σ h h1 h2 h3⟩
/-- a row moved up by one behind e, from k on -/
def suF (f : Nat → Int32) (k N : Nat) : Nat → Int32 := fun j => if k < j ∧ j ≤ N then f (j - 1) else f j
theorem suF_N (f : Nat → Int32) (N : Nat) : suF f N N = f := by
  funext j
  exact if_neg (fun h => by omega)
theorem suF_r (f : Nat → Int32) (k N : Nat) : suF f (k + 1) N k = f k := if_neg (fun h => by omega)
theorem suF_s (f : Nat → Int32) {k N : Nat} (h : k + 1 ≤ N) : upd (suF f (k + 1) N) (k + 1) (f k) = suF f k N := by
  funext j
  unfold upd suF
  by_cases q : j = k + 1
  · rw [if_pos q, if_pos (by omega), q]; rfl
  · rw [if_neg q]
    by_cases q2 : k + 1 < j ∧ j ≤ N
    · rw [if_pos q2, if_pos (by omega)]
    · rw [if_neg q2, if_neg (by omega)]
theorem suF_lo (f : Nat → Int32) {k N j : Nat} (h : j ≤ k) : suF f k N j = f j := if_neg (fun z => by omega)
theorem suF_hi (f : Nat → Int32) {k N j : Nat} (h : k < j) (h2 : j ≤ N) : suF f k N j = f (j - 1) := if_pos ⟨h, h2⟩
def cuM (σ : Mem) (ln : Nat → Nat) (e m N : Nat) : Mem := ar (st σ 7 1 (nI (N + 1))) (upd (suF (σ 8) (e + 1) N) (e + 1) (nI (pos ln e + m))) (upd (upd (suF (σ 9) (e + 1) N) (e + 1) (nI (ln e - m))) e (nI m)) (upd (suF (σ 10) (e + 1) N) (e + 1) 0) (suF (σ 11) (e + 1) N) (σ 12)
def mi_M_cut : MI := (b_M_cut, 4, "RootedWordsModel", none, 0, tbl_of 133 f_M_cut, fl_M, [], [])
theorem ok_M_cut : MOK mi_M_cut := ⟨tbl_ok k_M_cut, flok_M rfl, (fun _ h => absurd h List.not_mem_nil)⟩
theorem si_M_cut : ∀ q ∈ m_tr mi_M_cut, SiteF mi_M_cut q := (fun _ h => absurd h List.not_mem_nil)
theorem c_M_cut_5 {X : CT} {oc : OC} (hX : CxO X mi_M_cut oc) (σ : Mem) {N : Nat} {ln kd : Nat → Nat} (h : MP σ N ln kd) {e m : Nat} (he : e < N) (hm : 3 ≤ m) (hm2 : m + 3 ≤ ln e) (ho : oc = .inl (none, cuM σ ln e m N)) : ∀ (n k : Nat), k = e + 1 + n → k ≤ N →
    Go X mi_M_cut 5 [some (.inr (.inl 7)), some (.inl (nI e)), some (.inl (nI m)), some (.inl (nI k))] [] (ar σ (suF (σ 8) k N) (suF (σ 9) k N) (suF (σ 10) k N) (suF (σ 11) k N) (σ 12)) := by
  have hN := (h.1.xn (k := 1) he hm (by omega) hm2).N85
  have e2 : nI e + nI 1 = nI (e + 1) := nI_add _ _
  have gl := h.1.lt he
  intro n
  induction n with
  | zero =>
    intro k hk hkN
    subst hk
    have hx : ar σ (suF (σ 8) (e + 1) N) (suF (σ 9) (e + 1) N) (suF (σ 10) (e + 1) N) (suF (σ 11) (e + 1) N) (σ 12) 7 1 = nI N := h.2.1
    have e4 : nI N + nI 1 = nI (N + 1) := nI_add _ _
    obtain ⟨m8, m9, m10, m11⟩ := h.2.2 e he
    refine Go_run ok_M_cut hX [] 120 (fun K R1 T1 hK hR hT => ?_)
    conv => whnf
    rw [e2]
    refine ⟨fun _ => ?_, fun z => absurd (nI_le (by omega) (by omega)) z⟩
    conv => whnf
    refine ⟨vp_in_nI (by omega) (by decide), ?_⟩
    rw [nI_clamp (by omega)]
    conv => whnf
    rw [e2]
    refine ⟨vp_in_nI (by omega) (by decide), ?_⟩
    rw [nI_clamp (by omega)]
    conv => whnf
    refine ⟨vp_in_nI (by omega) (by decide), ?_⟩
    rw [nI_clamp (by omega)]
    conv => whnf
    rw [e2]
    refine ⟨vp_in_nI (by omega) (by decide), ?_⟩
    rw [nI_clamp (by omega)]
    conv => whnf
    rw [e2]
    refine ⟨vp_in_nI (by omega) (by decide), ?_⟩
    rw [nI_clamp (by omega)]
    conv => whnf
    refine ⟨vp_in_nI (by omega) (by decide), ?_⟩
    rw [nI_clamp (by omega)]
    conv => whnf
    refine hR _ _ ?_
    rw [ho]
    have e5 : nI (pos ln e) + nI m = nI (pos ln e + m) := nI_add _ _
    have e6 : nI (ln e) - nI m = nI (ln e - m) := pk_sub (by omega)
    unfold cuM
    rw [← e5, ← e6, ← e4, ← ar_9, ← ar_10, ← ar_9, ← ar_8, ← ar_7, ← m8, ← m9, ← suF_lo (σ 8) (k := e + 1) (N := N) (j := e) (by omega), ← suF_lo (σ 9) (k := e + 1) (N := N) (j := e) (by omega), ← hx]
    rfl
  | succ n ih =>
    intro k hk hkN
    obtain ⟨k, rfl⟩ : ∃ k', k = k' + 1 := ⟨e + 1 + n, by omega⟩
    have e3 : nI (k + 1) - nI 1 = nI k := nI_pred _
    refine Go_run ok_M_cut hX [5] 120 (fun K R1 T1 hK hR hT => ?_)
    conv => whnf
    rw [e2]
    refine ⟨fun z => absurd z (nI_ge (by omega) (by omega)), fun _ => ?_⟩
    conv => whnf
    rw [e3]
    refine ⟨vp_in_nI (by omega) (by decide), ?_⟩
    rw [nI_clamp (by omega)]
    conv => whnf
    refine ⟨vp_in_nI (by omega) (by decide), ?_⟩
    rw [nI_clamp (by omega)]
    conv => whnf
    rw [e3]
    refine ⟨vp_in_nI (by omega) (by decide), ?_⟩
    rw [nI_clamp (by omega)]
    conv => whnf
    refine ⟨vp_in_nI (by omega) (by decide), ?_⟩
    rw [nI_clamp (by omega)]
    conv => whnf
    rw [e3]
    refine ⟨vp_in_nI (by omega) (by decide), ?_⟩
    rw [nI_clamp (by omega)]
    conv => whnf
    refine ⟨vp_in_nI (by omega) (by decide), ?_⟩
    rw [nI_clamp (by omega)]
    conv => whnf
    rw [e3]
    refine ⟨vp_in_nI (by omega) (by decide), ?_⟩
    rw [nI_clamp (by omega)]
    conv => whnf
    refine ⟨vp_in_nI (by omega) (by decide), ?_⟩
    rw [nI_clamp (by omega)]
    conv => whnf
    refine hK _ _ _ _ ?_
    show Go X mi_M_cut 5 [some (.inr (.inl 7)), some (.inl (nI e)), some (.inl (nI m)), some (.inl (nI (k + 1) + -1))] [] (st (st (st (st (ar σ (suF (σ 8) (k + 1) N) (suF (σ 9) (k + 1) N) (suF (σ 10) (k + 1) N) (suF (σ 11) (k + 1) N) (σ 12)) 8 (k + 1) (suF (σ 8) (k + 1) N k)) 9 (k + 1) (suF (σ 9) (k + 1) N k)) 10 (k + 1) (suF (σ 10) (k + 1) N k &&& 1)) 11 (k + 1) (suF (σ 11) (k + 1) N k))
    have e4 : nI (k + 1) + -1 = nI k := by rw [← Int32.sub_eq_add_neg]; exact e3
    have hb : bl (σ 10 k) := by rw [(h.2.2 k (by omega)).2.2.1]; exact ub_bl _
    rw [e4, suF_r, suF_r, suF_r, suF_r, bl_and hb, ar_8, ar_9, ar_10, ar_11, suF_s _ hkN, suF_s _ hkN, suF_s _ hkN, suF_s _ hkN]
    exact ih k (by omega) (by omega)
theorem c_M_cut (σ : Mem) {N : Nat} {ln kd : Nat → Nat} (h : MP σ N ln kd) {e m : Nat} (he : e < N) (hm : 3 ≤ m) (hm2 : m + 3 ≤ ln e) : MetO y_M_cut mi_M_cut [.inr (.inl 7), .inl (nI e), .inl (nI m)] σ (.inl (none, cuM σ ln e m N)) := by
  refine met_go ok_M_cut ⟨rfl, rfl⟩ si_M_cut (Nat.le_of_ble_eq_true rfl) ⟨trivial, trivial, trivial, trivial⟩ [5] 60 (fun X hX K R1 T1 hK hR hT => ?_)
  conv => whnf
  rw [h.2.1]
  refine hK _ _ _ _ ?_
  have h9 := c_M_cut_5 hX σ h he hm hm2 rfl (N - (e + 1)) N (by omega) (Nat.le_refl _)
  rw [suF_N, suF_N, suF_N, suF_N, ar_self] at h9
  exact h9
def ct_M_cut : CTy := fun as σ KN _ => ∃ N ln kd e m, as = [.inl (nI e), .inl (nI m)] ∧ MP σ N ln kd ∧ e < N ∧ 3 ≤ m ∧ m + 3 ≤ ln e ∧ KN none (cuM σ ln e m N)
theorem s_M_cut : Snd y_M_cut mi_M_cut 7 2 ct_M_cut := by
  intro as σ KN KX _ ⟨N, ln, kd, e, m, ea, h, h1, h2, h3, h4⟩
  subst ea
  exact ⟨.inl (_, _), h4, c_M_cut σ h h1 h2 h3⟩
end
section
/-! ===== the reference: give and take ===== -/
theorem MP.dz {σ : Mem} {N : Nat} {ln kd : Nat → Nat} (h : MP σ N ln kd) {k r : Nat} {σ1 : Mem} (hds : Dz σ k r σ1) : MP σ1 N ln kd := h.cong hds.n (hds.ne 8 (by decide)) (hds.ne 9 (by decide)) (hds.ne 10 (by decide)) (hds.ne 11 (by decide))
theorem gv_le {N : Nat} {kd : Nat → Nat} {e : Nat} (he : e < N) : gv0 kd e ≤ e ∧ e ≤ gv1 N kd e ∧ gv1 N kd e < N := by
  refine ⟨?_, ?_, ?_⟩
  · unfold gv0; split <;> omega
  · unfold gv1; split <;> omega
  · unfold gv1; split <;> omega
def mi_M_give : MI := (b_M_give, 6, "RootedWordsModel", some .int, 3, tbl_of 131 f_M_give, fl_M, [(59, (7, 1, ct_M_does)), (67, (7, 1, ct_M_at)), (70, (7, 2, ct_M_join))], [])
theorem ok_M_give : MOK mi_M_give := ⟨tbl_ok k_M_give, flok_M rfl, List.forall_mem_cons.mpr ⟨okV 2 (by decide) s_M_does rfl (Nat.le_of_ble_eq_true rfl) (Nat.le_of_ble_eq_true rfl) (by decide +kernel) lk_M_59 vv_M_does, List.forall_mem_cons.mpr ⟨okV 2 (by decide) s_M_at rfl (Nat.le_of_ble_eq_true rfl) (Nat.le_of_ble_eq_true rfl) (by decide +kernel) lk_M_67 vv_M_at, List.forall_mem_cons.mpr ⟨okV 2 (by decide) s_M_join rfl (Nat.le_of_ble_eq_true rfl) (Nat.le_of_ble_eq_true rfl) (by decide +kernel) lk_M_70 vv_M_join, (fun _ h => absurd h List.not_mem_nil)⟩⟩⟩⟩
theorem si_M_give : ∀ q ∈ m_tr mi_M_give, SiteF mi_M_give q := (fun _ h => absurd h List.not_mem_nil)
theorem c_M_give_down (a : Int32) (σ : Mem) (hd : σ 7 11 = 1) {N : Nat} {ln kd : Nat → Nat} (h : MP σ N ln kd) : MetO y_M_give mi_M_give [.inr (.inl 7), .inl a] σ (.inl (some (.inl 0), st σ 7 0 1)) := by
  refine met_go ok_M_give ⟨rfl, rfl⟩ si_M_give (Nat.le_of_ble_eq_true rfl) ⟨trivial, trivial, trivial⟩ [] 60 (fun X hX K R1 T1 hK hR hT => ?_)
  conv => whnf
  refine ⟨N, ln, kd, h, fun e' he' => ?_, fun q => ?_⟩
  · conv => whnf
    refine ⟨fun z => absurd (hd.symm.trans z) (by decide), fun _ => ?_⟩
    conv => whnf
    refine ⟨fun z => absurd z (cIn (k := 1) (by decide)), fun _ => ?_⟩
    conv => whnf
    exact hR _ _ rfl
  · conv => whnf
    refine ⟨fun z => absurd (hd.symm.trans z) (by decide), fun _ => ?_⟩
    conv => whnf
    refine ⟨fun z => absurd z (cIn (k := 1) (by decide)), fun _ => ?_⟩
    conv => whnf
    exact hR _ _ rfl
theorem c_M_give_no (a : Int32) (σ : Mem) (hd : σ 7 11 = 0) {N : Nat} {ln kd : Nat → Nat} (h : MP σ N ln kd) (q : ¬ Us N ln kd a) : MetO y_M_give mi_M_give [.inr (.inl 7), .inl a] σ (.inl (some (.inl 0), st σ 7 0 2)) := by
  refine met_go ok_M_give ⟨rfl, rfl⟩ si_M_give (Nat.le_of_ble_eq_true rfl) ⟨trivial, trivial, trivial⟩ [] 60 (fun X hX K R1 T1 hK hR hT => ?_)
  conv => whnf
  refine ⟨N, ln, kd, h, fun e' he' => absurd he'.us q, fun _ => ?_⟩
  conv => whnf
  refine ⟨fun _ => ?_, fun z => absurd hd z⟩
  conv => whnf
  refine ⟨fun z => absurd z (by decide), fun _ => ?_⟩
  conv => whnf
  refine ⟨fun z => absurd z (cIn (k := 2) (by decide)), fun _ => ?_⟩
  conv => whnf
  exact hR _ _ rfl
theorem c_M_give_92 {X : CT} {oc : OC} (hX : CxO X mi_M_give oc) {σ : Mem} (hb : bl (σ 7 11)) (hl : lOK (σ 7 10)) {N : Nat} {ln kd : Nat → Nat} (h : MP σ N ln kd) (hm : ∀ j, bl (σ 12 j)) {r : Nat} {σ1 : Mem} (hds : Dz σ 2 r σ1) (f t : Nat) (hft : f ≤ t) (ht : t < N) (a e x : Option AV)
    (ho : oc = .inl (some (.inl (if r = 0 then nI (pos ln f + 1) else 0)), if r < 2 then jnM σ1 ln f t N else σ1)) : Go X mi_M_give 92 [some (.inr (.inl 7)), a, e, some (.inl (nI f)), some (.inl (nI t)), x] [] σ := by
  have hN := h.1.N85
  obtain ⟨m8, m9, m10, m11⟩ := h.2.2 f (by omega)
  have e1 : nI (pos ln f) + nI 1 = nI (pos ln f + 1) := nI_add _ _
  refine Go_run ok_M_give hX [] 80 (fun K R1 T1 hK hR hT => ?_)
  conv => whnf
  refine ⟨vp_in_nI (by omega) (by decide), ?_⟩
  rw [nI_clamp (by omega), m8]
  conv => whnf
  refine ⟨2, rfl, by decide, hb, hl, fun r' σ' hd' => ?_⟩
  obtain ⟨rfl, rfl⟩ := Dz.uniq (by decide) hds hd'
  conv => whnf
  refine ⟨fun z => ?_, fun z => ?_⟩
  · have z2 := Dz.v0 z
    conv => whnf
    rw [hds.code]
    refine ⟨fun z => absurd (dc_0 z) (by omega), fun _ => ?_⟩
    conv => whnf
    refine hR _ _ ?_
    rw [ho, if_neg (by omega), if_neg (by omega)]; rfl
  · have z2 := Dz.v1 z
    conv => whnf
    refine ⟨N, ln, kd, f, t, rfl, h.dz hds, hft, ht, fun j => by rw [hds.ne 12 (by decide)]; exact hm j, ?_⟩
    conv => whnf
    have hc : jnM σ1 ln f t N 7 0 = dc r := (jnM_7 _ _ _ _ _ _ (by decide)).trans hds.code
    rw [hc]
    refine ⟨fun z => ?_, fun z => ?_⟩
    · conv => whnf
      refine hR _ _ ?_
      rw [ho, if_pos (dc_0 z), if_pos z2, ← e1]; rfl
    · conv => whnf
      refine hR _ _ ?_
      rw [ho, if_neg (dc_1 z), if_pos z2]; rfl
theorem c_M_give_62 {X : CT} {oc : OC} (hX : CxO X mi_M_give oc) {σ : Mem} (hb : bl (σ 7 11)) (hl : lOK (σ 7 10)) {N : Nat} {ln kd : Nat → Nat} (h : MP σ N ln kd) (hm : ∀ j, bl (σ 12 j)) {r : Nat} {σ1 : Mem} (hds : Dz σ 2 r σ1) (e : Nat) (he : e < N) (a x y : Option AV)
    (ho : oc = .inl (some (.inl (if r = 0 then nI (pos ln (gv0 kd e) + 1) else 0)), if r < 2 then jnM σ1 ln (gv0 kd e) (gv1 N kd e) N else σ1)) : Go X mi_M_give 62 [some (.inr (.inl 7)), a, some (.inl (nI e)), some (.inl (nI (gv0 kd e))), x, y] [] σ := by
  have hN := h.1.N85
  have hg := gv_le (kd := kd) he
  have e1 : nI e + nI 1 = nI (e + 1) := nI_add _ _
  have h92 := fun t (q : gv1 N kd e = t) => c_M_give_92 hX hb hl h hm hds (gv0 kd e) t (by omega) (by omega) a (some (.inl (nI e))) y (by rw [ho, q])
  refine Go_run ok_M_give hX [92] 80 (fun K R1 T1 hK hR hT => ?_)
  conv => whnf
  rw [e1, h.2.1]
  refine ⟨fun z => ?_, fun z => ?_⟩
  · conv => whnf
    have z1 := (nI_leI (by omega) (by omega)).mp z
    exact hK _ _ _ _ (h92 e (by unfold gv1; rw [if_neg (by omega)]))
  have z1 := (not_congr (nI_leI (a := N) (b := e + 1) (by omega) (by omega))).mp z
  obtain ⟨m8, m9, m10, m11⟩ := h.2.2 (e + 1) (by omega)
  conv => whnf
  rw [e1]
  refine ⟨vp_in_nI (by omega) (by decide), ?_⟩
  rw [nI_clamp (by omega), m10]
  conv => whnf
  refine ⟨fun z2 => ?_, fun z2 => ?_⟩
  · conv => whnf
    exact hK _ _ _ _ (h92 e (by unfold gv1; rw [if_neg (fun q => z2 (ub_0.mpr q.2))]))
  · conv => whnf
    refine hK _ _ _ _ ?_
    show Go X mi_M_give 92 [some (.inr (.inl 7)), a, some (.inl (nI e)), some (.inl (nI (gv0 kd e))), some (.inl (nI e + nI 1)), y] [] σ
    rw [e1]
    exact h92 (e + 1) (by unfold gv1; rw [if_pos ⟨by omega, ub_0.mp z2⟩])
theorem c_M_give_ok (σ : Mem) (hd : σ 7 11 = 0) (hl : lOK (σ 7 10)) {N : Nat} {ln kd : Nat → Nat} (h : MP σ N ln kd) (hm : ∀ j, bl (σ 12 j)) {e : Nat} {a : Int32} (hu : Usd N ln kd e a) {r : Nat} {σ1 : Mem} (hds : Dz (st σ 7 0 (nI 0)) 2 r σ1) :
    MetO y_M_give mi_M_give [.inr (.inl 7), .inl a] σ (.inl (some (.inl (if r = 0 then nI (pos ln (gv0 kd e) + 1) else 0)), if r < 2 then jnM σ1 ln (gv0 kd e) (gv1 N kd e) N else σ1)) := by
  have hN := h.1.N85
  have he := hu.1
  have h' := h.st7 0 (nI 0) (by decide)
  refine met_go ok_M_give ⟨rfl, rfl⟩ si_M_give (Nat.le_of_ble_eq_true rfl) ⟨trivial, trivial, trivial⟩ [62] 60 (fun X hX K R1 T1 hK hR hT => ?_)
  have h62 := fun f (q : gv0 kd e = f) x y => q ▸ c_M_give_62 hX (σ := st σ 7 0 (nI 0)) (Or.inl hd) hl h' hm hds e he (some (.inl a)) x y rfl
  conv => whnf
  refine ⟨N, ln, kd, h, fun e' he' => ?_, fun q => absurd hu.us q⟩
  obtain rfl := h.1.uniq he' hu
  conv => whnf
  refine ⟨fun _ => ?_, fun z => absurd hd z⟩
  conv => whnf
  refine ⟨fun _ => ?_, fun z => absurd (nI_0le (by omega)) z⟩
  conv => whnf
  refine ⟨fun _ => ?_, fun z => absurd c0n z⟩
  conv => whnf
  refine ⟨fun z => ?_, fun z => ?_⟩
  · conv => whnf
    have z1 : e' = 0 := by have := (nI_leI (a := e') (b := 0) (by omega) (by decide)).mp z; omega
    exact hK _ _ _ _ (h62 e' (by unfold gv0; rw [if_neg (by omega)]) _ _)
  have z1 : ¬ e' ≤ 0 := (not_congr (nI_leI (a := e') (b := 0) (by omega) (by decide))).mp z
  have e3 : nI e' - nI 1 = nI (e' - 1) := pk_sub (by omega)
  obtain ⟨m8, m9, m10, m11⟩ := h'.2.2 (e' - 1) (by omega)
  conv => whnf
  rw [e3]
  refine ⟨vp_in_nI (by omega) (by decide), ?_⟩
  rw [nI_clamp (by omega), m10]
  conv => whnf
  refine ⟨fun z2 => ?_, fun z2 => ?_⟩
  · conv => whnf
    exact hK _ _ _ _ (h62 e' (by unfold gv0; rw [if_neg (fun q => z2 (ub_0.mpr q.2))]) _ _)
  · conv => whnf
    refine hK _ _ _ _ ?_
    show Go X mi_M_give 62 [some (.inr (.inl 7)), some (.inl a), some (.inl (nI e')), some (.inl (nI e' - nI 1)), none, none] [] (st σ 7 0 (nI 0))
    rw [e3]
    exact h62 (e' - 1) (by unfold gv0; rw [if_pos ⟨by omega, ub_0.mp z2⟩]) _ _
/-- words cleared -/
def clr (f : Nat → Int32) (a n : Nat) : Nat → Int32 := fun j => if a ≤ j ∧ j < a + n then 0 else f j
theorem clr_0 (f : Nat → Int32) (a : Nat) : clr f a 0 = f := by
  funext j
  exact if_neg (fun h => by omega)
theorem clr_s (f : Nat → Int32) (a n : Nat) : upd (clr f a n) (a + n) 0 = clr f a (n + 1) := by
  funext j
  unfold upd clr
  by_cases q : j = a + n
  · rw [if_pos q, if_pos (by omega)]
  · rw [if_neg q]
    by_cases q2 : a ≤ j ∧ j < a + n
    · rw [if_pos q2, if_pos (by omega)]
    · rw [if_neg q2, if_neg (by omega)]
def mi_M_take : MI := (b_M_take, 7, "RootedWordsModel", some .int, 3, tbl_of 284 f_M_take, fl_M, [(49, (7, 1, ct_M_spend)), (59, (7, 1, ct_M_does)), (63, (7, 2, ct_M_cut))], [])
theorem ok_M_take : MOK mi_M_take := ⟨tbl_ok k_M_take, flok_M rfl, List.forall_mem_cons.mpr ⟨okV 2 (by decide) s_M_spend rfl (Nat.le_of_ble_eq_true rfl) (Nat.le_of_ble_eq_true rfl) (by decide +kernel) lk_M_49 vv_M_spend, List.forall_mem_cons.mpr ⟨okV 2 (by decide) s_M_does rfl (Nat.le_of_ble_eq_true rfl) (Nat.le_of_ble_eq_true rfl) (by decide +kernel) lk_M_59 vv_M_does, List.forall_mem_cons.mpr ⟨okV 2 (by decide) s_M_cut rfl (Nat.le_of_ble_eq_true rfl) (Nat.le_of_ble_eq_true rfl) (by decide +kernel) lk_M_63 vv_M_cut, (fun _ h => absurd h List.not_mem_nil)⟩⟩⟩⟩
theorem si_M_take : ∀ q ∈ m_tr mi_M_take, SiteF mi_M_take q := (fun _ h => absurd h List.not_mem_nil)
theorem c_M_take_30 {X : CT} {oc : OC} (hX : CxO X mi_M_take oc) {σ : Mem} {N : Nat} {ln kd : Nat → Nat} (h : MP σ N ln kd) (x : Int32) (a2 a3 a5 a6 : Option AV)
    (hG : ∀ e, e ≤ N → (∀ j, j < e → kd j ≠ 0 ∨ nI (ln j) < x + nI 2) → (e < N → kd e = 0 ∧ ¬ nI (ln e) < x + nI 2) → Go X mi_M_take 71 [some (.inr (.inl 7)), some (.inl x), a2, a3, some (.inl (nI e)), a5, a6] [] σ) : ∀ (n i : Nat), i + n = N → (∀ j, j < i → kd j ≠ 0 ∨ nI (ln j) < x + nI 2) →
    Go X mi_M_take 30 [some (.inr (.inl 7)), some (.inl x), a2, a3, some (.inl (nI i)), a5, a6] [] σ := by
  have hN := h.1.N85
  intro n
  induction n with
  | zero =>
    intro i hi hp
    obtain rfl : i = N := by omega
    refine Go_run ok_M_take hX [71] 60 (fun K R1 T1 hK hR hT => ?_)
    conv => whnf
    rw [h.2.1]
    refine ⟨fun _ => ?_, fun z => absurd (nI_le (Nat.le_refl _) (by omega)) z⟩
    conv => whnf
    exact hK _ _ _ _ (hG i (Nat.le_refl _) hp (fun z => absurd z (Nat.lt_irrefl _)))
  | succ n ih =>
    intro i hi hp
    have hi' : i < N := by omega
    obtain ⟨m8, m9, m10, m11⟩ := h.2.2 i hi'
    have e2 : nI i + nI 1 = nI (i + 1) := nI_add i 1
    have nxt : (kd i ≠ 0 ∨ nI (ln i) < x + nI 2) → Go X mi_M_take 30 [some (.inr (.inl 7)), some (.inl x), a2, a3, some (.inl (nI i + nI 1)), a5, a6] [] σ := by
      intro q
      rw [e2]
      refine ih (i + 1) (by omega) (fun j hj => ?_)
      rcases Nat.lt_or_ge j i with z | z
      · exact hp j z
      · obtain rfl : j = i := by omega
        exact q
    refine Go_run ok_M_take hX [30, 71] 60 (fun K R1 T1 hK hR hT => ?_)
    conv => whnf
    rw [h.2.1]
    refine ⟨fun z => absurd z (nI_ge hi' (by omega)), fun _ => ?_⟩
    conv => whnf
    refine ⟨vp_in_nI (by omega) (by decide), ?_⟩
    rw [nI_clamp (by omega), m10]
    conv => whnf
    refine ⟨fun z => ?_, fun z => ?_⟩
    · conv => whnf
      exact hK _ _ _ _ (nxt (Or.inl (fun q => z (ub_0.mpr q))))
    · conv => whnf
      refine ⟨vp_in_nI (by omega) (by decide), ?_⟩
      rw [nI_clamp (by omega), m9]
      conv => whnf
      refine ⟨fun z2 => ?_, fun z2 => ?_⟩
      · conv => whnf
        exact hK _ _ _ _ (hG i (by omega) hp (fun _ => ⟨ub_0.mp z, Int32.not_lt.mpr z2⟩))
      · conv => whnf
        exact hK _ _ _ _ (nxt (Or.inr (Int32.not_le.mp z2)))
theorem c_M_take_down (x p : Int32) (σ : Mem) (hd : σ 7 11 = 1) {N : Nat} {ln kd : Nat → Nat} (h : MP σ N ln kd) : MetO y_M_take mi_M_take [.inr (.inl 7), .inl x, .inl p] σ (.inl (some (.inl 0), st σ 7 0 1)) := by
  have rest : ∀ {X : CT} {oc : OC} (hX : CxO X mi_M_take oc) (ho : oc = .inl (some (.inl 0), st σ 7 0 1)) (d : Int32), Go X mi_M_take 27 [some (.inr (.inl 7)), some (.inl x), some (.inl p), some (.inl d), none, none, none] [] σ := by
    intro X oc hX ho d
    refine Go_run ok_M_take hX [30] 60 (fun K R1 T1 hK hR hT => ?_)
    conv => whnf
    refine hK _ _ _ _ (c_M_take_30 hX h x _ _ _ _ (fun e _ _ _ => ?_) N 0 (by omega) (fun j hj => absurd hj (Nat.not_lt_zero j)))
    refine Go_run ok_M_take hX [] 60 (fun K R1 T1 hK hR hT => ?_)
    conv => whnf
    refine ⟨fun z => absurd (hd.symm.trans z) (by decide), fun _ => ?_⟩
    conv => whnf
    refine ⟨fun z => absurd z (cIn (k := 1) (by decide)), fun _ => ?_⟩
    conv => whnf
    refine hR _ _ ?_
    rw [ho]; rfl
  refine met_go ok_M_take ⟨rfl, rfl⟩ si_M_take (Nat.le_of_ble_eq_true rfl) ⟨trivial, trivial, trivial, trivial⟩ [27] 60 (fun X hX K R1 T1 hK hR hT => ?_)
  conv => whnf
  refine ⟨fun _ => ?_, fun _ => ?_⟩
  · conv => whnf
    exact hK _ _ _ _ (rest hX rfl _)
  conv => whnf
  refine ⟨fun _ => ?_, fun _ => ?_⟩
  · conv => whnf
    exact hK _ _ _ _ (rest hX rfl _)
  conv => whnf
  refine ⟨fun _ => ?_, fun _ => ?_⟩
  · conv => whnf
    exact hK _ _ _ _ (rest hX rfl _)
  conv => whnf
  refine ⟨fun _ => ?_, fun _ => ?_⟩
  · conv => whnf
    exact hK _ _ _ _ (rest hX rfl _)
  · conv => whnf
    exact hK _ _ _ _ (rest hX rfl _)
theorem c_M_take_odd (x p : Int32) (σ : Mem) (hd : σ 7 11 = 0) {N : Nat} {ln kd : Nat → Nat} (h : MP σ N ln kd) (q : ¬ tk_ok x p) : MetO y_M_take mi_M_take [.inr (.inl 7), .inl x, .inl p] σ (.inl (some (.inl 0), st σ 7 0 2)) := by
  have rest : ∀ {X : CT} {oc : OC} (hX : CxO X mi_M_take oc) (ho : oc = .inl (some (.inl 0), st σ 7 0 2)), Go X mi_M_take 27 [some (.inr (.inl 7)), some (.inl x), some (.inl p), some (.inl (nI 1)), none, none, none] [] σ := by
    intro X oc hX ho
    refine Go_run ok_M_take hX [30] 60 (fun K R1 T1 hK hR hT => ?_)
    conv => whnf
    refine hK _ _ _ _ (c_M_take_30 hX h x _ _ _ _ (fun e _ _ _ => ?_) N 0 (by omega) (fun j hj => absurd hj (Nat.not_lt_zero j)))
    refine Go_run ok_M_take hX [] 60 (fun K R1 T1 hK hR hT => ?_)
    conv => whnf
    refine ⟨fun _ => ?_, fun z => absurd hd z⟩
    conv => whnf
    refine ⟨fun z => absurd z (by decide), fun _ => ?_⟩
    conv => whnf
    refine ⟨fun z => absurd z (cIn (k := 2) (by decide)), fun _ => ?_⟩
    conv => whnf
    refine hR _ _ ?_
    rw [ho]; rfl
  refine met_go ok_M_take ⟨rfl, rfl⟩ si_M_take (Nat.le_of_ble_eq_true rfl) ⟨trivial, trivial, trivial, trivial⟩ [27] 60 (fun X hX K R1 T1 hK hR hT => ?_)
  conv => whnf
  refine ⟨fun z1 => ?_, fun z1 => ?_⟩
  · conv => whnf
    exact hK _ _ _ _ (rest hX rfl)
  conv => whnf
  refine ⟨fun z2 => ?_, fun z2 => ?_⟩
  · conv => whnf
    exact hK _ _ _ _ (rest hX rfl)
  conv => whnf
  refine ⟨fun z3 => ?_, fun z3 => ?_⟩
  · conv => whnf
    exact hK _ _ _ _ (rest hX rfl)
  conv => whnf
  refine ⟨fun z4 => absurd ⟨z1, Int32.not_lt.mp z2, z3, z4⟩ q, fun z4 => ?_⟩
  conv => whnf
  exact hK _ _ _ _ (rest hX rfl)
/-- the scan of a take that isn't odd -/
theorem c_M_take_scan {X : CT} {oc : OC} (hX : CxO X mi_M_take oc) {σ : Mem} {N : Nat} {ln kd : Nat → Nat} (h : MP σ N ln kd) (m k : Nat) (h1 : 1 ≤ m) (h2 : m ≤ 254) (h3 : k ≤ m)
    (hG : ∀ e, e ≤ N → (∀ j, j < e → ¬ Fit ln kd m j) → (e < N → Fit ln kd m e) → Go X mi_M_take 71 [some (.inr (.inl 7)), some (.inl (nI m)), some (.inl (nI k)), some (.inl (nI 0)), some (.inl (nI e)), none, none] [] σ) :
    Go X mi_M_take 30 [some (.inr (.inl 7)), some (.inl (nI m)), some (.inl (nI k)), some (.inl (nI 0)), some (.inl (nI 0)), none, none] [] σ := by
  have e1 : nI m + nI 2 = nI (m + 2) := nI_add _ _
  refine c_M_take_30 hX h (nI m) _ _ _ _ (fun e he hp hq => ?_) N 0 (by omega) (fun j hj => absurd hj (Nat.not_lt_zero j))
  rw [e1] at hp hq
  refine hG e he (fun j hj hf => ?_) (fun z => ?_)
  · have g := h.1.lt (i := j) (by omega)
    rcases hp j hj with y | y
    · exact y hf.1
    · have := (nI_ltI (by omega) (by omega)).mp y
      have := hf.2
      omega
  · have g := h.1.lt z
    obtain ⟨y1, y2⟩ := hq z
    refine ⟨y1, ?_⟩
    have := (not_congr (nI_ltI (a := ln e) (b := m + 2) (by omega) (by omega))).mp y2
    omega
theorem c_M_take_none (m k : Nat) (h1 : 1 ≤ m) (h2 : m ≤ 254) (h3 : k ≤ m) (σ : Mem) (hd : σ 7 11 = 0) {N : Nat} {ln kd : Nat → Nat} (h : MP σ N ln kd) (q : ∀ i, i < N → ¬ Fit ln kd m i) : MetO y_M_take mi_M_take [.inr (.inl 7), .inl (nI m), .inl (nI k)] σ (.inl (some (.inl 0), st σ 7 0 3)) := by
  obtain ⟨t1, t2, t3, t4⟩ := tk_okN h1 h2 h3
  refine met_go ok_M_take ⟨rfl, rfl⟩ si_M_take (Nat.le_of_ble_eq_true rfl) ⟨trivial, trivial, trivial, trivial⟩ [30] 60 (fun X hX K R1 T1 hK hR hT => ?_)
  conv => whnf
  refine ⟨fun z => absurd z t1, fun _ => ?_⟩
  conv => whnf
  refine ⟨fun z => absurd z (Int32.not_lt.mpr t2), fun _ => ?_⟩
  conv => whnf
  refine ⟨fun z => absurd z t3, fun _ => ?_⟩
  conv => whnf
  refine ⟨fun _ => ?_, fun z => absurd t4 z⟩
  conv => whnf
  refine hK _ _ _ _ (c_M_take_scan hX h m k h1 h2 h3 (fun e e1 e2 e3 => ?_))
  obtain rfl : e = N := by
    rcases Nat.lt_or_ge e N with z | z
    · exact absurd (e3 z) (q e z)
    · omega
  refine Go_run ok_M_take hX [] 60 (fun K R1 T1 hK hR hT => ?_)
  conv => whnf
  refine ⟨fun _ => ?_, fun z => absurd hd z⟩
  conv => whnf
  refine ⟨fun _ => ?_, fun z => absurd rfl z⟩
  conv => whnf
  rw [h.2.1]
  refine ⟨fun z => absurd rfl z, fun _ => ?_⟩
  conv => whnf
  refine ⟨fun z => absurd z (cIn (k := 3) (by decide)), fun _ => ?_⟩
  conv => whnf
  exact hR _ _ rfl
/-- the rows behind a take -/
def mkM (σ : Mem) (ln : Nat → Nat) (e m k N : Nat) : Mem := st (st (if m + 5 ≤ ln e then cuM σ ln e (m + 2) N else σ) 10 e 1) 11 e (nI k)
def tkR (σ : Mem) (ln : Nat → Nat) (e m k N : Nat) : Mem := stA (mkM σ ln e m k N) 13 (clr (σ 13) (pos ln e + 1) (tkL (ln e) m - 2))
theorem c_M_take_227 {X : CT} {oc : OC} (hX : CxO X mi_M_take oc) {σ : Mem} {e p L : Nat} (he : e < 86) (hp : p + L ≤ 257) (hL : 2 ≤ L) (h8 : σ 8 e = nI p) (h9 : σ 9 e = nI L) {r : Nat} (hc : σ 7 0 = dc r) (a1 a2 a3 a5 : Option AV)
    (ho : oc = .inl (some (.inl (if r = 0 then nI (p + 1) else 0)), stA σ 13 (clr (σ 13) (p + 1) (L - 2)))) : ∀ (n i : Nat), i + n = L - 2 →
    Go X mi_M_take 227 [some (.inr (.inl 7)), a1, a2, a3, some (.inl (nI e)), a5, some (.inl (nI (p + 1 + i)))] [] (stA σ 13 (clr (σ 13) (p + 1) i)) := by
  have e1 : nI p + nI L - nI 1 = nI (p + L - 1) := by rw [nI_add, pk_sub (by omega)]
  have e3 : nI p + nI 1 = nI (p + 1) := nI_add _ _
  intro n
  induction n with
  | zero =>
    intro i hi
    have ei : i = L - 2 := by omega
    refine Go_run ok_M_take hX [] 60 (fun K R1 T1 hK hR hT => ?_)
    conv => whnf
    have g8 : stA σ 13 (clr (σ 13) (p + 1) i) 8 e = nI p := h8
    have g9 : stA σ 13 (clr (σ 13) (p + 1) i) 9 e = nI L := h9
    have gc : stA σ 13 (clr (σ 13) (p + 1) i) 7 0 = dc r := hc
    refine ⟨vp_in_nI (by omega) (by decide), ?_⟩
    rw [nI_clamp (by omega), g8]
    conv => whnf
    refine ⟨vp_in_nI (by omega) (by decide), ?_⟩
    rw [nI_clamp (by omega), g9]
    conv => whnf
    rw [e1]
    refine ⟨fun _ => ?_, fun z => absurd (nI_le (by omega) (by omega)) z⟩
    conv => whnf
    rw [gc]
    refine ⟨fun z => ?_, fun z => ?_⟩
    · conv => whnf
      refine ⟨vp_in_nI (by omega) (by decide), ?_⟩
      rw [nI_clamp (by omega), g8]
      conv => whnf
      refine hR _ _ ?_
      rw [ho, if_pos (dc_0 z), e3, ei]; rfl
    · conv => whnf
      refine hR _ _ ?_
      rw [ho, if_neg (dc_1 z), ei]; rfl
  | succ n ih =>
    intro i hi
    have e2 : nI (p + 1 + i) + nI 1 = nI (p + 1 + (i + 1)) := nI_add _ _
    refine Go_run ok_M_take hX [227] 60 (fun K R1 T1 hK hR hT => ?_)
    conv => whnf
    have g8 : stA σ 13 (clr (σ 13) (p + 1) i) 8 e = nI p := h8
    have g9 : stA σ 13 (clr (σ 13) (p + 1) i) 9 e = nI L := h9
    refine ⟨vp_in_nI (by omega) (by decide), ?_⟩
    rw [nI_clamp (by omega), g8]
    conv => whnf
    refine ⟨vp_in_nI (by omega) (by decide), ?_⟩
    rw [nI_clamp (by omega), g9]
    conv => whnf
    rw [e1]
    refine ⟨fun z => absurd z (nI_ge (by omega) (by omega)), fun _ => ?_⟩
    conv => whnf
    refine ⟨vp_in_nI (by omega) (by decide), ?_⟩
    rw [nI_clamp (by omega)]
    conv => whnf
    refine hK _ _ _ _ ?_
    show Go X mi_M_take 227 [some (.inr (.inl 7)), a1, a2, a3, some (.inl (nI e)), a5, some (.inl (nI (p + 1 + i) + nI 1))] [] (st (stA σ 13 (clr (σ 13) (p + 1) i)) 13 (p + 1 + i) 0)
    rw [e2, st_stA, stA_stA, stA_self, clr_s]
    exact ih (i + 1) (by omega)
theorem c_M_take_200 {X : CT} {oc : OC} (hX : CxO X mi_M_take oc) {σ : Mem} {e p L k : Nat} (he : e < 86) (hp : p + L ≤ 257) (hL : 2 ≤ L) (h8 : σ 8 e = nI p) (h9 : σ 9 e = nI L) {r : Nat} (hc : σ 7 0 = dc r) (a1 a3 a5 : Option AV)
    (ho : oc = .inl (some (.inl (if r = 0 then nI (p + 1) else 0)), stA (st (st σ 10 e 1) 11 e (nI k)) 13 (clr (σ 13) (p + 1) (L - 2)))) :
    Go X mi_M_take 200 [some (.inr (.inl 7)), a1, some (.inl (nI k)), a3, some (.inl (nI e)), a5, none] [] σ := by
  have e3 : nI p + nI 1 = nI (p + 1) := nI_add _ _
  refine Go_run ok_M_take hX [227] 60 (fun K R1 T1 hK hR hT => ?_)
  conv => whnf
  refine ⟨vp_in_nI (by omega) (by decide), ?_⟩
  rw [nI_clamp (by omega)]
  conv => whnf
  refine ⟨vp_in_nI (by omega) (by decide), ?_⟩
  rw [nI_clamp (by omega)]
  conv => whnf
  refine ⟨vp_in_nI (by omega) (by decide), ?_⟩
  rw [nI_clamp (by omega)]
  conv => whnf
  refine hK _ _ _ _ ?_
  have h := c_M_take_227 hX (σ := st (st σ 10 e 1) 11 e (nI k)) he hp hL h8 h9 hc a1 (some (.inl (nI k))) a3 a5 ho (L - 2) 0 (by omega)
  have e4 : (st (st σ 10 e 1) 11 e (nI k)) 13 = σ 13 := rfl
  rw [clr_0, stA_id] at h
  show Go X mi_M_take 227 [some (.inr (.inl 7)), a1, some (.inl (nI k)), a3, some (.inl (nI e)), a5, some (.inl (σ 8 e + nI 1))] [] (st (st σ 10 e 1) 11 e (nI k))
  rw [h8, e3]
  exact h
theorem c_M_take_137 {X : CT} {oc : OC} (hX : CxO X mi_M_take oc) {σ : Mem} (hb : bl (σ 7 11)) (hl : lOK (σ 7 10)) {N : Nat} {ln kd : Nat → Nat} (h : MP σ N ln kd) (m k e : Nat) (h1 : 1 ≤ m) (h3 : k ≤ m) (he : e < N) (hf : Fit ln kd m e) (a3 : Option AV) (cu : Int32) (hcu : (m + 5 ≤ ln e → cu = nI 1) ∧ (¬ m + 5 ≤ ln e → cu = nI 0))
    (hA : ∀ j, j < tkL (ln e) m - 2 → j ≤ 1000 → σ 7 10 = nI j → oc = .inl (some (.inl 0), st (spF σ j) 7 0 1))
    (hB : lGo (σ 7 10) (tkL (ln e) m - 2) → ∀ r σ1, Dz (spO σ (tkL (ln e) m - 2)) (tkC (ln e) m) r σ1 → oc = .inl (some (.inl (if r = 0 then nI (pos ln e + 1) else 0)), if r < 2 then tkR σ1 ln e m k N else σ1)) :
    Go X mi_M_take 137 [some (.inr (.inl 7)), some (.inl (nI m)), some (.inl (nI k)), a3, some (.inl (nI e)), some (.inl cu), none] [] σ := by
  have hN := h.1.N85
  have g := h.1.lt he
  have g3 := h.1.ln3 he
  have g4 := h.1.end he
  have hm2 := hf.2
  obtain ⟨m8, m9, m10, m11⟩ := h.2.2 e he
  have tail : ∀ (x : Int32) (q : x = nI (tkL (ln e) m - 2)), Go X mi_M_take 156 [some (.inr (.inl 7)), some (.inl (nI m)), some (.inl (nI k)), a3, some (.inl (nI e)), some (.inl cu), none] [.inl x, .inr (.inl 7)] σ := by
    intro x q
    subst q
    have hL : tkL (ln e) m ≤ ln e ∧ 3 ≤ tkL (ln e) m := by unfold tkL; split <;> omega
    refine Go_run ok_M_take hX [180] 80 (fun K R1 T1 hK hR hT => ?_)
    conv => whnf
    refine ⟨tkL (ln e) m - 2, rfl, by omega, hb, hl, fun hgo => ?_, fun j j1 j2 j3 => ?_⟩
    · conv => whnf
      refine ⟨fun _ => ?_, fun z => absurd (by decide) z⟩
      have hb' : bl (spO σ (tkL (ln e) m - 2) 7 11) := hb
      have hl' : lOK (spO σ (tkL (ln e) m - 2) 7 10) := by
        show lOK (lsub (σ 7 10) _)
        unfold lsub
        rcases hgo with w | ⟨j, w1, w2, w3⟩
        · rw [w, if_pos m1_lt]; exact Or.inl rfl
        · rw [w3, if_neg (nI_pos (by omega)), pk_sub w1]; exact Or.inr ⟨_, by omega, rfl⟩
      have h' : MP (spO σ (tkL (ln e) m - 2)) N ln kd := h.cong rfl rfl rfl rfl rfl
      have rest : ∀ y : Int32, y = nI (tkC (ln e) m) → Go X mi_M_take 180 [some (.inr (.inl 7)), some (.inl (nI m)), some (.inl (nI k)), a3, some (.inl (nI e)), some (.inl cu), none] [.inl y, .inr (.inl 7)] (spO σ (tkL (ln e) m - 2)) := by
        intro y q
        subst q
        refine Go_run ok_M_take hX [200] 80 (fun K R1 T1 hK hR hT => ?_)
        conv => whnf
        refine ⟨tkC (ln e) m, rfl, by unfold tkC; split <;> omega, hb', hl', fun r σ1 hds => ?_⟩
        have ho := hB hgo r σ1 hds
        have h1' := h'.dz hds
        obtain ⟨n8, n9, n10, n11⟩ := h1'.2.2 e he
        conv => whnf
        refine ⟨fun z => ?_, fun z => ?_⟩
        · have z2 := Dz.v0 z
          conv => whnf
          rw [hds.code]
          refine ⟨fun z => absurd (dc_0 z) (by omega), fun _ => ?_⟩
          conv => whnf
          refine hR _ _ ?_
          rw [ho, if_neg (by omega), if_neg (by omega)]; rfl
        · have z2 := Dz.v1 z
          rw [if_pos z2] at ho
          by_cases c : m + 5 ≤ ln e
          · have hL5 : tkL (ln e) m = m + 2 := by unfold tkL; rw [if_pos c]
            have e5 : nI m + nI 2 = nI (m + 2) := nI_add _ _
            conv => whnf
            rw [hcu.1 c]
            refine ⟨fun z => absurd z (by decide), fun _ => ?_⟩
            conv => whnf
            rw [e5]
            refine ⟨N, ln, kd, e, m + 2, rfl, h1', he, by omega, by omega, ?_⟩
            conv => whnf
            refine hK _ _ _ _ (c_M_take_200 hX (σ := cuM σ1 ln e (m + 2) N) (e := e) (p := pos ln e) (L := m + 2) (r := r) (by omega) (by omega) (by omega) ?_ ?_ hds.code _ _ _ ?_)
            · show upd (suF (σ1 8) (e + 1) N) (e + 1) _ e = _
              rw [upd_n _ _ (by omega), suF_lo _ (by omega)]
              exact n8
            · show upd (upd (suF (σ1 9) (e + 1) N) (e + 1) _) e _ e = _
              rw [upd_s]
            · rw [ho]
              unfold tkR mkM
              rw [if_pos c, hL5]; rfl
          · have hL5 : tkL (ln e) m = ln e := by unfold tkL; rw [if_neg c]
            conv => whnf
            rw [hcu.2 c]
            refine ⟨fun _ => ?_, fun z => absurd rfl z⟩
            conv => whnf
            refine hK _ _ _ _ (c_M_take_200 hX (e := e) (p := pos ln e) (L := ln e) (r := r) (by omega) (by omega) (by omega) n8 n9 hds.code _ _ _ ?_)
            rw [ho]
            unfold tkR mkM
            rw [if_neg c, hL5]
      by_cases c : m + 5 ≤ ln e
      · conv => whnf
        rw [hcu.1 c]
        refine ⟨fun z => absurd z (by decide), fun _ => ?_⟩
        conv => whnf
        refine hK _ _ _ _ ?_
        exact hcu.1 c ▸ rest (nI 4) (by unfold tkC; rw [if_pos c])
      · conv => whnf
        rw [hcu.2 c]
        refine ⟨fun _ => ?_, fun z => absurd rfl z⟩
        conv => whnf
        refine hK _ _ _ _ ?_
        exact hcu.2 c ▸ rest (nI 2) (by unfold tkC; rw [if_neg c])
    · conv => whnf
      refine ⟨fun z => absurd z (nI_pos (by omega)), fun _ => ?_⟩
      conv => whnf
      refine hR _ _ ?_
      rw [hA j j1 j2 j3]; rfl
  refine Go_run ok_M_take hX [156] 80 (fun K R1 T1 hK hR hT => ?_)
  by_cases c : m + 5 ≤ ln e
  · conv => whnf
    rw [hcu.1 c]
    refine ⟨fun z => absurd z (by decide), fun _ => ?_⟩
    conv => whnf
    refine hK _ _ _ _ ?_
    exact hcu.1 c ▸ tail (nI m) (by unfold tkL; rw [if_pos c]; rfl)
  · conv => whnf
    rw [hcu.2 c]
    refine ⟨fun _ => ?_, fun z => absurd rfl z⟩
    conv => whnf
    refine ⟨vp_in_nI (by omega) (by decide), ?_⟩
    rw [nI_clamp (by omega), m9]
    conv => whnf
    refine hK _ _ _ _ ?_
    exact hcu.2 c ▸ tail (nI (ln e) - nI 2) (by unfold tkL; rw [if_neg c, pk_sub (by omega)])
theorem c_M_take_ok (m k : Nat) (h1 : 1 ≤ m) (h2 : m ≤ 254) (h3 : k ≤ m) (σ : Mem) (hd : σ 7 11 = 0) (hl : lOK (σ 7 10)) {N : Nat} {ln kd : Nat → Nat} (h : MP σ N ln kd) {e : Nat} (he : e < N) (hf : Fit ln kd m e) (hlo : ∀ j, j < e → ¬ Fit ln kd m j) (oc : OC)
    (hA : ∀ j, j < tkL (ln e) m - 2 → j ≤ 1000 → σ 7 10 = nI j → oc = .inl (some (.inl 0), st (spF (st σ 7 0 (nI 0)) j) 7 0 1))
    (hB : lGo (σ 7 10) (tkL (ln e) m - 2) → ∀ r σ1, Dz (spO (st σ 7 0 (nI 0)) (tkL (ln e) m - 2)) (tkC (ln e) m) r σ1 → oc = .inl (some (.inl (if r = 0 then nI (pos ln e + 1) else 0)), if r < 2 then tkR σ1 ln e m k N else σ1)) :
    MetO y_M_take mi_M_take [.inr (.inl 7), .inl (nI m), .inl (nI k)] σ oc := by
  have hN := h.1.N85
  have g := h.1.lt he
  have e5 : nI m + nI 5 = nI (m + 5) := nI_add _ _
  have h' := h.st7 0 (nI 0) (by decide)
  obtain ⟨m8, m9, m10, m11⟩ := h'.2.2 e he
  obtain ⟨t1, t2, t3, t4⟩ := tk_okN h1 h2 h3
  refine met_go ok_M_take ⟨rfl, rfl⟩ si_M_take (Nat.le_of_ble_eq_true rfl) ⟨trivial, trivial, trivial, trivial⟩ [30] 60 (fun X hX K R1 T1 hK hR hT => ?_)
  conv => whnf
  refine ⟨fun z => absurd z t1, fun _ => ?_⟩
  conv => whnf
  refine ⟨fun z => absurd z (Int32.not_lt.mpr t2), fun _ => ?_⟩
  conv => whnf
  refine ⟨fun z => absurd z t3, fun _ => ?_⟩
  conv => whnf
  refine ⟨fun _ => ?_, fun z => absurd t4 z⟩
  conv => whnf
  refine hK _ _ _ _ (c_M_take_scan hX h m k h1 h2 h3 (fun e' e1 e2 e3 => ?_))
  obtain rfl : e' = e := by
    rcases Nat.lt_trichotomy e' e with z | z | z
    · exact absurd (e3 (by omega)) (hlo e' z)
    · exact z
    · exact absurd hf (e2 e z)
  have h137 := fun a3 cu hcu => c_M_take_137 hX (σ := st σ 7 0 (nI 0)) (Or.inl hd) hl h' m k e' h1 h3 he hf a3 cu hcu hA hB
  refine Go_run ok_M_take hX [137] 60 (fun K R1 T1 hK hR hT => ?_)
  conv => whnf
  refine ⟨fun _ => ?_, fun z => absurd hd z⟩
  conv => whnf
  refine ⟨fun _ => ?_, fun z => absurd rfl z⟩
  conv => whnf
  rw [h.2.1]
  refine ⟨fun _ => ?_, fun z => absurd (nI_inj (a := e') (b := N) (by omega) (by omega) z) (by omega)⟩
  conv => whnf
  refine ⟨fun _ => ?_, fun z => absurd c0n z⟩
  conv => whnf
  refine ⟨vp_in_nI (by omega) (by decide), ?_⟩
  rw [nI_clamp (by omega), m9]
  conv => whnf
  rw [e5]
  refine ⟨fun z => ?_, fun z => ?_⟩
  · conv => whnf
    have z1 := (nI_ltI (by omega) (by omega)).mp z
    exact hK _ _ _ _ (h137 _ _ ⟨fun q => by omega, fun _ => rfl⟩)
  · conv => whnf
    have z1 := (not_congr (nI_ltI (a := ln e') (b := m + 5) (by omega) (by omega))).mp z
    exact hK _ _ _ _ (h137 _ _ ⟨fun _ => rfl, fun q => by omega⟩)
theorem MP.mk_c {σ : Mem} {N : Nat} {ln kd : Nat → Nat} (h : MP σ N ln kd) {e m k : Nat} (he : e < N) (hk : k ≤ m) (hm : 1 ≤ m) (c : m + 5 ≤ ln e) : MP (mkM σ ln e m k N) (N + 1) (xln ln e (m + 2)) (xkd kd e (k + 1)) := by
  refine ⟨h.1.xn he (by omega) (by omega) (by omega), ?_, fun i hi => ?_⟩
  · unfold mkM; rw [if_pos c]; rfl
  · unfold mkM; rw [if_pos c]
    show upd (suF (σ 8) (e + 1) N) (e + 1) (nI (pos ln e + (m + 2))) i = _ ∧ upd (upd (suF (σ 9) (e + 1) N) (e + 1) (nI (ln e - (m + 2)))) e (nI (m + 2)) i = _ ∧ upd (upd (suF (σ 10) (e + 1) N) (e + 1) 0) e 1 i = _ ∧ (_ → upd (suF (σ 11) (e + 1) N) e (nI k) i = _)
    rcases Nat.lt_trichotomy i e with q | q | q
    · obtain ⟨m8, m9, m10, m11⟩ := h.2.2 i (by omega)
      rw [upd_n _ _ (by omega), upd_n _ _ (by omega), upd_n _ _ (by omega), upd_n _ _ (by omega), upd_n _ _ (by omega), upd_n _ _ (by omega), suF_lo _ (by omega), suF_lo _ (by omega), suF_lo _ (by omega), suF_lo _ (by omega), xln_lo q, xkd_lo q, xpos_lo (by omega)]
      exact ⟨m8, m9, m10, m11⟩
    · subst q
      obtain ⟨m8, m9, m10, m11⟩ := h.2.2 i (by omega)
      rw [upd_n _ _ (by omega), upd_s, upd_s, upd_s, suF_lo _ (by omega), xln_at, xkd_at, xpos_lo (by omega)]
      exact ⟨m8, rfl, by unfold ub; rw [if_neg (by omega)], fun _ => rfl⟩
    · rcases Nat.lt_or_ge (e + 1) i with q2 | q2
      · obtain ⟨m8, m9, m10, m11⟩ := h.2.2 (i - 1) (by omega)
        rw [upd_n _ _ (by omega), upd_n _ _ (by omega), upd_n _ _ (by omega), upd_n _ _ (by omega), upd_n _ _ (by omega), upd_n _ _ (by omega), suF_hi _ q2 (by omega), suF_hi _ q2 (by omega), suF_hi _ q2 (by omega), suF_hi _ q2 (by omega), xln_hi q2, xkd_hi q2, xpos_hi (by omega) q2]
        exact ⟨m8, m9, m10, m11⟩
      · obtain rfl : i = e + 1 := by omega
        rw [upd_s, upd_n _ _ (by omega), upd_s, upd_n _ _ (by omega), upd_s, xln_a1, xkd_a1, xpos_a1]
        exact ⟨rfl, rfl, rfl, fun z => absurd rfl z⟩
theorem MP.mk_n {σ : Mem} {N : Nat} {ln kd : Nat → Nat} (h : MP σ N ln kd) {e m k : Nat} (he : e < N) (hk : k ≤ m) (hm : m + 2 ≤ ln e) (c : ¬ m + 5 ≤ ln e) : MP (mkM σ ln e m k N) N ln (ukd kd e (k + 1)) := by
  refine ⟨h.1.un he (by omega), ?_, fun i hi => ?_⟩
  · unfold mkM; rw [if_neg c]; exact h.2.1
  · unfold mkM; rw [if_neg c]
    show σ 8 i = _ ∧ σ 9 i = _ ∧ upd (σ 10) e 1 i = _ ∧ (_ → upd (σ 11) e (nI k) i = _)
    obtain ⟨m8, m9, m10, m11⟩ := h.2.2 i hi
    unfold ukd
    by_cases q : i = e
    · subst q
      rw [upd_s, upd_s, if_pos rfl]
      exact ⟨m8, m9, by unfold ub; rw [if_neg (by omega)], fun _ => rfl⟩
    · rw [upd_n _ _ q, upd_n _ _ q, if_neg q]
      exact ⟨m8, m9, m10, m11⟩
end
section
/-! ===== the reference: what is reached ===== -/
theorem cntP_mono {P Q : Nat → Prop} : ∀ {n : Nat}, (∀ j, j < n → P j → Q j) → cntP P n ≤ cntP Q n
  | 0, _ => Nat.le_refl _
  | n + 1, h => by
    have h1 := cntP_mono (P := P) (Q := Q) (n := n) (fun j hj => h j (by omega))
    show cntP P n + @ite Nat (P n) (Classical.propDecidable _) 1 0 ≤ cntP Q n + @ite Nat (Q n) (Classical.propDecidable _) 1 0
    by_cases q : P n
    · rw [if_pos q, if_pos (h n (by omega) q)]; omega
    · rw [if_neg q]; omega
theorem cntP_back {P Q : Nat → Prop} : ∀ {n : Nat}, (∀ j, j < n → P j → Q j) → cntP Q n ≤ cntP P n → ∀ j, j < n → Q j → P j
  | 0, _, _ => fun j hj => absurd hj (Nat.not_lt_zero j)
  | n + 1, h, hc => by
    have h1 := cntP_mono (P := P) (Q := Q) (n := n) (fun j hj => h j (by omega))
    have hc' : cntP Q n + @ite Nat (Q n) (Classical.propDecidable _) 1 0 ≤ cntP P n + @ite Nat (P n) (Classical.propDecidable _) 1 0 := hc
    intro j hj hq
    by_cases p : P n
    · rw [if_pos p, if_pos (h n (by omega) p)] at hc'
      rcases Nat.lt_or_ge j n with z | z
      · exact cntP_back (fun j hj => h j (by omega)) (by omega) j z hq
      · obtain rfl : j = n := by omega
        exact p
    · rw [if_neg p] at hc'
      by_cases q : Q n
      · rw [if_pos q] at hc'; omega
      · rw [if_neg q] at hc'
        rcases Nat.lt_or_ge j n with z | z
        · exact cntP_back (fun j hj => h j (by omega)) (by omega) j z hq
        · obtain rfl : j = n := by omega
          exact absurd hq q
def mi_M_mark : MI := (b_M_mark, 3, "RootedWordsModel", none, 1, tbl_of 18 f_M_mark, fl_M, [(67, (7, 1, ct_M_at))], [])
theorem ok_M_mark : MOK mi_M_mark := ⟨tbl_ok k_M_mark, flok_M rfl, List.forall_mem_cons.mpr ⟨okV 2 (by decide) s_M_at rfl (Nat.le_of_ble_eq_true rfl) (Nat.le_of_ble_eq_true rfl) (by decide +kernel) lk_M_67 vv_M_at, (fun _ h => absurd h List.not_mem_nil)⟩⟩
theorem si_M_mark : ∀ q ∈ m_tr mi_M_mark, SiteF mi_M_mark q := (fun _ h => absurd h List.not_mem_nil)
theorem c_M_mark_us (σ : Mem) {N : Nat} {ln kd : Nat → Nat} (h : MP σ N ln kd) {a : Int32} {e : Nat} (hu : Usd N ln kd e a) : MetO y_M_mark mi_M_mark [.inr (.inl 7), .inl a] σ (.inl (none, st σ 12 e 1)) := by
  have hN := h.1.N85
  have he := hu.1
  refine met_go ok_M_mark ⟨rfl, rfl⟩ si_M_mark (Nat.le_of_ble_eq_true rfl) ⟨trivial, trivial, trivial⟩ [] 60 (fun X hX K R1 T1 hK hR hT => ?_)
  conv => whnf
  refine ⟨N, ln, kd, h, fun e' he' => ?_, fun q => absurd hu.us q⟩
  obtain rfl := h.1.uniq he' hu
  conv => whnf
  refine ⟨fun z => absurd z (nI_pos (by omega)), fun _ => ?_⟩
  conv => whnf
  refine ⟨vp_in_nI (by omega) (by decide), ?_⟩
  rw [nI_clamp (by omega)]
  conv => whnf
  exact hR _ _ rfl
theorem c_M_mark_no (σ : Mem) {N : Nat} {ln kd : Nat → Nat} (h : MP σ N ln kd) {a : Int32} (q : ¬ Us N ln kd a) : MetO y_M_mark mi_M_mark [.inr (.inl 7), .inl a] σ (.inl (none, σ)) := by
  refine met_go ok_M_mark ⟨rfl, rfl⟩ si_M_mark (Nat.le_of_ble_eq_true rfl) ⟨trivial, trivial, trivial⟩ [] 60 (fun X hX K R1 T1 hK hR hT => ?_)
  conv => whnf
  refine ⟨N, ln, kd, h, fun e' he' => absurd he'.us q, fun _ => ?_⟩
  conv => whnf
  refine ⟨fun _ => ?_, fun z => absurd (by decide) z⟩
  conv => whnf
  exact hR _ _ rfl
def ct_M_mark : CTy := fun as σ KN _ => ∃ N ln kd a, as = [.inl a] ∧ MP σ N ln kd ∧ (∀ e, Usd N ln kd e a → KN none (st σ 12 e 1)) ∧ (¬ Us N ln kd a → KN none σ)
theorem s_M_mark : Snd y_M_mark mi_M_mark 7 1 ct_M_mark := by
  intro as σ KN KX _ ⟨N, ln, kd, a, e, h, h1, h2⟩
  subst e
  by_cases q : Us N ln kd a
  · obtain ⟨e, he⟩ := q
    exact ⟨.inl (_, _), h1 e he, c_M_mark_us σ h he⟩
  · exact ⟨.inl (_, _), h2 q, c_M_mark_no σ h q⟩
def mi_M_countMarked : MI := (b_M_countMarked, 3, "RootedWordsModel", some .int, 0, tbl_of 37 f_M_countMarked, fl_M, [], [])
theorem ok_M_countMarked : MOK mi_M_countMarked := ⟨tbl_ok k_M_countMarked, flok_M rfl, (fun _ h => absurd h List.not_mem_nil)⟩
theorem si_M_countMarked : ∀ q ∈ m_tr mi_M_countMarked, SiteF mi_M_countMarked q := (fun _ h => absurd h List.not_mem_nil)
theorem c_M_countMarked_loop {X : CT} {oc : OC} (hX : CxO X mi_M_countMarked oc) {σ : Mem} {N : Nat} (hn : σ 7 1 = nI N) (hN : N ≤ 85) (ho : oc = .inl (some (.inl (nI (cntP (fun j => σ 12 j ≠ 0) N))), σ)) : ∀ (n i : Nat), i + n = N →
    Go X mi_M_countMarked 4 [some (.inr (.inl 7)), some (.inl (nI (cntP (fun j => σ 12 j ≠ 0) i))), some (.inl (nI i))] [] σ := by
  intro n
  induction n with
  | zero =>
    intro i hi
    obtain rfl : i = N := by omega
    refine Go_run ok_M_countMarked hX [4] 60 (fun K R1 T1 hK hR hT => ?_)
    conv => whnf
    rw [hn]
    refine ⟨fun _ => ?_, fun h1 => absurd (nI_le (Nat.le_refl _) (by omega)) h1⟩
    conv => whnf
    exact hR _ _ ho
  | succ n ih =>
    intro i hi
    have e2 : nI i + nI 1 = nI (i + 1) := nI_add i 1
    have e3 : nI (cntP (fun j => σ 12 j ≠ 0) i) + nI 1 = nI (cntP (fun j => σ 12 j ≠ 0) i + 1) := nI_add _ _
    have h9 := ih (i + 1) (by omega)
    unfold cntP at h9
    refine Go_run ok_M_countMarked hX [4] 60 (fun K R1 T1 hK hR hT => ?_)
    conv => whnf
    rw [hn]
    refine ⟨fun z => absurd z (nI_ge (by omega) (by omega)), fun _ => ?_⟩
    conv => whnf
    refine ⟨vp_in_nI (by omega) (by decide), ?_⟩
    rw [nI_clamp (by omega)]
    conv => whnf
    refine ⟨fun z => ?_, fun z => ?_⟩
    · conv => whnf
      refine hK _ _ _ _ ?_
      show Go X mi_M_countMarked 4 [some (.inr (.inl 7)), some (.inl (nI (cntP (fun j => σ 12 j ≠ 0) i))), some (.inl (nI i + nI 1))] [] σ
      rw [if_neg (fun q => q z)] at h9
      rw [e2]; exact h9
    · conv => whnf
      refine hK _ _ _ _ ?_
      show Go X mi_M_countMarked 4 [some (.inr (.inl 7)), some (.inl (nI (cntP (fun j => σ 12 j ≠ 0) i) + nI 1)), some (.inl (nI i + nI 1))] [] σ
      rw [if_pos z] at h9
      rw [e2, e3]; exact h9
theorem c_M_countMarked (σ : Mem) {N : Nat} (hn : σ 7 1 = nI N) (hN : N ≤ 85) : MetO y_M_countMarked mi_M_countMarked [.inr (.inl 7)] σ (.inl (some (.inl (nI (cntP (fun j => σ 12 j ≠ 0) N))), σ)) := by
  refine met_go ok_M_countMarked ⟨rfl, rfl⟩ si_M_countMarked (Nat.le_of_ble_eq_true rfl) ⟨trivial, trivial⟩ [4] 60 (fun X hX K R1 T1 hK hR hT => ?_)
  conv => whnf
  exact hK _ _ _ _ (c_M_countMarked_loop hX hn hN rfl N 0 (by omega))
def ct_M_countMarked : CTy := fun as σ KN _ => match as with
  | [] => ∃ N, σ 7 1 = nI N ∧ N ≤ 85 ∧ KN (some (.inl (nI (cntP (fun j => σ 12 j ≠ 0) N)))) σ
  | _ => False
theorem s_M_countMarked : Snd y_M_countMarked mi_M_countMarked 7 0 ct_M_countMarked := by
  intro as σ KN KX _ hf
  match as, hf with
  | [], ⟨N, hn, hN, hf⟩ => exact ⟨.inl (_, _), hf, c_M_countMarked σ hn hN⟩
/-- the model's words by the disk's places -/
def mwd (σ : Mem) : Nat → Int32 := fun p => if 257 ≤ p then σ 14 (p - 257) else σ 13 p
theorem mwd_r (σ : Mem) (r : Nat) : mwd σ (257 + r) = σ 14 r := by
  unfold mwd
  rw [if_pos (by omega), Nat.add_sub_cancel_left]
theorem mwd_w (σ : Mem) {p : Nat} (h : p < 257) : mwd σ p = σ 13 p := if_neg (by omega)
noncomputable def maF (σ : Mem) (N : Nat) (ln kd : Nat → Nat) : Nat → Int32 := fun e => if e < N then @ite _ (RS (mwd σ) N ln kd e) (Classical.propDecidable _) 1 0 else σ 12 e
theorem maF_bl {σ : Mem} {N : Nat} {ln kd : Nat → Nat} (h : ∀ j, bl (σ 12 j)) (j : Nat) : bl (maF σ N ln kd j) := by
  unfold maF
  by_cases q : j < N
  · rw [if_pos q]
    by_cases z : RS (mwd σ) N ln kd j
    · rw [if_pos z]; exact Or.inr rfl
    · rw [if_neg z]; exact Or.inl rfl
  · rw [if_neg q]; exact h j
theorem maF_rs {σ : Mem} {N : Nat} {ln kd : Nat → Nat} {j : Nat} (hj : j < N) : maF σ N ln kd j ≠ 0 ↔ RS (mwd σ) N ln kd j := by
  unfold maF
  rw [if_pos hj]
  by_cases z : RS (mwd σ) N ln kd j
  · rw [if_pos z]; exact ⟨fun _ => z, fun _ => by decide⟩
  · rw [if_neg z]; exact ⟨fun q => absurd rfl q, fun q => absurd q z⟩
/-- marks on the way -/
def IM (σ : Mem) (N : Nat) (ln kd : Nat → Nat) (m : Nat → Int32) : Prop := (∀ e, e < N → m e ≠ 0 → RS (mwd σ) N ln kd e) ∧ (∀ e, e < N → bl (m e)) ∧ (∀ e, N ≤ e → m e = σ 12 e)
def CovM (N : Nat) (ln kd : Nat → Nat) (m : Nat → Int32) (x : Int32) : Prop := ∀ e, Usd N ln kd e x → m e ≠ 0
def LeM (m m' : Nat → Int32) : Prop := ∀ e, m e ≠ 0 → m' e ≠ 0
theorem LeM.rf (m : Nat → Int32) : LeM m m := fun _ h => h
theorem LeM.tr {m m1 m2 : Nat → Int32} (h : LeM m m1) (h' : LeM m1 m2) : LeM m m2 := fun e z => h' e (h e z)
theorem CovM.le {N : Nat} {ln kd : Nat → Nat} {m m' : Nat → Int32} {x : Int32} (h : CovM N ln kd m x) (q : LeM m m') : CovM N ln kd m' x := fun e he => q e (h e he)
theorem LeM.upd (m : Nat → Int32) (e : Nat) : LeM m (upd m e 1) := by
  intro j hj
  by_cases q : j = e
  · rw [q, upd_s]; decide
  · rw [upd_n _ _ q]; exact hj
theorem IM.upd {σ : Mem} {N : Nat} {ln kd : Nat → Nat} {m : Nat → Int32} (h : IM σ N ln kd m) {e : Nat} (he : e < N) (hr : RS (mwd σ) N ln kd e) : IM σ N ln kd (upd m e 1) := by
  refine ⟨fun j hj hz => ?_, fun j hj => ?_, fun j hj => ?_⟩
  · by_cases q : j = e
    · rw [q]; exact hr
    · rw [upd_n _ _ q] at hz; exact h.1 j hj hz
  · by_cases q : j = e
    · rw [q, upd_s]; exact Or.inr rfl
    · rw [upd_n _ _ q]; exact h.2.1 j hj
  · rw [upd_n _ _ (by omega)]; exact h.2.2 j hj
theorem IM.end {σ : Mem} {N : Nat} {ln kd : Nat → Nat} {m : Nat → Int32} (h : IM σ N ln kd m) (hr : ∀ r, r < 8 → CovM N ln kd m (σ 14 r)) (hc : ∀ e, e < N → m e ≠ 0 → ∀ i, i + 1 < kd e → CovM N ln kd m (mwd σ (pos ln e + 1 + i))) : m = maF σ N ln kd := by
  have key : ∀ e, RS (mwd σ) N ln kd e → m e ≠ 0 := fun e he => he (fun e => m e ≠ 0) (fun r hr8 j hj => hr r hr8 j (by rw [mwd_r] at hj; exact hj)) (fun j hj hjN i hi j' hj' => hc j hjN hj i hi j' hj')
  funext e
  unfold maF
  by_cases q : e < N
  · rw [if_pos q]
    by_cases z : RS (mwd σ) N ln kd e
    · rw [if_pos z]
      exact (h.2.1 e q).resolve_left (key e z)
    · rw [if_neg z]
      exact Classical.byContradiction (fun y => z (h.1 e q y))
  · rw [if_neg q]; exact h.2.2 e (by omega)
theorem stA12 (σ : Mem) (m : Nat → Int32) (e : Nat) (v : Int32) : st (stA σ 12 m) 12 e v = stA σ 12 (upd m e v) := by rw [st_stA, stA_stA, stA_self]
def mi_M_markAll : MI := (b_M_markAll, 4, "RootedWordsModel", some .int, 2, tbl_of 129 f_M_markAll, fl_M, [(83, (7, 1, ct_M_mark)), (87, (7, 0, ct_M_countMarked))], [])
theorem ok_M_markAll : MOK mi_M_markAll := ⟨tbl_ok k_M_markAll, flok_M rfl, List.forall_mem_cons.mpr ⟨okV 2 (by decide) s_M_mark rfl (Nat.le_of_ble_eq_true rfl) (Nat.le_of_ble_eq_true rfl) (by decide +kernel) lk_M_83 vv_M_mark, List.forall_mem_cons.mpr ⟨okV 2 (by decide) s_M_countMarked rfl (Nat.le_of_ble_eq_true rfl) (Nat.le_of_ble_eq_true rfl) (by decide +kernel) lk_M_87 vv_M_countMarked, (fun _ h => absurd h List.not_mem_nil)⟩⟩⟩
theorem si_M_markAll : ∀ q ∈ m_tr mi_M_markAll, SiteF mi_M_markAll q := (fun _ h => absurd h List.not_mem_nil)
/-- the pointers of one extent -/
theorem c_M_ma_74 {X : CT} {oc : OC} (hX : CxO X mi_M_markAll oc) {σ : Mem} {N : Nat} {ln kd : Nat → Nat} (h : MP σ N ln kd) {e : Nat} (he : e < N) (b : Option AV) {m0 : Nat → Int32}
    (hG : ∀ m' x, IM σ N ln kd m' → LeM m0 m' → (∀ i, i + 1 < kd e → CovM N ln kd m' (mwd σ (pos ln e + 1 + i))) → Go X mi_M_markAll 118 [some (.inr (.inl 7)), b, some (.inl (nI e)), x] [] (stA σ 12 m')) :
    ∀ (n i : Nat) (m : Nat → Int32), i + n + 1 = kd e → IM σ N ln kd m → LeM m0 m → m e ≠ 0 → (∀ i', i' < i → CovM N ln kd m (mwd σ (pos ln e + 1 + i'))) → Go X mi_M_markAll 74 [some (.inr (.inl 7)), b, some (.inl (nI e)), some (.inl (nI i))] [] (stA σ 12 m) := by
  have hN := h.1.N85
  have g := h.1.lt he
  have g3 := h.1.kdl he
  have g4 := h.1.end he
  obtain ⟨m8, m9, m10, m11⟩ := h.2.2 e he
  intro n
  induction n with
  | zero =>
    intro i m hi hm hle hme hc
    have m11' : stA σ 12 m 11 e = nI (kd e - 1) := m11 (by omega)
    have m12' : stA σ 12 m 12 e = m e := rfl
    refine Go_run ok_M_markAll hX [118] 60 (fun K R1 T1 hK hR hT => ?_)
    conv => whnf
    refine ⟨vp_in_nI (by omega) (by decide), ?_⟩
    rw [nI_clamp (by omega), m12']
    conv => whnf
    refine ⟨fun z => absurd z hme, fun _ => ?_⟩
    conv => whnf
    refine ⟨vp_in_nI (by omega) (by decide), ?_⟩
    rw [nI_clamp (by omega), m11']
    conv => whnf
    refine ⟨fun _ => ?_, fun z => absurd (nI_le (by omega) (by omega)) z⟩
    conv => whnf
    exact hK _ _ _ _ (hG m _ hm hle (fun i' hi' => hc i' (by omega)))
  | succ n ih =>
    intro i m hi hm hle hme hc
    have m11' : stA σ 12 m 11 e = nI (kd e - 1) := m11 (by omega)
    have m12' : stA σ 12 m 12 e = m e := rfl
    have m8' : stA σ 12 m 8 e = nI (pos ln e) := m8
    have hre := hm.1 e he hme
    have e2 : nI i + nI 1 = nI (i + 1) := nI_add i 1
    have e3 : nI (pos ln e) + nI 1 + nI i = nI (pos ln e + 1 + i) := by rw [nI_add, nI_add]
    have ew : mwd σ (pos ln e + 1 + i) = σ 13 (pos ln e + 1 + i) := mwd_w σ (by omega)
    have nxt : ∀ m', IM σ N ln kd m' → LeM m m' → CovM N ln kd m' (mwd σ (pos ln e + 1 + i)) → Go X mi_M_markAll 74 [some (.inr (.inl 7)), b, some (.inl (nI e)), some (.inl (nI i + nI 1))] [] (stA σ 12 m') := by
      intro m' h1 h2 h3
      rw [e2]
      refine ih (i + 1) m' (by omega) h1 (hle.tr h2) (h2 e hme) (fun i' hi' => ?_)
      rcases Nat.lt_or_ge i' i with q | q
      · exact (hc i' q).le h2
      · obtain rfl : i' = i := by omega
        exact h3
    refine Go_run ok_M_markAll hX [74] 60 (fun K R1 T1 hK hR hT => ?_)
    conv => whnf
    refine ⟨vp_in_nI (by omega) (by decide), ?_⟩
    rw [nI_clamp (by omega), m12']
    conv => whnf
    refine ⟨fun z => absurd z hme, fun _ => ?_⟩
    conv => whnf
    refine ⟨vp_in_nI (by omega) (by decide), ?_⟩
    rw [nI_clamp (by omega), m11']
    conv => whnf
    refine ⟨fun z => absurd z (nI_ge (by omega) (by omega)), fun _ => ?_⟩
    conv => whnf
    refine ⟨vp_in_nI (by omega) (by decide), ?_⟩
    rw [nI_clamp (by omega), m8']
    conv => whnf
    rw [e3]
    refine ⟨vp_in_nI (by omega) (by decide), ?_⟩
    rw [nI_clamp (by omega)]
    conv => whnf
    refine ⟨N, ln, kd, σ 13 (pos ln e + 1 + i), rfl, h.cong rfl rfl rfl rfl rfl, fun e' he' => ?_, fun q => ?_⟩
    · conv => whnf
      refine hK _ _ _ _ ?_
      rw [stA12]
      refine nxt _ (hm.upd he'.1 (hre.step he (i := i) (by omega) (by rw [ew]; exact he'))) (LeM.upd m e') (fun e2 he2 => ?_)
      rw [ew] at he2
      rw [h.1.uniq he2 he', upd_s]; decide
    · conv => whnf
      refine hK _ _ _ _ (nxt m hm (LeM.rf m) (fun e2 he2 => ?_))
      rw [ew] at he2
      exact absurd he2.us q
/-- one pass -/
theorem c_M_ma_64 {X : CT} {oc : OC} (hX : CxO X mi_M_markAll oc) {σ : Mem} {N : Nat} {ln kd : Nat → Nat} (h : MP σ N ln kd) (b : Option AV) {m0 : Nat → Int32}
    (hG : ∀ m' x y, IM σ N ln kd m' → LeM m0 m' → (∀ e, e < N → m0 e ≠ 0 → ∀ i, i + 1 < kd e → CovM N ln kd m' (mwd σ (pos ln e + 1 + i))) → Go X mi_M_markAll 49 [some (.inr (.inl 7)), b, x, y] [] (stA σ 12 m')) :
    ∀ (n e : Nat) (m : Nat → Int32) (y : Option AV), e + n = N → IM σ N ln kd m → LeM m0 m → (∀ e', e' < e → m0 e' ≠ 0 → ∀ i, i + 1 < kd e' → CovM N ln kd m (mwd σ (pos ln e' + 1 + i))) → Go X mi_M_markAll 64 [some (.inr (.inl 7)), b, some (.inl (nI e)), y] [] (stA σ 12 m) := by
  have hN := h.1.N85
  intro n
  induction n with
  | zero =>
    intro e m y he hm hle hc
    obtain rfl : e = N := by omega
    have hn : stA σ 12 m 7 1 = nI e := h.2.1
    refine Go_run ok_M_markAll hX [49] 60 (fun K R1 T1 hK hR hT => ?_)
    conv => whnf
    rw [hn]
    refine ⟨fun _ => ?_, fun z => absurd (nI_le (Nat.le_refl _) (by omega)) z⟩
    conv => whnf
    exact hK _ _ _ _ (hG m _ _ hm hle hc)
  | succ n ih =>
    intro e m y he hm hle hc
    have he' : e < N := by omega
    have hn : stA σ 12 m 7 1 = nI N := h.2.1
    have e2 : nI e + nI 1 = nI (e + 1) := nI_add e 1
    have nxt : ∀ m' x, IM σ N ln kd m' → LeM m m' → (m0 e ≠ 0 → ∀ i, i + 1 < kd e → CovM N ln kd m' (mwd σ (pos ln e + 1 + i))) → Go X mi_M_markAll 118 [some (.inr (.inl 7)), b, some (.inl (nI e)), x] [] (stA σ 12 m') := by
      intro m' x h1 h2 h3
      refine Go_run ok_M_markAll hX [64] 60 (fun K R1 T1 hK hR hT => ?_)
      conv => whnf
      refine hK _ _ _ _ ?_
      show Go X mi_M_markAll 64 [some (.inr (.inl 7)), b, some (.inl (nI e + nI 1)), x] [] (stA σ 12 m')
      rw [e2]
      refine ih (e + 1) m' x (by omega) h1 (hle.tr h2) (fun e' q1 q2 i q3 => ?_)
      rcases Nat.lt_or_ge e' e with q | q
      · exact (hc e' q q2 i q3).le h2
      · obtain rfl : e' = e := by omega
        exact h3 q2 i q3
    by_cases hme : m e = 0
    · refine Go_run ok_M_markAll hX [118] 60 (fun K R1 T1 hK hR hT => ?_)
      conv => whnf
      rw [hn]
      refine ⟨fun z => absurd z (nI_ge he' (by omega)), fun _ => ?_⟩
      have m12' : stA σ 12 m 12 e = m e := rfl
      conv => whnf
      refine ⟨vp_in_nI (by omega) (by decide), ?_⟩
      rw [nI_clamp (by omega), m12']
      conv => whnf
      refine ⟨fun _ => ?_, fun z => absurd hme z⟩
      conv => whnf
      exact hK _ _ _ _ (nxt m _ hm (LeM.rf m) (fun q => absurd hme (hle e q)))
    · have hu := (hm.1 e he' hme).used
      refine Go_run ok_M_markAll hX [74] 60 (fun K R1 T1 hK hR hT => ?_)
      conv => whnf
      rw [hn]
      refine ⟨fun z => absurd z (nI_ge he' (by omega)), fun _ => ?_⟩
      conv => whnf
      exact hK _ _ _ _ (c_M_ma_74 hX h he' b (m0 := m) (fun m' x h1 h2 h3 => nxt m' x h1 h2 (fun _ => h3)) (kd e - 1) 0 m (by omega) hm (LeM.rf m) hme (fun i' hi' => absurd hi' (Nat.not_lt_zero _)))
theorem c_M_ma_49 {X : CT} {oc : OC} (hX : CxO X mi_M_markAll oc) {σ : Mem} {N : Nat} {ln kd : Nat → Nat} (h : MP σ N ln kd) (ho : oc = .inl (some (.inl (nI (cntP (RS (mwd σ) N ln kd) N))), stA σ 12 (maF σ N ln kd))) :
    ∀ (n : Nat) (m : Nat → Int32) (b : Int32) (x y : Option AV), IM σ N ln kd m → (∀ r, r < 8 → CovM N ln kd m (σ 14 r)) →
      ((b = -1 ∧ N + 2 < n) ∨ ∃ m0, b = nI (cntP (fun j => m0 j ≠ 0) N) ∧ N < cntP (fun j => m0 j ≠ 0) N + n ∧ LeM m0 m ∧ (∀ e, e < N → m0 e ≠ 0 → ∀ i, i + 1 < kd e → CovM N ln kd m (mwd σ (pos ln e + 1 + i)))) →
      Go X mi_M_markAll 49 [some (.inr (.inl 7)), some (.inl b), x, y] [] (stA σ 12 m) := by
  have hN := h.1.N85
  intro n
  induction n with
  | zero =>
    intro m b x y hm hr hb
    rcases hb with ⟨_, hb⟩ | ⟨m0, _, hb, _⟩
    · exact absurd hb (by omega)
    · have := cntP_le (fun j => m0 j ≠ 0) N
      omega
  | succ n ih =>
    intro m b x y hm hr hb
    have hn : stA σ 12 m 7 1 = nI N := h.2.1
    have hcl := cntP_le (fun j => m j ≠ 0) N
    refine Go_run ok_M_markAll hX [64] 60 (fun K R1 T1 hK hR hT => ?_)
    conv => whnf
    refine ⟨N, hn, hN, ?_⟩
    have hcm : cntP (fun j => stA σ 12 m 12 j ≠ 0) N = cntP (fun j => m j ≠ 0) N := rfl
    rw [hcm]
    conv => whnf
    refine ⟨fun z => ?_, fun z => ?_⟩
    · conv => whnf
      rcases hb with ⟨hb, _⟩ | ⟨m0, hb, _, hle, hc⟩
      · rw [hb] at z
        exact absurd z (Int32.not_le.mpr (by
          rw [Int32.lt_iff_toInt_lt, nI_toInt (by omega)]
          have : (-1 : Int32).toInt = -1 := by decide
          rw [this]; omega))
      · rw [hb] at z ⊢
        have hc0 := cntP_le (fun j => m0 j ≠ 0) N
        have z1 := (nI_leI (by omega) (by omega)).mp z
        have hbk := cntP_back (P := fun j => m0 j ≠ 0) (Q := fun j => m j ≠ 0) (fun j _ hj => hle j hj) z1
        have hmono := cntP_mono (P := fun j => m0 j ≠ 0) (Q := fun j => m j ≠ 0) (n := N) (fun j _ hj => hle j hj)
        have hend := hm.end hr (fun e he hme => hc e he (hbk e he hme))
        refine hR _ _ ?_
        have e5 : cntP (fun j => m0 j ≠ 0) N = cntP (RS (mwd σ) N ln kd) N := cntP_cong (fun j hj => by
          refine ⟨fun q => hm.1 j hj (hle j q), fun q => hbk j hj ?_⟩
          rw [hend]; exact (maF_rs hj).mpr q)
        rw [ho, e5, hend]; rfl
    · conv => whnf
      refine ⟨N, hn, hN, ?_⟩
      conv => whnf
      refine hK _ _ _ _ (c_M_ma_64 hX h _ (m0 := m) (fun m' x' y' h1 h2 h3 => ?_) N 0 m y (by omega) hm (LeM.rf m) (fun e' q => absurd q (Nat.not_lt_zero _)))
      refine ih m' _ x' y' h1 (fun r hr8 => (hr r hr8).le h2) (Or.inr ⟨m, rfl, ?_, h2, h3⟩)
      rcases hb with ⟨hb, hb2⟩ | ⟨m0, hb, hb2, hle, hc⟩
      · omega
      · rw [hb] at z
        have hc0 := cntP_le (fun j => m0 j ≠ 0) N
        have z1 := (not_congr (nI_leI (by omega) (by omega))).mp z
        omega
theorem c_M_ma_25 {X : CT} {oc : OC} (hX : CxO X mi_M_markAll oc) {σ : Mem} {N : Nat} {ln kd : Nat → Nat} (h : MP σ N ln kd) (ho : oc = .inl (some (.inl (nI (cntP (RS (mwd σ) N ln kd) N))), stA σ 12 (maF σ N ln kd))) (x y : Option AV) :
    ∀ (n r : Nat) (m : Nat → Int32), r + n = 8 → IM σ N ln kd m → (∀ r', r' < r → CovM N ln kd m (σ 14 r')) → Go X mi_M_markAll 25 [some (.inr (.inl 7)), some (.inl (nI r)), x, y] [] (stA σ 12 m) := by
  have hN := h.1.N85
  intro n
  induction n with
  | zero =>
    intro r m hrn hm hr
    obtain rfl : r = 8 := by omega
    refine Go_run ok_M_markAll hX [49] 60 (fun K R1 T1 hK hR hT => ?_)
    conv => whnf
    refine ⟨fun _ => ?_, fun z => absurd (nI_le (Nat.le_refl _) (by decide)) z⟩
    conv => whnf
    exact hK _ _ _ _ (c_M_ma_49 hX h ho (N + 3) m (-1) _ _ hm hr (Or.inl ⟨rfl, by omega⟩))
  | succ n ih =>
    intro r m hrn hm hr
    have e2 : nI r + nI 1 = nI (r + 1) := nI_add r 1
    have nxt : ∀ m', IM σ N ln kd m' → LeM m m' → CovM N ln kd m' (σ 14 r) → Go X mi_M_markAll 25 [some (.inr (.inl 7)), some (.inl (nI r + nI 1)), x, y] [] (stA σ 12 m') := by
      intro m' h1 h2 h3
      rw [e2]
      refine ih (r + 1) m' (by omega) h1 (fun r' hr' => ?_)
      rcases Nat.lt_or_ge r' r with q | q
      · exact (hr r' q).le h2
      · obtain rfl : r' = r := by omega
        exact h3
    refine Go_run ok_M_markAll hX [25] 60 (fun K R1 T1 hK hR hT => ?_)
    conv => whnf
    refine ⟨fun z => absurd z (nI_ge (by omega) (by decide)), fun _ => ?_⟩
    conv => whnf
    refine ⟨vp_in_nI (by omega) (by decide), ?_⟩
    rw [nI_clamp (by omega)]
    conv => whnf
    refine ⟨N, ln, kd, σ 14 r, rfl, h.cong rfl rfl rfl rfl rfl, fun e' he' => ?_, fun q => ?_⟩
    · conv => whnf
      refine hK _ _ _ _ ?_
      rw [stA12]
      refine nxt _ (hm.upd he'.1 (RS.root (r := r) (by omega) (by rw [mwd_r]; exact he'))) (LeM.upd m e') (fun e2 he2 => ?_)
      rw [h.1.uniq he2 he', upd_s]; decide
    · conv => whnf
      refine hK _ _ _ _ (nxt m hm (LeM.rf m) (fun e2 he2 => absurd he2.us q))
theorem c_M_ma_2 {X : CT} {oc : OC} (hX : CxO X mi_M_markAll oc) {σ : Mem} {N : Nat} {ln kd : Nat → Nat} (h : MP σ N ln kd) (ho : oc = .inl (some (.inl (nI (cntP (RS (mwd σ) N ln kd) N))), stA σ 12 (maF σ N ln kd))) (x y : Option AV) :
    ∀ (n i : Nat), i + n = N → Go X mi_M_markAll 2 [some (.inr (.inl 7)), some (.inl (nI i)), x, y] [] (stA σ 12 (fl0 (fun _ => 0) (σ 12) i)) := by
  have hN := h.1.N85
  intro n
  induction n with
  | zero =>
    intro i hi
    obtain rfl : i = N := by omega
    have hn : stA σ 12 (fl0 (fun _ => 0) (σ 12) i) 7 1 = nI i := h.2.1
    refine Go_run ok_M_markAll hX [25] 60 (fun K R1 T1 hK hR hT => ?_)
    conv => whnf
    rw [hn]
    refine ⟨fun _ => ?_, fun z => absurd (nI_le (Nat.le_refl _) (by omega)) z⟩
    conv => whnf
    refine hK _ _ _ _ (c_M_ma_25 hX h ho _ _ 8 0 _ (by omega) ⟨fun e he hz => ?_, fun e he => ?_, fun e he => ?_⟩ (fun r' q => absurd q (Nat.not_lt_zero _)))
    · rw [fl0_in he] at hz; exact absurd rfl hz
    · rw [fl0_in he]; exact Or.inl rfl
    · rw [fl0_out he]
  | succ n ih =>
    intro i hi
    have e2 : nI i + nI 1 = nI (i + 1) := nI_add i 1
    have hn : stA σ 12 (fl0 (fun _ => 0) (σ 12) i) 7 1 = nI N := h.2.1
    refine Go_run ok_M_markAll hX [2] 60 (fun K R1 T1 hK hR hT => ?_)
    conv => whnf
    rw [hn]
    refine ⟨fun z => absurd z (nI_ge (by omega) (by omega)), fun _ => ?_⟩
    conv => whnf
    refine ⟨vp_in_nI (by omega) (by decide), ?_⟩
    rw [nI_clamp (by omega)]
    conv => whnf
    refine hK _ _ _ _ ?_
    show Go X mi_M_markAll 2 [some (.inr (.inl 7)), some (.inl (nI i + nI 1)), x, y] [] (st (stA σ 12 (fl0 (fun _ => 0) (σ 12) i)) 12 i 0)
    rw [e2, stA12, fl0_s (fun _ => 0) (σ 12) i]
    exact ih (i + 1) (by omega)
theorem c_M_markAll (σ : Mem) {N : Nat} {ln kd : Nat → Nat} (h : MP σ N ln kd) : MetO y_M_markAll mi_M_markAll [.inr (.inl 7)] σ (.inl (some (.inl (nI (cntP (RS (mwd σ) N ln kd) N))), stA σ 12 (maF σ N ln kd))) := by
  refine met_go ok_M_markAll ⟨rfl, rfl⟩ si_M_markAll (Nat.le_of_ble_eq_true rfl) ⟨trivial, trivial⟩ [2] 60 (fun X hX K R1 T1 hK hR hT => ?_)
  conv => whnf
  refine hK _ _ _ _ ?_
  have h9 := c_M_ma_2 hX h rfl none none N 0 (by omega)
  rw [fl0_0, stA_id] at h9
  exact h9
def ct_M_markAll : CTy := fun as σ KN _ => match as with
  | [] => ∃ N ln kd, MP σ N ln kd ∧ KN (some (.inl (nI (cntP (RS (mwd σ) N ln kd) N)))) (stA σ 12 (maF σ N ln kd))
  | _ => False
theorem s_M_markAll : Snd y_M_markAll mi_M_markAll 7 0 ct_M_markAll := by
  intro as σ KN KX _ hf
  match as, hf with
  | [], ⟨N, ln, kd, h, hf⟩ => exact ⟨.inl (_, _), hf, c_M_markAll σ h⟩
def mi_M_reached : MI := (b_M_reached, 1, "RootedWordsModel", some .int, 3, tbl_of 32 f_M_reached, fl_M, [(91, (7, 0, ct_M_markAll))], [])
theorem ok_M_reached : MOK mi_M_reached := ⟨tbl_ok k_M_reached, flok_M rfl, List.forall_mem_cons.mpr ⟨okV 2 (by decide) s_M_markAll rfl (Nat.le_of_ble_eq_true rfl) (Nat.le_of_ble_eq_true rfl) (by decide +kernel) lk_M_91 vv_M_markAll, (fun _ h => absurd h List.not_mem_nil)⟩⟩
theorem si_M_reached : ∀ q ∈ m_tr mi_M_reached, SiteF mi_M_reached q := (fun _ h => absurd h List.not_mem_nil)
theorem c_M_reached_down (σ : Mem) (hd : σ 7 11 = 1) : MetO y_M_reached mi_M_reached [.inr (.inl 7)] σ (.inl (some (.inl 0), st σ 7 0 1)) := by
  refine met_go ok_M_reached ⟨rfl, rfl⟩ si_M_reached (Nat.le_of_ble_eq_true rfl) ⟨trivial, trivial⟩ [] 60 (fun X hX K R1 T1 hK hR hT => ?_)
  conv => whnf
  refine ⟨fun z => absurd (hd.symm.trans z) (by decide), fun _ => ?_⟩
  conv => whnf
  refine ⟨fun z => absurd z (cIn (k := 1) (by decide)), fun _ => ?_⟩
  conv => whnf
  exact hR _ _ rfl
theorem c_M_reached_up (σ : Mem) (hd : σ 7 11 = 0) {N : Nat} {ln kd : Nat → Nat} (h : MP σ N ln kd) : MetO y_M_reached mi_M_reached [.inr (.inl 7)] σ (.inl (some (.inl (nI (cntP (RS (mwd σ) N ln kd) N))), stA (st σ 7 0 (nI 0)) 12 (maF σ N ln kd))) := by
  refine met_go ok_M_reached ⟨rfl, rfl⟩ si_M_reached (Nat.le_of_ble_eq_true rfl) ⟨trivial, trivial⟩ [] 60 (fun X hX K R1 T1 hK hR hT => ?_)
  conv => whnf
  refine ⟨fun _ => ?_, fun z => absurd hd z⟩
  conv => whnf
  refine ⟨fun _ => ?_, fun z => absurd c0n z⟩
  conv => whnf
  refine ⟨N, ln, kd, h.st7 0 (nI 0) (by decide), ?_⟩
  conv => whnf
  exact hR _ _ rfl
end
section
/-! ===== writes, in closed form ===== -/
def apl : (Nat → Int32) → List (Nat × Int32) → Nat → Int32
  | w, [] => w
  | w, q :: l => apl (upd w q.1 q.2) l
theorem apl_app : ∀ (l1 l2 : List (Nat × Int32)) (w : Nat → Int32), apl w (l1 ++ l2) = apl (apl w l1) l2
  | [], _, _ => rfl
  | q :: l1, l2, w => apl_app l1 l2 (upd w q.1 q.2)
theorem apl_ne : ∀ (l : List (Nat × Int32)) (w : Nat → Int32) (p : Nat), (∀ q ∈ l, q.1 ≠ p) → apl w l p = w p
  | [], _, _, _ => rfl
  | q :: l, w, p, h => by
    show apl (upd w q.1 q.2) l p = w p
    rw [apl_ne l _ p (fun z hz => h z (List.mem_cons_of_mem _ hz)), upd_n _ _ (Ne.symm (h q List.mem_cons_self))]
theorem apl_pt : ∀ (l : List (Nat × Int32)) (w v : Nat → Int32) (p : Nat), w p = v p → apl w l p = apl v l p
  | [], _, _, _, h => h
  | q :: l, w, v, p, h => by
    refine apl_pt l (upd w q.1 q.2) (upd v q.1 q.2) p ?_
    unfold upd
    by_cases z : p = q.1
    · rw [if_pos z, if_pos z]
    · rw [if_neg z, if_neg z]; exact h
theorem apl_in : ∀ (l : List (Nat × Int32)) (w v : Nat → Int32) (p : Nat), (∃ q ∈ l, q.1 = p) → apl w l p = apl v l p
  | [], _, _, _, ⟨_, h, _⟩ => absurd h List.not_mem_nil
  | q :: l, w, v, p, h => by
    show apl (upd w q.1 q.2) l p = apl (upd v q.1 q.2) l p
    by_cases z : q.1 = p
    · refine apl_pt l _ _ p ?_
      rw [← z, upd_s, upd_s]
    · obtain ⟨q', h1, h2⟩ := h
      rcases List.mem_cons.mp h1 with rfl | h1
      · exact absurd h2 z
      · exact apl_in l _ _ p ⟨q', h1, h2⟩
/-- done again, from a place where some of it was done -/
theorem apl_again (l : List (Nat × Int32)) (m : Nat) (w : Nat → Int32) : apl (apl w (l.take m)) l = apl w l := by
  funext p
  by_cases h : ∃ q ∈ l, q.1 = p
  · exact apl_in l _ _ p h
  · refine apl_pt l _ _ p (apl_ne _ _ p (fun q hq z => h ⟨q, List.mem_of_mem_take hq, z⟩))
def o1 (f : Nat → Int32) (n : Nat) : Nat → Int32 := fun k => if k = 2 then f 2 + nI n else if k = 3 then lsub (f 3) n else f k
def o1F (f : Nat → Int32) (n : Nat) : Nat → Int32 := fun k => if k = 2 then f 2 + nI n else if k = 3 then -1 else if k = 4 then 1 else f k
theorem lsub_m1 (n : Nat) : lsub (-1) n = -1 := if_pos m1_lt
theorem lsub_n {j n : Nat} (h : n ≤ j) (h2 : j ≤ 1000) : lsub (nI j) n = nI (j - n) := by
  unfold lsub
  rw [if_neg (nI_pos (by omega)), pk_sub h]
theorem stA2 (σ : Mem) (w w' f f' : Nat → Int32) : stA (stA (stA (stA σ 2 w) 1 f) 2 w') 1 f' = stA (stA σ 2 w') 1 f' := by
  funext a
  unfold stA
  by_cases h1 : a = 1
  · rw [if_pos h1, if_pos h1]
  · rw [if_neg h1, if_neg h1]
    by_cases h2 : a = 2
    · rw [if_pos h2, if_neg h1, if_pos h2]
    · simp only [if_neg h1, if_neg h2]
theorem wrO_cl {σ : Mem} (p : Nat) (w : Int32) (h : lGo (σ 1 3) 1) : wrO σ p w = stA (stA σ 2 (upd (σ 2) p w)) 1 (o1 (σ 1) 1) := by
  have key : wrD σ = stA σ 1 (fun k => if k = 3 then lsub (σ 1 3) 1 else σ 1 k) := by
    unfold wrD
    rcases h with h | ⟨j, h1, h2, h3⟩
    · rw [h, lsub_m1, if_pos (by decide)]
      funext a
      unfold stA
      by_cases q : a = 1
      · rw [if_pos q, q]
        funext k
        by_cases q2 : k = 3
        · rw [if_pos q2, q2, h]
        · rw [if_neg q2]
      · rw [if_neg q]
    · rw [h3, lsub_n h1 h2, if_neg (fun z => by have := (nI_leI (a := j) (b := 0) (by omega) (by decide)).mp z; omega), st_stA]
      congr 1
      funext k
      unfold upd
      by_cases q2 : k = 3
      · rw [if_pos q2, if_pos q2]; exact pk_sub h1
      · rw [if_neg q2, if_neg q2]
  unfold wrO
  rw [key]
  funext a
  by_cases h1 : a = 1
  · rw [h1, st_self, stA_self, st_ne _ _ _ (by decide), stA_self]
    funext k
    unfold upd o1
    by_cases q : k = 2
    · rw [if_pos q, if_pos q]; rfl
    · rw [if_neg q, if_neg q]
  · rw [st_ne _ _ _ h1, stA_ne _ _ h1]
    by_cases h2 : a = 2
    · rw [h2, st_self, stA_self, stA_ne _ _ (by decide)]
    · rw [st_ne _ _ _ h2, stA_ne _ _ h1, stA_ne _ _ h2]
theorem o1_o1 (f : Nat → Int32) {n : Nat} (h : lGo (f 3) (n + 1)) : o1 (o1 f 1) n = o1 f (n + 1) := by
  funext k
  by_cases q : k = 2
  · subst q
    show f 2 + nI 1 + nI n = f 2 + nI (n + 1)
    rw [Int32.add_assoc, nI_add, Nat.add_comm]
  · by_cases q2 : k = 3
    · subst q2
      show lsub (lsub (f 3) 1) n = lsub (f 3) (n + 1)
      rcases h with h | ⟨j, h1, h2, h3⟩
      · rw [h, lsub_m1, lsub_m1, lsub_m1]
      · rw [h3, lsub_n (by omega) h2, lsub_n (by omega) (by omega), lsub_n h1 h2]
        exact nI_eqI (by omega)
    · simp only [o1, if_neg q, if_neg q2]
theorem o1_o1F (f : Nat → Int32) (n : Nat) : o1F (o1 f 1) n = o1F f (n + 1) := by
  funext k
  by_cases q : k = 2
  · subst q
    show f 2 + nI 1 + nI n = f 2 + nI (n + 1)
    rw [Int32.add_assoc, nI_add, Nat.add_comm]
  · simp only [o1F, o1, if_neg q]
    by_cases q2 : k = 3
    · rw [if_pos q2, if_pos q2]
    · rw [if_neg q2, if_neg q2, if_neg q2]
theorem lGo.one {x : Int32} {n : Nat} (h : lGo x (n + 1)) : lGo x 1 ∧ ¬ x = 0 ∧ lGo (lsub x 1) n := by
  rcases h with h | ⟨j, h1, h2, h3⟩
  · subst h
    exact ⟨Or.inl rfl, by decide, Or.inl (lsub_m1 1)⟩
  · subst h3
    refine ⟨Or.inr ⟨j, by omega, h2, rfl⟩, fun z => ?_, Or.inr ⟨j - 1, by omega, by omega, lsub_n (by omega) h2⟩⟩
    have := nI_inj (a := j) (b := 0) (by omega) (by decide) z
    omega
theorem wrs_go : ∀ (l : List (Nat × Int32)) (σ : Mem), lGo (σ 1 3) l.length → wrs σ l = (stA (stA σ 2 (apl (σ 2) l)) 1 (o1 (σ 1) l.length), false)
  | [], σ, h => by
    show (σ, false) = _
    have e : o1 (σ 1) 0 = σ 1 := by
      funext k
      unfold o1
      by_cases q : k = 2
      · rw [if_pos q, q]; exact Int32.add_zero _
      · rw [if_neg q]
        by_cases q2 : k = 3
        · rw [if_pos q2, q2]
          rcases h with h | ⟨j, h1, h2, h3⟩
          · rw [h, lsub_m1]
          · rw [h3]; exact lsub_n h1 h2
        · rw [if_neg q2]
    show _ = (stA (stA σ 2 (σ 2)) 1 (o1 (σ 1) 0), false)
    rw [e, stA_id, stA_id]
  | q :: l, σ, h => by
    obtain ⟨h1, h2, h3⟩ := lGo.one (n := l.length) h
    show (if σ 1 3 = 0 then (wrF σ, true) else wrs (wrO σ q.1 q.2) l) = _
    rw [if_neg h2, wrO_cl q.1 q.2 h1, wrs_go l _ h3, stA2]
    have e1 : stA (stA σ 2 (upd (σ 2) q.1 q.2)) 1 (o1 (σ 1) 1) 2 = upd (σ 2) q.1 q.2 := rfl
    have e2 : stA (stA σ 2 (upd (σ 2) q.1 q.2)) 1 (o1 (σ 1) 1) 1 = o1 (σ 1) 1 := rfl
    rw [e1, e2, o1_o1 _ h]; rfl
theorem wrs_fail : ∀ (l : List (Nat × Int32)) (σ : Mem) (j : Nat), j < l.length → j ≤ 1000 → σ 1 3 = nI j → wrs σ l = (stA (stA σ 2 (apl (σ 2) (l.take j))) 1 (o1F (σ 1) j), true)
  | [], _, _, h, _, _ => absurd h (Nat.not_lt_zero _)
  | q :: l, σ, 0, _, _, h => by
    show (if σ 1 3 = 0 then (wrF σ, true) else wrs (wrO σ q.1 q.2) l) = _
    rw [if_pos (show σ 1 3 = 0 from h)]
    show _ = (stA (stA σ 2 (σ 2)) 1 (o1F (σ 1) 0), true)
    rw [stA_id]
    unfold wrF
    rw [st_stA, st_stA, stA_stA, stA_self]
    congr 2
    funext k
    unfold upd o1F
    by_cases q : k = 2
    · rw [if_neg (by omega), if_neg (by omega), if_pos q, q]; exact (Int32.add_zero _).symm
    · rw [if_neg q]
      by_cases q2 : k = 4
      · rw [if_pos q2, if_neg (by omega), if_pos q2]
      · rw [if_neg q2]
        by_cases q3 : k = 3
        · rw [if_pos q3, if_pos q3]
        · rw [if_neg q3, if_neg q3, if_neg q2]
  | q :: l, σ, j + 1, hj, hj2, h => by
    obtain ⟨h1, h2, h3⟩ := lGo.one (x := σ 1 3) (n := 0) (Or.inr ⟨j + 1, by omega, hj2, h⟩)
    show (if σ 1 3 = 0 then (wrF σ, true) else wrs (wrO σ q.1 q.2) l) = _
    have e3 : stA (stA σ 2 (upd (σ 2) q.1 q.2)) 1 (o1 (σ 1) 1) 1 3 = nI j := by
      show lsub (σ 1 3) 1 = _
      rw [h, lsub_n (by omega) hj2]; rfl
    rw [if_neg h2, wrO_cl q.1 q.2 h1, wrs_fail l _ j (Nat.lt_of_succ_lt_succ hj) (by omega) e3, stA2]
    have e1 : stA (stA σ 2 (upd (σ 2) q.1 q.2)) 1 (o1 (σ 1) 1) 2 = upd (σ 2) q.1 q.2 := rfl
    have e2 : stA (stA σ 2 (upd (σ 2) q.1 q.2)) 1 (o1 (σ 1) 1) 1 = o1 (σ 1) 1 := rfl
    rw [e1, e2, o1_o1F]; rfl
theorem noteL_len (f : Nat → Int32) : ∀ n i, (noteL f i n).length = n
  | 0, _ => rfl
  | n + 1, i => congrArg Nat.succ (noteL_len f n (i + 1))
theorem plnL_len (f : Nat → Int32) : ∀ n i, (plnL f i n).length = n
  | 0, _ => rfl
  | n + 1, i => congrArg Nat.succ (plnL_len f n (i + 1))
theorem noteL_ge (f : Nat → Int32) : ∀ n i, ∀ q ∈ noteL f i n, 266 + i ≤ q.1
  | 0, _, _, h => absurd h List.not_mem_nil
  | n + 1, i, q, h => by
    rcases List.mem_cons.mp h with rfl | h
    · exact Nat.le_refl _
    · have := noteL_ge f n (i + 1) q h
      omega
theorem noteL_apl (f : Nat → Int32) : ∀ n i (w : Nat → Int32) t, i ≤ t → t < i + n → apl w (noteL f i n) (266 + t) = f t
  | 0, i, w, t, h1, h2 => absurd h2 (by omega)
  | n + 1, i, w, t, h1, h2 => by
    show apl (upd w (266 + i) (f i)) (noteL f (i + 1) n) (266 + t) = f t
    by_cases q : t = i
    · rw [apl_ne _ _ _ (fun z hz => by have := noteL_ge f n (i + 1) z hz; omega), q, upd_s]
    · exact noteL_apl f n (i + 1) _ t (by omega) (by omega)
theorem plnL_lt {f : Nat → Int32} {k : Nat} (h : plOK f k) : ∀ n i, i + n ≤ k → ∀ q ∈ plnL f i n, q.1 < 265
  | 0, _, _, _, hq => absurd hq List.not_mem_nil
  | n + 1, i, hi, q, hq => by
    rcases List.mem_cons.mp hq with rfl | hq
    · obtain ⟨p, h1, h2⟩ := h.2 i (by omega)
      show (f (2 * i)).toNatClampNeg < 265
      rw [h2, nI_clamp (by omega)]
      exact h1
    · exact plnL_lt h n (i + 1) (by omega) q hq
theorem chgL_len (f : Nat → Int32) (k : Nat) : (chgL f k).length = 3 * k + 2 := by
  unfold chgL
  rw [List.length_append, noteL_len, List.length_cons, List.length_append, plnL_len]
  show 2 * k + (k + 1 + 1) = _
  omega
/-- how a change of k words ends, by the writes that are left -/
def Rz (x : Int32) (k r : Nat) : Prop := (lGo x (3 * k + 2) ∧ r = 0) ∨ (∃ j, 2 * k < j ∧ j < 3 * k + 2 ∧ x = nI j ∧ r = 1) ∨ (∃ j, j ≤ 2 * k ∧ x = nI j ∧ r = 2)
theorem Rz.ex {x : Int32} (hl : lOK x) (k : Nat) : ∃ r, Rz x k r := by
  rcases lGo_or hl (3 * k + 2) with q | ⟨j, q1, q2, q3⟩
  · exact ⟨_, Or.inl ⟨q, rfl⟩⟩
  · rcases Nat.lt_or_ge (2 * k) j with z | z
    · exact ⟨_, Or.inr (Or.inl ⟨j, z, q1, q3, rfl⟩)⟩
    · exact ⟨_, Or.inr (Or.inr ⟨j, z, q3, rfl⟩)⟩
theorem Rz.dz {σ : Mem} {k r : Nat} (h : Rz (σ 7 10) k r) : ∃ σ1, Dz σ k r σ1 := by
  rcases h with ⟨q, rfl⟩ | ⟨j, z, q1, q3, rfl⟩ | ⟨j, z, q3, rfl⟩
  · exact ⟨_, Or.inl ⟨q, rfl, rfl⟩⟩
  · exact ⟨_, Or.inr (Or.inl ⟨j, z, q1, q3, rfl, rfl⟩)⟩
  · exact ⟨_, Or.inr (Or.inr ⟨j, z, q3, rfl, rfl⟩)⟩
/-- what is on the disk when the note is heeded -/
def eff (w : Nat → Int32) (k : Nat) : Nat → Int32 := apl w (fin w 0 k)
/-- a change of the class beside a change of the model -/
theorem chg_cpl {σ : Mem} {k r : Nat} {f : Nat → Int32} (hk : plOK f k) (h0 : σ 2 265 = 0) (hr : Rz (σ 1 3) k r) :
    ∃ σc kk, wrs σ (chgL f k) = (σc, decide (r ≠ 0)) ∧ (∀ a, a ≠ 1 → a ≠ 2 → σc a = σ a) ∧
      nOK (σc 2) kk ∧ (∀ p, p < 265 → eff (σc 2) kk p = if r < 2 then apl (σ 2) (plnL f 0 k) p else σ 2 p) ∧
      (r = 0 → kk = 0) ∧
      (∀ σ' σ1, Dz σ' k r σ1 → σ' 7 10 = σ 1 3 → σ' 7 9 = σ 1 2 → σ' 7 11 = σ 1 4 → σ' 7 12 = 0 → lOK (σ 1 3) → σc 1 2 = σ1 7 9 ∧ σc 1 3 = σ1 7 10 ∧ σc 1 4 = σ1 7 11 ∧ σ1 7 12 = nI kk ∧ lOK (σ1 7 10) ∧ (σ1 7 11 = if r = 0 then σ' 7 11 else 1)) := by
  have hlen := chgL_len f k
  have hk4 := hk.1
  have hpl := plnL_lt hk k 0 (by omega)
  rcases hr with ⟨q, rfl⟩ | ⟨j, z, q1, q3, rfl⟩ | ⟨j, z, q3, rfl⟩
  · refine ⟨_, 0, wrs_go _ σ (by rw [hlen]; exact q), fun a h1 h2 => by rw [stA_ne _ _ h1, stA_ne _ _ h2], ?_, fun p hp => ?_, fun _ => rfl, fun σ' σ1 hd e1 e2 e3 e4 hl => ?_⟩
    · refine ⟨?_, by omega, fun i hi => absurd hi (Nat.not_lt_zero i)⟩
      show apl (σ 2) (chgL f k) 265 = 0
      unfold chgL
      rw [apl_app]
      show apl _ (plnL f 0 k ++ [(265, 0)]) 265 = 0
      rw [apl_app]
      exact upd_s (apl (upd (apl (σ 2) (noteL f 0 (2 * k))) 265 (nI k)) (plnL f 0 k)) 265 0
    · show apl (σ 2) (chgL f k) p = if 0 < 2 then apl (σ 2) (plnL f 0 k) p else σ 2 p
      rw [if_pos (by decide)]
      unfold chgL
      rw [apl_app]
      show apl (upd _ 265 (nI k)) (plnL f 0 k ++ [(265, 0)]) p = _
      rw [apl_app]
      show upd _ 265 0 p = _
      rw [upd_n _ _ (by omega)]
      refine apl_pt _ _ _ p ?_
      rw [upd_n _ _ (by omega), apl_ne _ _ p (fun q hq => by have := noteL_ge f _ _ q hq; omega)]
    · rw [hlen]
      rcases hd with ⟨a1, _, rfl⟩ | ⟨j, a1, a2, a3, a4, _⟩ | ⟨j, a1, a3, a4, _⟩
      · refine ⟨?_, ?_, e3.symm, ?_, ?_, (if_pos rfl).symm⟩
        · show σ 1 2 + nI _ = σ' 7 9 + nI _
          rw [e2]
        · show lsub (σ 1 3) _ = lsub (σ' 7 10) _
          rw [e1]
        · exact e4
        · show lOK (lsub (σ' 7 10) _)
          rcases a1 with w | ⟨j, w1, w2, w3⟩
          · rw [w, lsub_m1]; exact Or.inl rfl
          · rw [w3, lsub_n w1 w2]; exact Or.inr ⟨_, by omega, rfl⟩
      · exact absurd a4 (by decide)
      · exact absurd a4 (by decide)
  · have et : (chgL f k).take j = noteL f 0 (2 * k) ++ ((265, nI k) :: (plnL f 0 k).take (j - 2 * k - 1)) := by
      unfold chgL
      rw [List.take_append, noteL_len, List.take_of_length_le (by rw [noteL_len]; omega)]
      congr 1
      obtain ⟨m, hm⟩ : ∃ m, j - 2 * k = m + 1 := ⟨j - 2 * k - 1, by omega⟩
      rw [hm]
      show _ :: List.take m _ = _ :: _
      congr 1
      have : j - 2 * k - 1 = m := by omega
      rw [Nat.add_sub_cancel, List.take_append_of_le_length (by rw [plnL_len]; omega)]
    have hw : ∀ p, apl (σ 2) ((chgL f k).take j) p = apl (upd (apl (σ 2) (noteL f 0 (2 * k))) 265 (nI k)) ((plnL f 0 k).take (j - 2 * k - 1)) p := fun p => by rw [et, apl_app]; rfl
    have hhi : ∀ p, 265 ≤ p → apl (σ 2) ((chgL f k).take j) p = upd (apl (σ 2) (noteL f 0 (2 * k))) 265 (nI k) p := fun p hp => by
      rw [hw, apl_ne _ _ p (fun q hq => by have := hpl q (List.mem_of_mem_take hq); omega)]
    have hf : ∀ t, t < 2 * k → apl (σ 2) ((chgL f k).take j) (266 + t) = f t := fun t ht => by
      rw [hhi _ (by omega), upd_n _ _ (by omega), noteL_apl f (2 * k) 0 _ t (by omega) (by omega)]
    have efin : fin (apl (σ 2) ((chgL f k).take j)) 0 k = plnL f 0 k := fin_pln k 0 (fun t ht => hf t (by omega))
    refine ⟨_, k, wrs_fail _ σ j (by omega) (by omega) q3, fun a h1 h2 => by rw [stA_ne _ _ h1, stA_ne _ _ h2], ?_, fun p hp => ?_, fun y => absurd y (by decide), fun σ' σ1 hd e1 e2 e3 e4 hl => ?_⟩
    · refine ⟨?_, hk4, fun i hi => ?_⟩
      · show apl (σ 2) ((chgL f k).take j) 265 = _
        rw [hhi _ (by omega), upd_s]
      · obtain ⟨q, h1, h2⟩ := hk.2 i hi
        refine ⟨q, h1, ?_⟩
        show apl (σ 2) ((chgL f k).take j) (266 + 2 * i) = _
        rw [hf _ (by omega)]; exact h2
    · show eff (apl (σ 2) ((chgL f k).take j)) k p = if 1 < 2 then apl (σ 2) (plnL f 0 k) p else σ 2 p
      rw [if_pos (by decide)]
      unfold eff
      rw [efin]
      by_cases hin : ∃ q ∈ plnL f 0 k, q.1 = p
      · exact apl_in _ _ _ p hin
      · refine apl_pt _ _ _ p ?_
        rw [hw, apl_ne _ _ p (fun q hq y => hin ⟨q, List.mem_of_mem_take hq, y⟩), upd_n _ _ (by omega), apl_ne _ _ p (fun q hq => by have := noteL_ge f _ _ q hq; omega)]
    · rcases hd with ⟨a1, a4, _⟩ | ⟨i, a1, a2, a3, _, rfl⟩ | ⟨i, a1, a3, a4, _⟩
      · exact absurd a4 (by decide)
      · obtain rfl : i = j := nI_inj (by omega) (by omega) (a3.symm.trans (e1.trans q3))
        refine ⟨?_, rfl, rfl, rfl, Or.inl rfl, (if_neg (by decide)).symm⟩
        show σ 1 2 + nI _ = σ' 7 9 + nI _
        rw [e2]
      · exact absurd a4 (by decide)
  · have et : (chgL f k).take j = (noteL f 0 (2 * k)).take j := by
      unfold chgL
      rw [List.take_append_of_le_length (by rw [noteL_len]; omega)]
    have hlo : ∀ p, p ≤ 265 → apl (σ 2) ((chgL f k).take j) p = σ 2 p := fun p hp => by
      rw [et, apl_ne _ _ p (fun q hq => by have := noteL_ge f _ _ q (List.mem_of_mem_take hq); omega)]
    refine ⟨_, 0, wrs_fail _ σ j (by omega) (by omega) q3, fun a h1 h2 => by rw [stA_ne _ _ h1, stA_ne _ _ h2], ?_, fun p hp => ?_, fun y => rfl, fun σ' σ1 hd e1 e2 e3 e4 hl => ?_⟩
    · refine ⟨?_, by omega, fun i hi => absurd hi (Nat.not_lt_zero i)⟩
      show apl (σ 2) ((chgL f k).take j) 265 = _
      rw [hlo _ (by omega), h0]; rfl
    · show apl (σ 2) ((chgL f k).take j) p = if 2 < 2 then apl (σ 2) (plnL f 0 k) p else σ 2 p
      rw [if_neg (by decide), hlo _ (by omega)]
    · rcases hd with ⟨a1, a4, _⟩ | ⟨i, a1, a2, a3, a4, _⟩ | ⟨i, a1, a3, _, rfl⟩
      · exact absurd a4 (by decide)
      · exact absurd a4 (by decide)
      · obtain rfl : i = j := nI_inj (by omega) (by omega) (a3.symm.trans (e1.trans q3))
        refine ⟨?_, rfl, rfl, rfl, Or.inl rfl, (if_neg (by decide)).symm⟩
        show σ 1 2 + nI _ = σ' 7 9 + nI _
        rw [e2]
end
section
/-! ===== the class and the reference, side by side ===== -/
def EF (w : Nat → Int32) (σ : Mem) (N : Nat) (ln kd : Nat → Nat) : Prop := HP w N ln kd ∧ (∀ r, r < 8 → w (257 + r) = σ 14 r) ∧ (∀ e, e < N → kd e ≠ 0 → ∀ i, i + 2 < ln e → w (pos ln e + 1 + i) = σ 13 (pos ln e + 1 + i))
theorem EF.w {w v : Nat → Int32} {σ : Mem} {N : Nat} {ln kd : Nat → Nat} (h : EF w σ N ln kd) (e : ∀ p, p < 265 → v p = w p) : EF v σ N ln kd := by
  refine ⟨h.1.cong (fun j _ h2 => e j (by omega)), fun r hr => (e _ (by omega)).trans (h.2.1 r hr), fun e' he hk i hi => (e _ ?_).trans (h.2.2 e' he hk i hi)⟩
  have := h.1.end he
  omega
theorem EF.m {w : Nat → Int32} {σ τ : Mem} {N : Nat} {ln kd : Nat → Nat} (h : EF w σ N ln kd) (e13 : τ 13 = σ 13) (e14 : τ 14 = σ 14) : EF w τ N ln kd := by
  refine ⟨h.1, fun r hr => ?_, fun e' he hk i hi => ?_⟩
  · rw [e14]; exact h.2.1 r hr
  · rw [e13]; exact h.2.2 e' he hk i hi
def JC (σ : Mem) : Prop := lOK (σ 7 10) ∧ bl (σ 7 11) ∧ σ 1 2 = σ 7 9 ∧ σ 1 3 = σ 7 10 ∧ σ 1 4 = σ 7 11 ∧ ∀ j, bl (σ 12 j)
def JH (σ : Mem) (N : Nat) (ln kd : Nat → Nat) (k : Nat) : Prop := MP σ N ln kd ∧ σ 7 12 = nI k ∧ nOK (σ 2) k ∧ (σ 7 11 = 0 → k = 0) ∧ EF (eff (σ 2) k) σ N ln kd
def J (σ : Mem) : Prop := JC σ ∧ ∃ N ln kd k, JH σ N ln kd k
theorem JC.cong {σ τ : Mem} (h : JC σ) (e1 : τ 1 = σ 1) (e7 : ∀ j, j ≠ 0 → τ 7 j = σ 7 j) (e12 : ∀ j, bl (τ 12 j)) : JC τ := by
  unfold JC
  rw [e1, e7 9 (by decide), e7 10 (by decide), e7 11 (by decide)]
  exact ⟨h.1, h.2.1, h.2.2.1, h.2.2.2.1, h.2.2.2.2.1, e12⟩
theorem JH.cong {σ τ : Mem} {N : Nat} {ln kd : Nat → Nat} {k : Nat} (h : JH σ N ln kd k) (e2 : τ 2 = σ 2) (e7 : ∀ j, j ≠ 0 → τ 7 j = σ 7 j) (e8 : τ 8 = σ 8) (e9 : τ 9 = σ 9) (e10 : τ 10 = σ 10) (e11 : τ 11 = σ 11) (e13 : τ 13 = σ 13) (e14 : τ 14 = σ 14) : JH τ N ln kd k := by
  refine ⟨h.1.cong (e7 1 (by decide)) e8 e9 e10 e11, (e7 12 (by decide)).trans h.2.1, by rw [e2]; exact h.2.2.1, fun z => h.2.2.2.1 (by rw [← e7 11 (by decide)]; exact z), ?_⟩
  rw [e2]
  exact h.2.2.2.2.m e13 e14
/-- all but what listing, searching and answering write -/
def RQ (σ τ : Mem) : Prop := ∀ a, a ≠ 4 → a ≠ 5 → a ≠ 6 → a ≠ 15 → τ a = σ a
theorem RQ.rf (σ : Mem) : RQ σ σ := fun _ _ _ _ _ => rfl
theorem RQ.ls (σ : Mem) (ln : Nat → Nat) (N : Nat) : RQ σ (lsF σ ln N) := fun a h _ _ _ => lsF_ne σ ln N a h
theorem RQ.out {σ τ : Mem} (h : RQ σ τ) (v : Int32) : RQ σ (st τ 15 0 v) := fun a h4 h5 h6 h15 => (st_ne _ _ _ h15).trans (h a h4 h5 h6 h15)
theorem RQ.mp {σ τ : Mem} {N : Nat} {ln kd : Nat → Nat} (h : RQ σ τ) (hm : MP σ N ln kd) : MP τ N ln kd := hm.cong (by rw [h 7 (by decide) (by decide) (by decide) (by decide)]) (h 8 (by decide) (by decide) (by decide) (by decide)) (h 9 (by decide) (by decide) (by decide) (by decide)) (h 10 (by decide) (by decide) (by decide) (by decide)) (h 11 (by decide) (by decide) (by decide) (by decide))
theorem RQ.e7 {σ τ : Mem} (h : RQ σ τ) : τ 7 = σ 7 := h 7 (by decide) (by decide) (by decide) (by decide)
theorem J.rd {σ τ : Mem} (h : J σ) (q : RQ σ τ) (c : Int32) : J (st τ 7 0 c) := by
  obtain ⟨hC, N, ln, kd, k, hH⟩ := h
  have e7 : ∀ j, j ≠ 0 → st τ 7 0 c 7 j = σ 7 j := fun j hj => by
    show upd (τ 7) 0 c j = σ 7 j
    rw [upd_n _ _ hj, q.e7]
  have en : ∀ a, a ≠ 4 → a ≠ 5 → a ≠ 6 → a ≠ 15 → a ≠ 7 → st τ 7 0 c a = σ a := fun a h4 h5 h6 h15 h7 => (st_ne _ _ _ h7).trans (q a h4 h5 h6 h15)
  refine ⟨hC.cong (en 1 (by decide) (by decide) (by decide) (by decide) (by decide)) e7 (fun j => ?_), N, ln, kd, k, hH.cong (en 2 (by decide) (by decide) (by decide) (by decide) (by decide)) e7 (en 8 (by decide) (by decide) (by decide) (by decide) (by decide)) (en 9 (by decide) (by decide) (by decide) (by decide) (by decide)) (en 10 (by decide) (by decide) (by decide) (by decide) (by decide)) (en 11 (by decide) (by decide) (by decide) (by decide) (by decide)) (en 13 (by decide) (by decide) (by decide) (by decide) (by decide)) (en 14 (by decide) (by decide) (by decide) (by decide) (by decide))⟩
  rw [en 12 (by decide) (by decide) (by decide) (by decide) (by decide)]
  exact hC.2.2.2.2.2 j
theorem mwd_eq {σ τ : Mem} (h13 : τ 13 = σ 13) (h14 : τ 14 = σ 14) : mwd τ = mwd σ := by
  unfold mwd
  rw [h13, h14]
/-- the two go together for one call -/
def Cpl (yX : MethodName) (MX : MI) (aX : List AV) (yM : MethodName) (MM : MI) (aM : List AV) (codes : List (String × Nat)) (σ : Mem) : Prop :=
  (∃ v σc σm, MetO yX MX aX σ (.inl (some (.inl v), σc)) ∧ MetO yM MM aM (st σc 15 0 v) (.inl (some (.inl v), σm)) ∧ σm 7 0 = 0 ∧ J σm ∧ σm 15 0 = v) ∨
  (∃ e k σc σm b, (e, k) ∈ codes ∧ MetO yX MX aX σ (.inr (e, σc)) ∧ MetO yM MM aM σc (.inl (some (.inl b), σm)) ∧ σm 7 0 = nI k ∧ J σm)
theorem Cpl.no {yX : MethodName} {MX : MI} {aX : List AV} {yM : MethodName} {MM : MI} {aM : List AV} {codes : List (String × Nat)} {σ : Mem} (h : J σ) {e : String} (k : Nat) {σc : Mem} (hin : (e, k) ∈ codes) (hc : RQ σ σc) (hX : MetO yX MX aX σ (.inr (e, σc))) (hM : ∀ τ, RQ σ τ → MetO yM MM aM τ (.inl (some (.inl 0), st τ 7 0 (nI k)))) : Cpl yX MX aX yM MM aM codes σ :=
  Or.inr ⟨e, k, σc, _, _, hin, hX, hM σc hc, rfl, h.rd hc _⟩
theorem Cpl.ok {yX : MethodName} {MX : MI} {aX : List AV} {yM : MethodName} {MM : MI} {aM : List AV} {codes : List (String × Nat)} {σ : Mem} (h : J σ) {v : Int32} {σc : Mem} (hc : RQ σ σc) (hX : MetO yX MX aX σ (.inl (some (.inl v), σc))) (hM : ∀ τ, RQ σ τ → MetO yM MM aM τ (.inl (some (.inl v), st τ 7 0 0))) : Cpl yX MX aX yM MM aM codes σ :=
  Or.inl ⟨v, σc, _, hX, hM _ (hc.out v), rfl, h.rd (hc.out v) _, rfl⟩
/-- while the power is on -/
theorem J.up {σ : Mem} (h : J σ) (hd : σ 7 11 = 0) : ∃ N ln kd, MP σ N ln kd ∧ HP (σ 2) N ln kd ∧ EF (σ 2) σ N ln kd ∧ σ 2 265 = 0 ∧ σ 7 12 = 0 ∧ σ 1 4 = 0 := by
  obtain ⟨hC, N, ln, kd, k, h1, h2, h3, h4, h5⟩ := h
  obtain rfl := h4 hd
  exact ⟨N, ln, kd, h1, h5.1, h5, h3.1, h2, by rw [hC.2.2.2.2.1]; exact hd⟩
theorem J.dn {σ : Mem} (h : J σ) (hd : σ 7 11 = 1) : ∃ N ln kd, MP σ N ln kd ∧ σ 1 4 = 1 := by
  obtain ⟨hC, N, ln, kd, k, h1, h2, h3, h4, h5⟩ := h
  exact ⟨N, ln, kd, h1, by rw [hC.2.2.2.2.1]; exact hd⟩
theorem J.bl {σ : Mem} (h : J σ) : σ 7 11 = 0 ∨ σ 7 11 = 1 := h.1.2.1
theorem RS.cong {w v : Nat → Int32} {N : Nat} {ln kd : Nat → Nat} (hr : ∀ r, r < 8 → v (257 + r) = w (257 + r)) (hc : ∀ e, e < N → ∀ i, i + 1 < kd e → v (pos ln e + 1 + i) = w (pos ln e + 1 + i)) (e : Nat) (h : RS w N ln kd e) : RS v N ln kd e := by
  intro P h1 h2
  refine h P (fun r hr8 j hj => h1 r hr8 j (by rw [hr r hr8]; exact hj)) (fun j hP hj i hi j' hj' => h2 j hP hj i hi j' (by rw [hc j hj i hi]; exact hj'))
theorem EF.rs {w : Nat → Int32} {σ : Mem} {N : Nat} {ln kd : Nat → Nat} (h : EF w σ N ln kd) (e : Nat) : RS w N ln kd e ↔ RS (mwd σ) N ln kd e := by
  have h1 : ∀ r, r < 8 → mwd σ (257 + r) = w (257 + r) := fun r hr => by rw [mwd_r]; exact (h.2.1 r hr).symm
  have h2 : ∀ e, e < N → ∀ i, i + 1 < kd e → mwd σ (pos ln e + 1 + i) = w (pos ln e + 1 + i) := fun e he i hi => by
    have g1 := h.1.end he
    have g2 := h.1.kdl he
    rw [mwd_w _ (by omega)]
    exact (h.2.2 e he (by omega) i (by omega)).symm
  exact ⟨RS.cong h1 h2 e, RS.cong (fun r hr => (h1 r hr).symm) (fun e he i hi => (h2 e he i hi).symm) e⟩
theorem cp_load {σ : Mem} (hJ : J σ) (a x : Int32) : Cpl y_X_load mi_X_load [.inr (.inl 0), .inl a, .inl x] y_M_load mi_M_load [.inr (.inl 7), .inl a, .inl x] [(eIS, 1), (eNE, 2), (eIO, 3)] σ := by
  rcases hJ.bl with hd | hd
  · obtain ⟨N, ln, kd, hm, hp, he, _, _, h4⟩ := hJ.up hd
    by_cases q : Us N ln kd a
    · obtain ⟨e, h1, h2, rfl⟩ := q
      have g := hp.lt h1
      by_cases q2 : wd_ok x (ln e)
      · obtain ⟨j, hj, rfl⟩ := wd_nat q2 (by omega)
        have hX := c_X_load_ok j σ h4 hp h1 h2 hj
        rw [he.2.2 e h1 h2 j (by omega)] at hX
        refine Cpl.ok hJ (RQ.ls σ ln N) hX (fun τ hτ => ?_)
        have hM := c_M_load_ok j τ (by rw [hτ.e7]; exact hd) (hτ.mp hm) h1 h2 hj
        rw [hτ 13 (by decide) (by decide) (by decide) (by decide)] at hM
        exact hM
      · exact Cpl.no hJ 3 (by simp) (RQ.ls σ ln N) (c_X_load_word x σ h4 hp h1 h2 q2) (fun τ hτ => c_M_load_word x τ (by rw [hτ.e7]; exact hd) (hτ.mp hm) ⟨h1, h2, rfl⟩ q2)
    · exact Cpl.no hJ 2 (by simp) (RQ.ls σ ln N) (c_X_load_no a x σ h4 hp q) (fun τ hτ => c_M_load_no a x τ (by rw [hτ.e7]; exact hd) (hτ.mp hm) q)
  · obtain ⟨N, ln, kd, hm, h4⟩ := hJ.dn hd
    exact Cpl.no hJ 1 (by simp) (RQ.rf σ) (c_X_load_down a x σ h4) (fun τ hτ => c_M_load_down a x τ (by rw [hτ.e7]; exact hd) (hτ.mp hm))
theorem cp_size {σ : Mem} (hJ : J σ) (a x : Int32) : Cpl y_X_size mi_X_size [.inr (.inl 0), .inl a, .inl x] y_M_size mi_M_size [.inr (.inl 7), .inl a, .inl x] [(eIS, 1), (eNE, 2)] σ := by
  rcases hJ.bl with hd | hd
  · obtain ⟨N, ln, kd, hm, hp, he, _, _, h4⟩ := hJ.up hd
    by_cases q : Us N ln kd a
    · obtain ⟨e, h1, h2, rfl⟩ := q
      by_cases q2 : x = 0
      · exact Cpl.ok hJ (RQ.ls σ ln N) (c_X_size_ok x σ h4 hp h1 h2 (nI (ln e - 2)) ⟨fun _ => rfl, fun z => absurd q2 z⟩) (fun τ hτ => c_M_size_ok x τ (by rw [hτ.e7]; exact hd) (hτ.mp hm) ⟨h1, h2, rfl⟩ (nI (ln e - 2)) ⟨fun _ => rfl, fun z => absurd q2 z⟩)
      · exact Cpl.ok hJ (RQ.ls σ ln N) (c_X_size_ok x σ h4 hp h1 h2 (nI (kd e - 1)) ⟨fun z => absurd z q2, fun _ => rfl⟩) (fun τ hτ => c_M_size_ok x τ (by rw [hτ.e7]; exact hd) (hτ.mp hm) ⟨h1, h2, rfl⟩ (nI (kd e - 1)) ⟨fun z => absurd z q2, fun _ => rfl⟩)
    · exact Cpl.no hJ 2 (by simp) (RQ.ls σ ln N) (c_X_size_no a x σ h4 hp q) (fun τ hτ => c_M_size_no a x τ (by rw [hτ.e7]; exact hd) (hτ.mp hm) q)
  · obtain ⟨N, ln, kd, hm, h4⟩ := hJ.dn hd
    exact Cpl.no hJ 1 (by simp) (RQ.rf σ) (c_X_size_down a x σ h4) (fun τ hτ => c_M_size_down a x τ (by rw [hτ.e7]; exact hd) (hτ.mp hm))
theorem cp_root {σ : Mem} (hJ : J σ) (x : Int32) : Cpl y_X_root mi_X_root [.inr (.inl 0), .inl x] y_M_root mi_M_root [.inr (.inl 7), .inl x] [(eIS, 1), (eIO, 2)] σ := by
  rcases hJ.bl with hd | hd
  · obtain ⟨N, ln, kd, hm, hp, he, _, _, h4⟩ := hJ.up hd
    by_cases q : rt_ok x
    · obtain ⟨j, hj, rfl⟩ := rt_nat q
      have er := he.2.1 j hj
      have e14 : ∀ τ, RQ σ τ → τ 14 = σ 14 := fun τ hτ => hτ 14 (by decide) (by decide) (by decide) (by decide)
      by_cases q2 : Us N ln kd (σ 14 j)
      · refine Cpl.ok hJ (v := σ 14 j) (RQ.ls σ ln N) (c_X_root_ok j hj σ h4 hp _ (by rw [er]; exact ⟨fun _ => rfl, fun z => absurd q2 z⟩)) (fun τ hτ => c_M_root_ok j hj τ (by rw [hτ.e7]; exact hd) (hτ.mp hm) _ (by rw [e14 τ hτ]; exact ⟨fun _ => rfl, fun z => absurd q2 z⟩))
      · refine Cpl.ok hJ (v := 0) (RQ.ls σ ln N) (c_X_root_ok j hj σ h4 hp _ (by rw [er]; exact ⟨fun z => absurd z q2, fun _ => rfl⟩)) (fun τ hτ => c_M_root_ok j hj τ (by rw [hτ.e7]; exact hd) (hτ.mp hm) _ (by rw [e14 τ hτ]; exact ⟨fun z => absurd z q2, fun _ => rfl⟩))
    · exact Cpl.no hJ 2 (by simp) (RQ.rf σ) (c_X_root_no x σ h4 q) (fun τ hτ => c_M_root_no x τ (by rw [hτ.e7]; exact hd) q)
  · obtain ⟨N, ln, kd, hm, h4⟩ := hJ.dn hd
    exact Cpl.no hJ 1 (by simp) (RQ.rf σ) (c_X_root_down x σ h4) (fun τ hτ => c_M_root_down x τ (by rw [hτ.e7]; exact hd))
theorem cp_freeWords {σ : Mem} (hJ : J σ) : Cpl y_X_freeWords mi_X_freeWords [.inr (.inl 0)] y_M_freeWords mi_M_freeWords [.inr (.inl 7)] [(eIS, 1)] σ := by
  rcases hJ.bl with hd | hd
  · obtain ⟨N, ln, kd, hm, hp, he, _, _, h4⟩ := hJ.up hd
    exact Cpl.ok hJ (RQ.ls σ ln N) (c_X_freeWords_up σ h4 hp) (fun τ hτ => c_M_freeWords_up τ (by rw [hτ.e7]; exact hd) (hτ.mp hm))
  · obtain ⟨N, ln, kd, hm, h4⟩ := hJ.dn hd
    exact Cpl.no hJ 1 (by simp) (RQ.rf σ) (c_X_freeWords_down σ h4) (fun τ hτ => c_M_freeWords_down τ (by rw [hτ.e7]; exact hd) (hτ.mp hm))
theorem cp_largestFree {σ : Mem} (hJ : J σ) : Cpl y_X_largestFree mi_X_largestFree [.inr (.inl 0)] y_M_largestFree mi_M_largestFree [.inr (.inl 7)] [(eIS, 1)] σ := by
  rcases hJ.bl with hd | hd
  · obtain ⟨N, ln, kd, hm, hp, he, _, _, h4⟩ := hJ.up hd
    exact Cpl.ok hJ (RQ.ls σ ln N) (c_X_largestFree_up σ h4 hp) (fun τ hτ => c_M_largestFree_up τ (by rw [hτ.e7]; exact hd) (hτ.mp hm))
  · obtain ⟨N, ln, kd, hm, h4⟩ := hJ.dn hd
    exact Cpl.no hJ 1 (by simp) (RQ.rf σ) (c_X_largestFree_down σ h4) (fun τ hτ => c_M_largestFree_down τ (by rw [hτ.e7]; exact hd) (hτ.mp hm))
theorem cp_extent {σ : Mem} (hJ : J σ) (i : Int32) : Cpl y_X_extent mi_X_extent [.inr (.inl 0), .inl i] y_M_extent mi_M_extent [.inr (.inl 7), .inl i] [(eIS, 1), (eIO, 2)] σ := by
  rcases hJ.bl with hd | hd
  · obtain ⟨N, ln, kd, hm, hp, he, _, _, h4⟩ := hJ.up hd
    by_cases q : i < 0
    · exact Cpl.no hJ 2 (by simp) (RQ.rf σ) (c_X_extent_neg i σ h4 q) (fun τ hτ => c_M_extent_no i τ (by rw [hτ.e7]; exact hd) (hτ.mp hm) (Or.inl q))
    · by_cases q2 : i < nI N
      · obtain ⟨k, hk, rfl⟩ := nI_of q
        have hN := hp.N85
        have hk2 : k < N := (nI_ltI hk (by omega)).mp q2
        by_cases q3 : kd k = 0
        · exact Cpl.ok hJ (v := -nI (pos ln k + 1)) (RQ.ls σ ln N) (c_X_extent_ok k σ h4 hp hk2 _ ⟨fun _ => rfl, fun z => absurd q3 z⟩) (fun τ hτ => c_M_extent_ok k τ (by rw [hτ.e7]; exact hd) (hτ.mp hm) hk2 _ ⟨fun _ => rfl, fun z => absurd q3 z⟩)
        · exact Cpl.ok hJ (v := nI (pos ln k + 1)) (RQ.ls σ ln N) (c_X_extent_ok k σ h4 hp hk2 _ ⟨fun z => absurd z q3, fun _ => rfl⟩) (fun τ hτ => c_M_extent_ok k τ (by rw [hτ.e7]; exact hd) (hτ.mp hm) hk2 _ ⟨fun z => absurd z q3, fun _ => rfl⟩)
      · exact Cpl.no hJ 2 (by simp) (RQ.ls σ ln N) (c_X_extent_big i σ h4 hp q q2) (fun τ hτ => c_M_extent_no i τ (by rw [hτ.e7]; exact hd) (hτ.mp hm) (Or.inr q2))
  · obtain ⟨N, ln, kd, hm, h4⟩ := hJ.dn hd
    exact Cpl.no hJ 1 (by simp) (RQ.rf σ) (c_X_extent_down i σ h4) (fun τ hτ => c_M_extent_down i τ (by rw [hτ.e7]; exact hd))
theorem cp_reached {σ : Mem} (hJ : J σ) : Cpl y_X_reached mi_X_reached [.inr (.inl 0)] y_M_reached mi_M_reached [.inr (.inl 7)] [(eIS, 1)] σ := by
  rcases hJ.bl with hd | hd
  · obtain ⟨N, ln, kd, hm, hp, he, _, _, h4⟩ := hJ.up hd
    have hq : RQ σ (srM σ N ln kd) := fun a h4 h5 h6 _ => srM_ne hp a h4 h5 h6
    have hX := c_X_reached_up σ h4 hp
    rw [cntP_cong (Q := RS (mwd σ) N ln kd) (fun j _ => he.rs j)] at hX
    have hq2 := hq.out (nI (cntP (RS (mwd σ) N ln kd) N))
    have hM := c_M_reached_up (st (srM σ N ln kd) 15 0 (nI (cntP (RS (mwd σ) N ln kd) N))) (by rw [hq2.e7]; exact hd) (hq2.mp hm)
    have ew : mwd (st (srM σ N ln kd) 15 0 (nI (cntP (RS (mwd σ) N ln kd) N))) = mwd σ := mwd_eq (hq2 13 (by decide) (by decide) (by decide) (by decide)) (hq2 14 (by decide) (by decide) (by decide) (by decide))
    rw [ew] at hM
    refine Or.inl ⟨_, _, _, hX, hM, rfl, ?_, rfl⟩
    have hr := hJ.rd hq2 (nI 0)
    obtain ⟨hC, N', ln', kd', k', hH⟩ := hr
    exact ⟨hC.cong rfl (fun _ _ => rfl) (maF_bl (fun j => by rw [hq2 12 (by decide) (by decide) (by decide) (by decide)]; exact hJ.1.2.2.2.2.2 j)), N', ln', kd', k', hH.cong rfl (fun _ _ => rfl) rfl rfl rfl rfl rfl rfl⟩
  · obtain ⟨N, ln, kd, hm, h4⟩ := hJ.dn hd
    exact Cpl.no hJ 1 (by simp) (RQ.rf σ) (c_X_reached_down σ h4) (fun τ hτ => c_M_reached_down τ (by rw [hτ.e7]; exact hd))
theorem J_chg {σ : Mem} (hC : JC σ) (hu : σ 7 11 = 0) {N : Nat} {ln kd : Nat → Nat} (hm : MP σ N ln kd) (h265 : σ 2 265 = 0) (h12 : σ 7 12 = 0) (he : EF (σ 2) σ N ln kd) {σp : Mem} (p1 : σp 1 = σ 1) (p2 : σp 2 = σ 2) {f : Nat → Int32} {k r : Nat} (hk : plOK f k) (hr : Rz (σ 1 3) k r) (F : Mem → Mem)
    (hF : ∀ σ1, MP σ1 N ln kd → σ1 13 = σ 13 → σ1 14 = σ 14 → ∃ N' ln' kd', MP (F σ1) N' ln' kd' ∧ EF (apl (σ 2) (plnL f 0 k)) (F σ1) N' ln' kd')
    (hF12 : ∀ σ1, (∀ j, bl (σ1 12 j)) → ∀ j, bl (F σ1 12 j)) (hFa : ∀ σ1, F σ1 1 = σ1 1 ∧ F σ1 2 = σ1 2 ∧ ∀ j, j ≠ 1 → F σ1 7 j = σ1 7 j) :
    ∃ σc, wrs σp (chgL f k) = (σc, decide (r ≠ 0)) ∧ (∀ a, a ≠ 1 → a ≠ 2 → σc a = σp a) ∧ ∀ τ σ1, τ 1 = σc 1 → τ 2 = σc 2 → (∀ j, j ≠ 0 → τ 7 j = σ 7 j) → (∀ a, 8 ≤ a → a ≤ 14 → τ a = σ a) → Dz τ k r σ1 →
      J (if r < 2 then F σ1 else σ1) ∧ (if r < 2 then F σ1 else σ1) 7 0 = dc r := by
  obtain ⟨σc, kk, hw, hne, hn, hef, hr0, hcnt⟩ := chg_cpl (σ := σp) hk (by rw [p2]; exact h265) (by rw [p1]; exact hr)
  refine ⟨σc, hw, hne, fun τ σ1 t1 t2 t7 ta hd => ?_⟩
  obtain ⟨c1, c2, c3, c4, c5, c6⟩ := hcnt τ σ1 hd (by rw [t7 _ (by decide), p1]; exact hC.2.2.2.1.symm) (by rw [t7 _ (by decide), p1]; exact hC.2.2.1.symm) (by rw [t7 _ (by decide), p1]; exact hC.2.2.2.2.1.symm) (by rw [t7 _ (by decide)]; exact h12) (by rw [p1, hC.2.2.2.1]; exact hC.1)
  have s1 : σ1 1 = σc 1 := (hd.ne 1 (by decide)).trans t1
  have s2 : σ1 2 = σc 2 := (hd.ne 2 (by decide)).trans t2
  have sa : ∀ a, 8 ≤ a → a ≤ 14 → σ1 a = σ a := fun a q1 q2 => (hd.ne a (by omega)).trans (ta a q1 q2)
  have hm1 : MP σ1 N ln kd := hm.cong (hd.n.trans (t7 1 (by decide))) (sa 8 (by decide) (by decide)) (sa 9 (by decide) (by decide)) (sa 10 (by decide) (by decide)) (sa 11 (by decide) (by decide))
  have hb12 : ∀ j, bl (σ1 12 j) := fun j => by rw [sa 12 (by decide) (by decide)]; exact hC.2.2.2.2.2 j
  have hC1 : JC σ1 := by
    refine ⟨c5, ?_, by rw [s1]; exact c1, by rw [s1]; exact c2, by rw [s1]; exact c3, hb12⟩
    rw [c6]
    split
    · rw [t7 _ (by decide), hu]; exact Or.inl rfl
    · exact Or.inr rfl
  have hpend : σ1 7 11 = 0 → kk = 0 := by
    intro z
    rw [c6] at z
    by_cases q : r = 0
    · exact hr0 q
    · rw [if_neg q] at z; exact absurd z (by decide)
  by_cases q : r < 2
  · rw [if_pos q]
    obtain ⟨f1, f2, f7⟩ := hFa σ1
    obtain ⟨N', ln', kd', g1, g2⟩ := hF σ1 hm1 (sa 13 (by decide) (by decide)) (sa 14 (by decide) (by decide))
    refine ⟨⟨?_, N', ln', kd', kk, g1, ?_, ?_, ?_, ?_⟩, (f7 0 (by decide)).trans hd.code⟩
    · refine ⟨by rw [f7 _ (by decide)]; exact hC1.1, by rw [f7 _ (by decide)]; exact hC1.2.1, by rw [f7 _ (by decide), f1]; exact hC1.2.2.1, by rw [f7 _ (by decide), f1]; exact hC1.2.2.2.1, by rw [f7 _ (by decide), f1]; exact hC1.2.2.2.2.1, hF12 σ1 hb12⟩
    · rw [f7 _ (by decide)]; exact c4
    · rw [f2, s2]; exact hn
    · rw [f7 _ (by decide)]; exact hpend
    · rw [f2, s2]
      refine g2.w (fun p hp => ?_)
      rw [hef p hp, if_pos q, p2]
  · rw [if_neg q]
    refine ⟨⟨hC1, N, ln, kd, kk, hm1, c4, by rw [s2]; exact hn, hpend, ?_⟩, hd.code⟩
    rw [s2]
    refine (he.w (fun p hp => ?_)).m (sa 13 (by decide) (by decide)) (sa 14 (by decide) (by decide))
    rw [hef p hp, if_neg q, p2]
end
section
/-! ===== the calls that change, side by side ===== -/
theorem wou_of {σp σc : Mem} {l : List (Nat × Int32)} {b : Bool} (h : wrs σp l = (σc, b)) (r : Option AV) : wou σp l r = if b = true then .inr (eIS, σc) else .inl (r, σc) := by
  unfold wou
  rw [h]
def RM (σ τ : Mem) : Prop := ∀ a, 7 ≤ a → a ≤ 14 → τ a = σ a
theorem RM.mp {σ τ : Mem} {N : Nat} {ln kd : Nat → Nat} (h : RM σ τ) (hm : MP σ N ln kd) : MP τ N ln kd := hm.cong (by rw [h 7 (by decide) (by decide)]) (h 8 (by decide) (by decide)) (h 9 (by decide) (by decide)) (h 10 (by decide) (by decide)) (h 11 (by decide) (by decide))
theorem RM.e7 {σ τ : Mem} (h : RM σ τ) : τ 7 = σ 7 := h 7 (by decide) (by decide)
theorem Cpl.chg {yX : MethodName} {MX : MI} {aX : List AV} {yM : MethodName} {MM : MI} {aM : List AV} {codes : List (String × Nat)} {σ σp σc : Mem} {f : Nat → Int32} {k r : Nat} {v : Int32} {F D : Mem → Mem}
    (hX : MetO yX MX aX σ (wou σp (chgL f k) (some (.inl v)))) (hw : wrs σp (chgL f k) = (σc, decide (r ≠ 0))) (hc : RM σ σc)
    (hD : ∀ τ, RM σ τ → (∀ a, a ≠ 7 → D τ a = τ a) ∧ Rz (D τ 7 10) k r)
    (hj : ∀ τ σ1, RM σ τ → τ 1 = σc 1 → τ 2 = σc 2 → Dz (D τ) k r σ1 → J (if r < 2 then F σ1 else σ1) ∧ (if r < 2 then F σ1 else σ1) 7 0 = dc r)
    (hM : ∀ τ σ1, RM σ τ → Dz (D τ) k r σ1 → MetO yM MM aM τ (.inl (some (.inl (if r = 0 then v else 0)), if r < 2 then F σ1 else σ1)))
    (hin : (eIS, 1) ∈ codes) (h15 : ∀ σ1, F σ1 15 = σ1 15) : Cpl yX MX aX yM MM aM codes σ := by
  rw [wou_of hw] at hX
  by_cases q : r = 0
  · left
    rw [if_neg (by rw [q]; decide)] at hX
    have hτ : RM σ (st σc 15 0 v) := fun a h1 h2 => (st_ne _ _ _ (by omega)).trans (hc a h1 h2)
    obtain ⟨d1, d2⟩ := hD _ hτ
    obtain ⟨σ1, hd⟩ := Rz.dz d2
    obtain ⟨j1, j2⟩ := hj _ σ1 hτ rfl rfl hd
    have hm := hM _ σ1 hτ hd
    rw [if_pos q] at hm
    rw [if_pos (by omega)] at hm j1 j2
    refine ⟨v, σc, _, hX, hm, ?_, j1, ?_⟩
    · rw [j2, q]; rfl
    · rw [h15, hd.ne 15 (by decide), d1 15 (by decide)]; rfl
  · right
    rw [if_pos (by simp [q])] at hX
    obtain ⟨d1, d2⟩ := hD _ hc
    obtain ⟨σ1, hd⟩ := Rz.dz d2
    obtain ⟨j1, j2⟩ := hj _ σ1 hc rfl rfl hd
    have hm := hM _ σ1 hc hd
    refine ⟨eIS, 1, σc, _, _, hin, hX, hm, ?_, j1⟩
    rw [j2]
    unfold dc
    rw [if_neg q]; rfl
/-- what a change of the model starts from -/
def D0 (τ : Mem) : Mem := st τ 7 0 (nI 0)
theorem D0_spec {σ : Mem} (hl : σ 1 3 = σ 7 10) {k r : Nat} (hr : Rz (σ 1 3) k r) (τ : Mem) (h : RM σ τ) : (∀ a, a ≠ 7 → D0 τ a = τ a) ∧ Rz (D0 τ 7 10) k r := by
  refine ⟨fun a ha => st_ne _ _ _ ha, ?_⟩
  show Rz (τ 7 10) k r
  rw [h.e7, ← hl]; exact hr
theorem D0_7 {σ τ : Mem} (h : RM σ τ) (j : Nat) (hj : j ≠ 0) : D0 τ 7 j = σ 7 j := by
  show upd (τ 7) 0 (nI 0) j = _
  rw [upd_n _ _ hj, h.e7]
theorem D0_a {σ τ : Mem} (h : RM σ τ) (a : Nat) (h1 : 8 ≤ a) (h2 : a ≤ 14) : D0 τ a = σ a := (st_ne _ _ _ (by omega)).trans (h a (by omega) h2)
theorem EF.jn {w v : Nat → Int32} {σ τ : Mem} {N : Nat} {ln kd : Nat → Nat} (h : EF w σ N ln kd) {fr to : Nat} (hft : fr ≤ to) (ht : to < N) (hv : ∀ p, p ≠ pos ln fr → p ≠ pos ln (to + 1) - 1 → v p = w p) (hv1 : v (pos ln fr) = nI (256 * (pos ln (to + 1) - pos ln fr))) (hv2 : v (pos ln (to + 1) - 1) = nI (256 * (pos ln (to + 1) - pos ln fr))) (e13 : τ 13 = σ 13) (e14 : τ 14 = σ 14) :
    EF v τ (N - (to - fr)) (jln ln fr to) (jkd kd fr to) := by
  have h3 := jlen (ln := ln) (fr := fr) (to := to) (fun i _ h2 => h.1.ln3 (by omega)) hft
  have h9 := h.1.end ht
  have h9' : pos ln (to + 1) = pos ln to + ln to := rfl
  have hout : ∀ i, i < N → (i < fr ∨ to < i) → ∀ t, t < ln i → v (pos ln i + t) = w (pos ln i + t) := by
    intro i hi hq t htl
    rcases hq with q | q
    · have := h.1.sep hi q
      exact hv _ (by omega) (by omega)
    · have := pos_mono (ln := ln) (i := to + 1) (j := i) q
      exact hv _ (by omega) (by omega)
  refine ⟨h.1.jn hft ht hv1 hv2 (fun i hi hq => ⟨hout i hi hq 0 (by have := h.1.ln3 hi; omega), ?_⟩), fun r hr => ?_, fun e he hk i hi => ?_⟩
  · have g := h.1.ln3 hi
    have := hout i hi hq (ln i - 1) (by omega)
    have e : pos ln i + (ln i - 1) = pos ln i + ln i - 1 := by omega
    rw [e] at this
    exact this
  · rw [e14, hv _ (by omega) (by omega)]
    exact h.2.1 r hr
  · rw [e13]
    rcases Nat.lt_trichotomy e fr with q | q | q
    · rw [jkd_lo q] at hk
      rw [jln_lo q] at hi
      rw [jpos_lo (by omega)]
      have := hout e (by omega) (Or.inl q) (1 + i) (by omega)
      rw [← Nat.add_assoc] at this
      rw [this]
      exact h.2.2 e (by omega) hk i hi
    · rw [q, jkd_at] at hk
      exact absurd rfl hk
    · rw [jkd_hi q] at hk
      rw [jln_hi q] at hi
      rw [jpos_hi hft q]
      have := hout (e + (to - fr)) (by omega) (Or.inr (by omega)) (1 + i) (by omega)
      rw [← Nat.add_assoc] at this
      rw [this]
      exact h.2.2 _ (by omega) hk i hi
theorem EF.word {w : Nat → Int32} {σ τ : Mem} {N : Nat} {ln kd : Nat → Nat} (h : EF w σ N ln kd) {e j : Nat} (he : e < N) (hj : j + 2 < ln e) (x : Int32) (e13 : τ 13 = upd (σ 13) (pos ln e + 1 + j) x) (e14 : τ 14 = σ 14) :
    EF (upd w (pos ln e + 1 + j) x) τ N ln kd := by
  have g := h.1.end he
  have hne : ∀ i t, i < N → t < ln i → (i ≠ e ∨ t ≠ 1 + j) → pos ln i + t ≠ pos ln e + 1 + j := by
    intro i t hi ht hq
    rcases Nat.lt_trichotomy i e with q | q | q
    · have := h.1.sep hi q
      omega
    · subst q; omega
    · have := h.1.sep he q
      omega
  refine ⟨⟨h.1.1, fun i hi => ⟨h.1.ln3 hi, h.1.kdl hi, ?_, ?_⟩⟩, fun r hr => ?_, fun e' he' hk i hi => ?_⟩
  · have := hne i 0 hi (by have := h.1.ln3 hi; omega) (by omega)
    rw [Nat.add_zero] at this
    rw [upd_n _ _ this]; exact h.1.tag hi
  · have g3 := h.1.ln3 hi
    have := hne i (ln i - 1) hi (by omega) (by
      rcases Nat.lt_trichotomy i e with q | q | q
      · omega
      · subst q; omega
      · omega)
    rw [upd_n _ _ (by omega)]; exact h.1.tag2 hi
  · rw [upd_n _ _ (by omega), e14]; exact h.2.1 r hr
  · rw [e13]
    by_cases q : pos ln e' + 1 + i = pos ln e + 1 + j
    · rw [q, upd_s, upd_s]
    · rw [upd_n _ _ q, upd_n _ _ q]; exact h.2.2 e' he' hk i hi
theorem EF.root {w : Nat → Int32} {σ τ : Mem} {N : Nat} {ln kd : Nat → Nat} (h : EF w σ N ln kd) {j : Nat} (hj : j < 8) (x : Int32) (e13 : τ 13 = σ 13) (e14 : τ 14 = upd (σ 14) j x) :
    EF (upd w (257 + j) x) τ N ln kd := by
  refine ⟨h.1.cong (fun p _ h2 => upd_n _ _ (by omega)), fun r hr => ?_, fun e' he' hk i hi => ?_⟩
  · rw [e14]
    by_cases q : r = j
    · rw [q, upd_s, upd_s]
    · rw [upd_n _ _ (by omega), upd_n _ _ q]; exact h.2.1 r hr
  · have g := h.1.end he'
    rw [e13, upd_n _ _ (by omega)]; exact h.2.2 e' he' hk i hi
theorem mfP (σ : Mem) (f n k : Nat) (h : f + n ≤ 257) : plnL (peF σ 0 f n k 3) 0 2 = [(f, nI (256 * n + k)), (f + n - 1, nI (256 * n + k))] := by
  have e1 : (nI f).toNatClampNeg = f := nI_clamp (by omega)
  have e2 : (nI (f + n - 1)).toNatClampNeg = f + n - 1 := nI_clamp (by omega)
  show [((nI f).toNatClampNeg, nI (256 * n + k)), ((nI (f + n - 1)).toNatClampNeg, nI (256 * n + k))] = _
  rw [e1, e2]
theorem pwP (σ : Mem) (p : Nat) (x : Int32) (h : p < 265) : plnL (pwF σ p x 3) 0 1 = [(p, x)] := by
  have e1 : (nI p).toNatClampNeg = p := nI_clamp (by omega)
  show [((nI p).toNatClampNeg, x)] = _
  rw [e1]
theorem pw_plOK (σ : Mem) (p : Nat) (x : Int32) (h : p < 265) : plOK (pwF σ p x 3) 1 := by
  refine ⟨by decide, fun i hi => ?_⟩
  obtain rfl : i = 0 := by omega
  exact ⟨p, h, rfl⟩
theorem pwF_ne (σ : Mem) (p : Nat) (x : Int32) (a : Nat) (h : a ≠ 3) : pwF σ p x a = σ a := by
  unfold pwF
  rw [st_ne _ _ _ h, st_ne _ _ _ h]
theorem cp_give {σ : Mem} (hJ : J σ) (a : Int32) : Cpl y_X_give mi_X_give [.inr (.inl 0), .inl a] y_M_give mi_M_give [.inr (.inl 7), .inl a] [(eIS, 1), (eNE, 2)] σ := by
  rcases hJ.bl with hd | hd
  · obtain ⟨N, ln, kd, hm, hp, he, h265, h12, h4⟩ := hJ.up hd
    by_cases q : Us N ln kd a
    · obtain ⟨e, h1, h2, rfl⟩ := q
      obtain ⟨hg1, hg2, hg3⟩ := gv_le (kd := kd) h1
      have hX := c_X_give_ok σ h4 hp h1 h2
      generalize hfr : gv0 kd e = fr at hX hg1
      generalize hto : gv1 N kd e = to at hX hg2 hg3
      have g1 := hp.end hg3
      have g2 := jlen (ln := ln) (fr := fr) (to := to) (fun i _ z => hp.ln3 (by omega)) (by omega)
      have g3 : pos ln (to + 1) = pos ln to + ln to := rfl
      rw [← g3] at hX
      obtain ⟨r, hr⟩ := Rz.ex (x := σ 1 3) (by rw [hJ.1.2.2.2.1]; exact hJ.1.1) 2
      have p1 : ∀ b, b ≠ 3 → b ≠ 4 → peF (lsF σ ln N) 0 (pos ln fr) (pos ln (to + 1) - pos ln fr) 0 b = σ b := fun b hb hb4 => (peF_ne _ _ _ _ _ _ hb).trans (lsF_ne _ _ _ _ hb4)
      obtain ⟨σc, hw, hne, hj⟩ := J_chg hJ.1 hd hm h265 h12 he (p1 1 (by decide) (by decide)) (p1 2 (by decide) (by decide)) (mf_plOK (lsF σ ln N) (pos ln fr) (pos ln (to + 1) - pos ln fr) 0 (by omega) (by omega)) hr (fun σ1 => jnM σ1 ln fr to N)
        (fun σ1 m1 e13 e14 => ⟨_, _, _, m1.jn (by omega) hg3, by
          rw [mfP _ _ _ _ (by omega)]
          refine he.jn (by omega) hg3 (fun p z1 z2 => ?_) ?_ ?_ ((jnM_ne σ1 ln fr to N 13 (by decide) (by decide) (by decide) (by decide) (by decide) (by decide)).trans e13) ((jnM_ne σ1 ln fr to N 14 (by decide) (by decide) (by decide) (by decide) (by decide) (by decide)).trans e14)
          · show upd (upd (σ 2) _ _) _ _ p = σ 2 p
            rw [upd_n _ _ (by omega), upd_n _ _ z1]
          · show upd (upd (σ 2) _ _) _ _ (pos ln fr) = _
            rw [upd_n _ _ (by omega), upd_s]; rfl
          · show upd (upd (σ 2) _ _) (pos ln fr + (pos ln (to + 1) - pos ln fr) - 1) _ (pos ln (to + 1) - 1) = _
            rw [show pos ln fr + (pos ln (to + 1) - pos ln fr) - 1 = pos ln (to + 1) - 1 by omega, upd_s]; rfl⟩)
        (fun σ1 hb j => shF_bl hb _ _ _ j) (fun σ1 => ⟨jnM_ne σ1 ln fr to N 1 (by decide) (by decide) (by decide) (by decide) (by decide) (by decide), jnM_ne σ1 ln fr to N 2 (by decide) (by decide) (by decide) (by decide) (by decide) (by decide), fun j hj => jnM_7 σ1 ln fr to N j hj⟩)
      refine Cpl.chg (D := D0) (F := fun σ1 => jnM σ1 ln fr to N) hX hw (fun b hb1 hb2 => (hne b (by omega) (by omega)).trans (p1 b (by omega) (by omega))) (D0_spec hJ.1.2.2.2.1 hr) (fun τ σ1 hτ t1 t2 hdz => hj (D0 τ) σ1 t1 t2 (D0_7 hτ) (D0_a hτ) hdz) (fun τ σ1 hτ hdz => ?_) (by simp) (fun σ1 => jnM_ne σ1 ln fr to N 15 (by decide) (by decide) (by decide) (by decide) (by decide) (by decide))
      have hM := c_M_give_ok τ (by rw [hτ.e7]; exact hd) (by rw [hτ.e7]; exact hJ.1.1) (hτ.mp hm) (fun j => by rw [hτ 12 (by decide) (by decide)]; exact hJ.1.2.2.2.2.2 j) ⟨h1, h2, rfl⟩ hdz
      rw [hfr, hto] at hM
      exact hM
    · exact Cpl.no hJ 2 (by simp) (RQ.ls σ ln N) (c_X_give_no a σ h4 hp q) (fun τ hτ => c_M_give_no a τ (by rw [hτ.e7]; exact hd) (hτ.mp hm) q)
  · obtain ⟨N, ln, kd, hm, h4⟩ := hJ.dn hd
    exact Cpl.no hJ 1 (by simp) (RQ.rf σ) (c_X_give_down a σ h4) (fun τ hτ => c_M_give_down a τ (by rw [hτ.e7]; exact hd) (hτ.mp hm))
theorem cp_store {σ : Mem} (hJ : J σ) (a x w : Int32) : Cpl y_X_store mi_X_store [.inr (.inl 0), .inl a, .inl x, .inl w] y_M_store mi_M_store [.inr (.inl 7), .inl a, .inl x, .inl w] [(eIS, 1), (eNE, 2), (eIO, 3), (eIA, 4)] σ := by
  rcases hJ.bl with hd | hd
  · obtain ⟨N, ln, kd, hm, hp, he, h265, h12, h4⟩ := hJ.up hd
    by_cases q : Us N ln kd a
    · obtain ⟨e, h1, h2, rfl⟩ := q
      have g := hp.lt h1
      have g1 := hp.end h1
      by_cases q2 : wd_ok x (ln e)
      · obtain ⟨j, hj, rfl⟩ := wd_nat q2 (by omega)
        by_cases q3 : j + 1 < kd e ∧ w ≠ 0 ∧ ¬ Us N ln kd w
        · exact Cpl.no hJ 4 (by simp) (RQ.ls σ ln N) (c_X_store_ptr j w σ h4 hp h1 h2 hj q3) (fun τ hτ => c_M_store_ptr j w τ (by rw [hτ.e7]; exact hd) (hτ.mp hm) ⟨h1, h2, rfl⟩ hj q3.1 q3.2.1 q3.2.2)
        · have hX := c_X_store_ok j w σ h4 hp h1 h2 hj q3
          have ev := he.2.2 e h1 h2 j (by omega)
          obtain ⟨r, hr⟩ := Rz.ex (x := σ 1 3) (by rw [hJ.1.2.2.2.1]; exact hJ.1.1) 1
          have p1 : ∀ b, b ≠ 3 → b ≠ 4 → pwF (lsF σ ln N) (pos ln e + 1 + j) w b = σ b := fun b hb hb4 => (pwF_ne _ _ _ _ hb).trans (lsF_ne _ _ _ _ hb4)
          obtain ⟨σc, hw, hne, hj2⟩ := J_chg hJ.1 hd hm h265 h12 he (p1 1 (by decide) (by decide)) (p1 2 (by decide) (by decide)) (pw_plOK (lsF σ ln N) (pos ln e + 1 + j) w (by omega)) hr (fun σ1 => st σ1 13 (pos ln e + 1 + j) w)
            (fun σ1 m1 e13 e14 => ⟨_, _, _, m1.cong rfl rfl rfl rfl rfl, by
              rw [pwP _ _ _ (by omega)]
              exact he.word h1 (by omega) w (by rw [← e13]; rfl) e14⟩)
            (fun σ1 hb j => hb j) (fun σ1 => ⟨rfl, rfl, fun j hj => rfl⟩)
          refine Cpl.chg (D := D0) (F := fun σ1 => st σ1 13 (pos ln e + 1 + j) w) hX hw (fun b hb1 hb2 => (hne b (by omega) (by omega)).trans (p1 b (by omega) (by omega))) (D0_spec hJ.1.2.2.2.1 hr) (fun τ σ1 hτ t1 t2 hdz => hj2 (D0 τ) σ1 t1 t2 (D0_7 hτ) (D0_a hτ) hdz) (fun τ σ1 hτ hdz => ?_) (by simp) (fun σ1 => rfl)
          have hM := c_M_store_ok j w τ (by rw [hτ.e7]; exact hd) (by rw [hτ.e7]; exact hJ.1.1) (hτ.mp hm) h1 h2 hj (fun z1 z2 => Classical.byContradiction (fun z3 => q3 ⟨z1, z2, z3⟩)) hdz
          rw [hτ 13 (by decide) (by decide), ← ev] at hM
          exact hM
      · exact Cpl.no hJ 3 (by simp) (RQ.ls σ ln N) (c_X_store_word x w σ h4 hp h1 h2 q2) (fun τ hτ => c_M_store_word x w τ (by rw [hτ.e7]; exact hd) (hτ.mp hm) ⟨h1, h2, rfl⟩ q2)
    · exact Cpl.no hJ 2 (by simp) (RQ.ls σ ln N) (c_X_store_no a x w σ h4 hp q) (fun τ hτ => c_M_store_no a x w τ (by rw [hτ.e7]; exact hd) (hτ.mp hm) q)
  · obtain ⟨N, ln, kd, hm, h4⟩ := hJ.dn hd
    exact Cpl.no hJ 1 (by simp) (RQ.rf σ) (c_X_store_down a x w σ h4) (fun τ hτ => c_M_store_down a x w τ (by rw [hτ.e7]; exact hd) (hτ.mp hm))
theorem cp_setRoot {σ : Mem} (hJ : J σ) (x w : Int32) : Cpl y_X_setRoot mi_X_setRoot [.inr (.inl 0), .inl x, .inl w] y_M_setRoot mi_M_setRoot [.inr (.inl 7), .inl x, .inl w] [(eIS, 1), (eIO, 2), (eNE, 3)] σ := by
  rcases hJ.bl with hd | hd
  · obtain ⟨N, ln, kd, hm, hp, he, h265, h12, h4⟩ := hJ.up hd
    by_cases q : rt_ok x
    · obtain ⟨j, hj, rfl⟩ := rt_nat q
      by_cases q3 : w ≠ 0 ∧ ¬ Us N ln kd w
      · exact Cpl.no hJ 3 (by simp) (RQ.ls σ ln N) (c_X_setRoot_bad j hj w σ h4 hp q3.1 q3.2) (fun τ hτ => c_M_setRoot_bad j hj w τ (by rw [hτ.e7]; exact hd) (hτ.mp hm) q3.1 q3.2)
      · have er := he.2.1 j hj
        obtain ⟨v, hv⟩ : ∃ v, (Us N ln kd (σ 14 j) → v = σ 14 j) ∧ (¬ Us N ln kd (σ 14 j) → v = 0) := by
          by_cases z : Us N ln kd (σ 14 j)
          · exact ⟨_, fun _ => rfl, fun y => absurd z y⟩
          · exact ⟨0, fun y => absurd y z, fun _ => rfl⟩
        have hX := c_X_setRoot_ok j hj w v σ h4 hp (Classical.byContradiction (fun z => q3 ⟨fun y => z (Or.inl y), fun y => z (Or.inr y)⟩)) (by rw [er]; exact hv)
        obtain ⟨r, hr⟩ := Rz.ex (x := σ 1 3) (by rw [hJ.1.2.2.2.1]; exact hJ.1.1) 1
        have p1 : ∀ b, b ≠ 3 → b ≠ 4 → pwF (lsF σ ln N) (257 + j) w b = σ b := fun b hb hb4 => (pwF_ne _ _ _ _ hb).trans (lsF_ne _ _ _ _ hb4)
        obtain ⟨σc, hw, hne, hj2⟩ := J_chg hJ.1 hd hm h265 h12 he (p1 1 (by decide) (by decide)) (p1 2 (by decide) (by decide)) (pw_plOK (lsF σ ln N) (257 + j) w (by omega)) hr (fun σ1 => st σ1 14 j w)
          (fun σ1 m1 e13 e14 => ⟨_, _, _, m1.cong rfl rfl rfl rfl rfl, by
            rw [pwP _ _ _ (by omega)]
            exact he.root hj w e13 (by rw [← e14]; rfl)⟩)
          (fun σ1 hb j => hb j) (fun σ1 => ⟨rfl, rfl, fun j hj => rfl⟩)
        refine Cpl.chg (D := D0) (F := fun σ1 => st σ1 14 j w) hX hw (fun b hb1 hb2 => (hne b (by omega) (by omega)).trans (p1 b (by omega) (by omega))) (D0_spec hJ.1.2.2.2.1 hr) (fun τ σ1 hτ t1 t2 hdz => hj2 (D0 τ) σ1 t1 t2 (D0_7 hτ) (D0_a hτ) hdz) (fun τ σ1 hτ hdz => ?_) (by simp) (fun σ1 => rfl)
        exact c_M_setRoot_ok j hj w τ (by rw [hτ.e7]; exact hd) (by rw [hτ.e7]; exact hJ.1.1) (hτ.mp hm) (fun z1 => Classical.byContradiction (fun z3 => q3 ⟨z1, z3⟩)) hdz v (by rw [hτ 14 (by decide) (by decide)]; exact hv)
    · exact Cpl.no hJ 2 (by simp) (RQ.rf σ) (c_X_setRoot_no x w σ h4 q) (fun τ hτ => c_M_setRoot_no x w τ (by rw [hτ.e7]; exact hd) q)
  · obtain ⟨N, ln, kd, hm, h4⟩ := hJ.dn hd
    exact Cpl.no hJ 1 (by simp) (RQ.rf σ) (c_X_setRoot_down x w σ h4) (fun τ hτ => c_M_setRoot_down x w τ (by rw [hτ.e7]; exact hd))
end
section
/-! ===== take, side by side ===== -/
theorem zL_len : ∀ n a, (zL a n).length = n
  | 0, _ => rfl
  | n + 1, a => congrArg Nat.succ (zL_len n (a + 1))
theorem zL_in : ∀ n a, ∀ q ∈ zL a n, a ≤ q.1 ∧ q.1 < a + n
  | 0, _, _, h => absurd h List.not_mem_nil
  | n + 1, a, q, h => by
    rcases List.mem_cons.mp h with rfl | h
    · exact ⟨Nat.le_refl _, by show a < a + (n + 1); omega⟩
    · have := zL_in n (a + 1) q h
      omega
theorem zL_apl : ∀ n a (w : Nat → Int32) p, a ≤ p → p < a + n → apl w (zL a n) p = 0
  | 0, _, _, _, h1, h2 => absurd h2 (by omega)
  | n + 1, a, w, p, h1, h2 => by
    show apl (upd w a 0) (zL (a + 1) n) p = 0
    by_cases q : p = a
    · rw [apl_ne _ _ _ (fun z hz => by have := zL_in n (a + 1) z hz; omega), q, upd_s]
    · exact zL_apl n (a + 1) _ p (by omega) (by omega)
theorem EF.free {w v : Nat → Int32} {σ τ : Mem} {N : Nat} {ln kd : Nat → Nat} (h : EF w σ N ln kd) {e : Nat} (he : e < N) (hk : kd e = 0) (hv : ∀ p, ¬ (pos ln e + 1 ≤ p ∧ p + 1 < pos ln e + ln e) → v p = w p) (e13 : τ 13 = σ 13) (e14 : τ 14 = σ 14) : EF v τ N ln kd := by
  have g := h.1.end he
  have hne : ∀ i t, i < N → t < ln i → (i ≠ e ∨ t = 0 ∨ t + 1 = ln i) → v (pos ln i + t) = w (pos ln i + t) := by
    intro i t hi ht hq
    refine hv _ (fun z => ?_)
    rcases Nat.lt_trichotomy i e with q | q | q
    · have := h.1.sep hi q
      omega
    · subst q; omega
    · have := h.1.sep he q
      omega
  refine ⟨⟨h.1.1, fun i hi => ⟨h.1.ln3 hi, h.1.kdl hi, ?_, ?_⟩⟩, fun r hr => ?_, fun e' he' hk' i hi => ?_⟩
  · have := hne i 0 hi (by have := h.1.ln3 hi; omega) (by omega)
    rw [Nat.add_zero] at this
    rw [this]; exact h.1.tag hi
  · have g3 := h.1.ln3 hi
    have := hne i (ln i - 1) hi (by omega) (by omega)
    rw [show pos ln i + (ln i - 1) = pos ln i + ln i - 1 by omega] at this
    rw [this]; exact h.1.tag2 hi
  · rw [hv _ (by omega), e14]; exact h.2.1 r hr
  · have := hne e' (1 + i) he' (by omega) (Or.inl (fun z => hk' (by rw [z]; exact hk)))
    rw [← Nat.add_assoc] at this
    rw [this, e13]
    exact h.2.2 e' he' hk' i hi
theorem clr_in (f : Nat → Int32) {a n p : Nat} (h1 : a ≤ p) (h2 : p < a + n) : clr f a n p = 0 := if_pos ⟨h1, h2⟩
theorem clr_out (f : Nat → Int32) {a n p : Nat} (h : ¬ (a ≤ p ∧ p < a + n)) : clr f a n p = f p := if_neg h
theorem EF.mkc {w v : Nat → Int32} {σ τ : Mem} {N : Nat} {ln kd : Nat → Nat} (h : EF w σ N ln kd) {e L k : Nat} (he : e < N) (hL : 3 ≤ L) (hk : k + 1 ≤ L) (hL2 : L + 3 ≤ ln e)
    (hv : ∀ p, p ≠ pos ln e → p ≠ pos ln e + L - 1 → p ≠ pos ln e + L → p ≠ pos ln e + ln e - 1 → v p = w p) (hv1 : v (pos ln e) = nI (256 * L + k)) (hv2 : v (pos ln e + L - 1) = nI (256 * L + k)) (hv3 : v (pos ln e + L) = nI (256 * (ln e - L))) (hv4 : v (pos ln e + ln e - 1) = nI (256 * (ln e - L)))
    (hz : ∀ p, pos ln e + 1 ≤ p → p + 1 < pos ln e + L → w p = 0) (e13 : τ 13 = clr (σ 13) (pos ln e + 1) (L - 2)) (e14 : τ 14 = σ 14) : EF v τ (N + 1) (xln ln e L) (xkd kd e k) := by
  have g := h.1.end he
  have hne : ∀ i t, i < N → t < ln i → i ≠ e → v (pos ln i + t) = w (pos ln i + t) ∧ ¬ (pos ln e + 1 ≤ pos ln i + t ∧ pos ln i + t < pos ln e + 1 + (L - 2)) := by
    intro i t hi ht hq
    rcases Nat.lt_or_gt_of_ne hq with q | q
    · have := h.1.sep hi q
      exact ⟨hv _ (by omega) (by omega) (by omega) (by omega), by omega⟩
    · have := h.1.sep he q
      exact ⟨hv _ (by omega) (by omega) (by omega) (by omega), by omega⟩
  refine ⟨h.1.xn he hL hk hL2 hv1 hv2 hv3 hv4 (fun i hi hq => ?_), fun r hr => ?_, fun e' he' hk' i hi => ?_⟩
  · have g3 := h.1.ln3 hi
    have h1 := (hne i 0 hi (by omega) hq).1
    have h2 := (hne i (ln i - 1) hi (by omega) hq).1
    rw [show pos ln i + (ln i - 1) = pos ln i + ln i - 1 by omega] at h2
    exact ⟨h1, h2⟩
  · rw [hv _ (by omega) (by omega) (by omega) (by omega), e14]; exact h.2.1 r hr
  · rw [e13]
    rcases Nat.lt_trichotomy e' e with q | q | q
    · rw [xkd_lo q] at hk'
      rw [xln_lo q] at hi
      rw [xpos_lo (by omega)]
      have := hne e' (1 + i) (by omega) (by omega) (by omega)
      rw [← Nat.add_assoc] at this
      rw [this.1, clr_out _ this.2]
      exact h.2.2 e' (by omega) hk' i hi
    · subst q
      rw [xln_at] at hi
      rw [xpos_lo (by omega), clr_in _ (by omega) (by omega), hv _ (by omega) (by omega) (by omega) (by omega)]
      exact hz _ (by omega) (by omega)
    · rcases Nat.lt_or_ge (e + 1) e' with q2 | q2
      · rw [xkd_hi q2] at hk'
        rw [xln_hi q2] at hi
        rw [xpos_hi (by omega) q2]
        have := hne (e' - 1) (1 + i) (by omega) (by omega) (by omega)
        rw [← Nat.add_assoc] at this
        rw [this.1, clr_out _ this.2]
        exact h.2.2 (e' - 1) (by omega) hk' i hi
      · obtain rfl : e' = e + 1 := by omega
        rw [xkd_a1] at hk'
        exact absurd rfl hk'
theorem EF.mkn {w v : Nat → Int32} {σ τ : Mem} {N : Nat} {ln kd : Nat → Nat} (h : EF w σ N ln kd) {e k : Nat} (he : e < N) (hk : k + 1 ≤ ln e)
    (hv : ∀ p, p ≠ pos ln e → p ≠ pos ln e + ln e - 1 → v p = w p) (hv1 : v (pos ln e) = nI (256 * ln e + k)) (hv2 : v (pos ln e + ln e - 1) = nI (256 * ln e + k))
    (hz : ∀ p, pos ln e + 1 ≤ p → p + 1 < pos ln e + ln e → w p = 0) (e13 : τ 13 = clr (σ 13) (pos ln e + 1) (ln e - 2)) (e14 : τ 14 = σ 14) : EF v τ N ln (ukd kd e k) := by
  have g := h.1.end he
  have g3 := h.1.ln3 he
  have hne : ∀ i t, i < N → t < ln i → i ≠ e → v (pos ln i + t) = w (pos ln i + t) ∧ ¬ (pos ln e + 1 ≤ pos ln i + t ∧ pos ln i + t < pos ln e + 1 + (ln e - 2)) := by
    intro i t hi ht hq
    rcases Nat.lt_or_gt_of_ne hq with q | q
    · have := h.1.sep hi q
      exact ⟨hv _ (by omega) (by omega), by omega⟩
    · have := h.1.sep he q
      exact ⟨hv _ (by omega) (by omega), by omega⟩
  refine ⟨h.1.un he hk hv1 hv2 (fun i hi hq => ?_), fun r hr => ?_, fun e' he' hk' i hi => ?_⟩
  · have g3 := h.1.ln3 hi
    have h1 := (hne i 0 hi (by omega) hq).1
    have h2 := (hne i (ln i - 1) hi (by omega) hq).1
    rw [show pos ln i + (ln i - 1) = pos ln i + ln i - 1 by omega] at h2
    exact ⟨h1, h2⟩
  · rw [hv _ (by omega) (by omega), e14]; exact h.2.1 r hr
  · rw [e13]
    by_cases q : e' = e
    · subst q
      rw [clr_in _ (by omega) (by omega), hv _ (by omega) (by omega)]
      exact hz _ (by omega) (by omega)
    · unfold ukd at hk'
      rw [if_neg q] at hk'
      have := hne e' (1 + i) he' (by omega) q
      rw [← Nat.add_assoc] at this
      rw [this.1, clr_out _ this.2]
      exact h.2.2 e' he' hk' i hi
theorem tkP_ne (σ : Mem) (f n len m k a : Nat) (h : a ≠ 3) : tkP σ f n len m k a = σ a := by
  unfold tkP
  split
  · rw [peF_ne _ _ _ _ _ _ h, peF_ne _ _ _ _ _ _ h]
  · rw [peF_ne _ _ _ _ _ _ h]
theorem tkP_n (σ : Mem) (f n m k : Nat) (c : ¬ m + 5 ≤ n) (h : f + n ≤ 257) : plnL (tkP σ f n (tkL n m) m k 3) 0 (tkC n m) = [(f, nI (256 * n + (1 + k))), (f + n - 1, nI (256 * n + (1 + k)))] := by
  have e1 : tkL n m = n := by unfold tkL; rw [if_neg c]
  have e2 : tkC n m = 2 := by unfold tkC; rw [if_neg c]
  have e3 : tkP σ f n n m k = peF σ 0 f n (1 + k) := by unfold tkP; rw [if_neg c]
  rw [e1, e2, e3]
  exact mfP σ f n (1 + k) h
theorem tkP_c (σ : Mem) (f n m k : Nat) (c : m + 5 ≤ n) (h : f + n ≤ 257) : plnL (tkP σ f n (tkL n m) m k 3) 0 (tkC n m) = [(f, nI (256 * (m + 2) + (1 + k))), (f + (m + 2) - 1, nI (256 * (m + 2) + (1 + k))), (f + (m + 2), nI (256 * (n - 2 - m))), (f + n - 1, nI (256 * (n - 2 - m)))] := by
  have e1 : tkL n m = m + 2 := by unfold tkL; rw [if_pos c]
  have e2 : tkC n m = 4 := by unfold tkC; rw [if_pos c]
  have e3 : tkP σ f n (m + 2) m k = peF (peF σ 0 f (m + 2) (1 + k)) 1 (f + (m + 2)) (n - 2 - m) 0 := by unfold tkP; rw [if_pos c]
  rw [e1, e2, e3]
  have d1 : (nI f).toNatClampNeg = f := nI_clamp (by omega)
  have d2 : (nI (f + (m + 2) - 1)).toNatClampNeg = f + (m + 2) - 1 := nI_clamp (by omega)
  have d3 : (nI (f + (m + 2))).toNatClampNeg = f + (m + 2) := nI_clamp (by omega)
  have d4 : (nI (f + (m + 2) + (n - 2 - m) - 1)).toNatClampNeg = f + n - 1 := by rw [nI_clamp (by omega)]; omega
  show [((nI f).toNatClampNeg, nI (256 * (m + 2) + (1 + k))), ((nI (f + (m + 2) - 1)).toNatClampNeg, nI (256 * (m + 2) + (1 + k))), ((nI (f + (m + 2))).toNatClampNeg, nI (256 * (n - 2 - m))), ((nI (f + (m + 2) + (n - 2 - m) - 1)).toNatClampNeg, nI (256 * (n - 2 - m)))] = _
  rw [d1, d2, d3, d4]
theorem tk_plOK (σ : Mem) (f n m k : Nat) (h : f + n ≤ 257) (h1 : 1 ≤ n) : plOK (tkP σ f n (tkL n m) m k 3) (tkC n m) := by
  by_cases c : m + 5 ≤ n
  · have e1 : tkL n m = m + 2 := by unfold tkL; rw [if_pos c]
    have e2 : tkC n m = 4 := by unfold tkC; rw [if_pos c]
    have e3 : tkP σ f n (m + 2) m k = peF (peF σ 0 f (m + 2) (1 + k)) 1 (f + (m + 2)) (n - 2 - m) 0 := by unfold tkP; rw [if_pos c]
    rw [e1, e2, e3]
    refine ⟨by decide, fun i hi => ?_⟩
    match i, hi with
    | 0, _ => exact ⟨f, by omega, rfl⟩
    | 1, _ => exact ⟨f + (m + 2) - 1, by omega, rfl⟩
    | 2, _ => exact ⟨f + (m + 2), by omega, rfl⟩
    | 3, _ => exact ⟨f + (m + 2) + (n - 2 - m) - 1, by omega, rfl⟩
  · have e1 : tkL n m = n := by unfold tkL; rw [if_neg c]
    have e2 : tkC n m = 2 := by unfold tkC; rw [if_neg c]
    have e3 : tkP σ f n n m k = peF σ 0 f n (1 + k) := by unfold tkP; rw [if_neg c]
    rw [e1, e2, e3]
    exact mf_plOK σ f n (1 + k) h h1
theorem tkR_ne (σ : Mem) (ln : Nat → Nat) (e m k N a : Nat) (h : a < 7 ∨ a = 14 ∨ a = 15) : tkR σ ln e m k N a = σ a := by
  unfold tkR mkM cuM
  rw [stA_ne _ _ (by omega), st_ne _ _ _ (by omega), st_ne _ _ _ (by omega)]
  split
  · rw [ar_ne _ _ _ _ _ _ a (by omega) (by omega) (by omega) (by omega) (by omega), st_ne _ _ _ (by omega)]
  · rfl
theorem tkR_7 (σ : Mem) (ln : Nat → Nat) (e m k N j : Nat) (h : j ≠ 1) : tkR σ ln e m k N 7 j = σ 7 j := by
  unfold tkR mkM cuM
  rw [stA_ne _ _ (by decide), st_ne _ _ _ (by decide), st_ne _ _ _ (by decide)]
  split
  · show upd (σ 7) 1 _ j = _
    exact upd_n _ _ h
  · rfl
theorem tkR_12 (σ : Mem) (ln : Nat → Nat) (e m k N : Nat) : tkR σ ln e m k N 12 = σ 12 := by
  unfold tkR mkM cuM
  rw [stA_ne _ _ (by decide), st_ne _ _ _ (by decide), st_ne _ _ _ (by decide)]
  split
  · rfl
  · rfl
def Dt (n : Nat) (τ : Mem) : Mem := spO (D0 τ) n
theorem Dt_7 {σ τ σz : Mem} {n : Nat} (h : RM σ τ) (hz : RM σ σz) (j : Nat) (hj : j ≠ 0) : Dt n τ 7 j = spO σz n 7 j := by
  show upd (upd (upd (upd (τ 7) 0 (nI 0)) 9 (τ 7 9 + nI n)) 10 (lsub (τ 7 10) n)) 11 (τ 7 11) j = upd (upd (upd (σz 7) 9 (σz 7 9 + nI n)) 10 (lsub (σz 7 10) n)) 11 (σz 7 11) j
  rw [h.e7, hz.e7]
  by_cases q : j = 11
  · rw [q, upd_s, upd_s]
  rw [upd_n _ _ q, upd_n _ _ q]
  by_cases q : j = 10
  · rw [q, upd_s, upd_s]
  rw [upd_n _ _ q, upd_n _ _ q]
  by_cases q : j = 9
  · rw [q, upd_s, upd_s]
  rw [upd_n _ _ q, upd_n _ _ q, upd_n _ _ hj]
theorem spO_a (σ : Mem) (n a : Nat) (h : a ≠ 7) : spO σ n a = σ a := by
  unfold spO
  rw [st_ne _ _ _ h, st_ne _ _ _ h, st_ne _ _ _ h]
theorem spF_a (σ : Mem) (n a : Nat) (h : a ≠ 7) : spF σ n a = σ a := by
  unfold spF
  rw [st_ne _ _ _ h, st_ne _ _ _ h, st_ne _ _ _ h]
theorem lOK_sub {x : Int32} {n : Nat} (h : lGo x n) : lOK (lsub x n) := by
  rcases h with w | ⟨j, w1, w2, w3⟩
  · rw [w, lsub_m1]; exact Or.inl rfl
  · rw [w3, lsub_n w1 w2]; exact Or.inr ⟨_, by omega, rfl⟩
theorem cp_take_ok {σ : Mem} (hJ : J σ) (hd : σ 7 11 = 0) {N : Nat} {ln kd : Nat → Nat} (hm : MP σ N ln kd) (hp : HP (σ 2) N ln kd) (he : EF (σ 2) σ N ln kd) (h265 : σ 2 265 = 0) (h12 : σ 7 12 = 0) (h4 : σ 1 4 = 0) (m k : Nat) (h1 : 1 ≤ m) (h2 : m ≤ 254) (h3 : k ≤ m) {e : Nat} (hE : e < N) (hf : Fit ln kd m e) (hlo : ∀ j, j < e → ¬ Fit ln kd m j) :
    Cpl y_X_take mi_X_take [.inr (.inl 0), .inl (nI m), .inl (nI k)] y_M_take mi_M_take [.inr (.inl 7), .inl (nI m), .inl (nI k)] [(eIS, 1), (eIA, 2), (eUO, 3)] σ := by
  have hX := c_X_take_ok m k h1 h2 h3 σ h4 hp hE hf hlo
  have g := hp.lt hE
  have g1 := hp.end hE
  have g3 := hp.ln3 hE
  have hm2 := hf.2
  have hL : tkL (ln e) m ≤ ln e ∧ 3 ≤ tkL (ln e) m := by unfold tkL; split <;> omega
  have hLO : lOK (σ 1 3) := by rw [hJ.1.2.2.2.1]; exact hJ.1.1
  have hz0 : ∀ l : List (Nat × Int32), (∀ q ∈ l, q ∈ zL (pos ln e + 1) (tkL (ln e) m - 2)) → ∀ p, ¬ (pos ln e + 1 ≤ p ∧ p + 1 < pos ln e + ln e) → apl (σ 2) l p = σ 2 p := by
    intro l hl p hp
    refine apl_ne _ _ _ (fun q hq => ?_)
    have := zL_in _ _ q (hl q hq)
    omega
  have hlen := zL_len (tkL (ln e) m - 2) (pos ln e + 1)
  rcases lGo_or hLO (tkL (ln e) m - 2) with q | ⟨j, j1, j2, j3⟩
  · have hz := wrs_go (zL (pos ln e + 1) (tkL (ln e) m - 2)) (lsF σ ln N) (by rw [hlen]; exact q)
    unfold tkO at hX
    rw [hz, hlen] at hX
    rw [if_neg (by decide : ¬ (false = true))] at hX
    generalize hσz : stA (stA (lsF σ ln N) 2 (apl (lsF σ ln N 2) (zL (pos ln e + 1) (tkL (ln e) m - 2)))) 1 (o1 (lsF σ ln N 1) (tkL (ln e) m - 2)) = σz at hX
    have z1 : σz 1 = o1 (σ 1) (tkL (ln e) m - 2) := by rw [← hσz]; rfl
    have z2 : σz 2 = apl (σ 2) (zL (pos ln e + 1) (tkL (ln e) m - 2)) := by rw [← hσz]; rfl
    have za : ∀ a, a ≠ 1 → a ≠ 2 → a ≠ 4 → σz a = σ a := fun a y1 y2 y4 => by rw [← hσz, stA_ne _ _ y1, stA_ne _ _ y2, lsF_ne _ _ _ _ y4]
    have hzM : RM σ σz := fun a b1 b2 => za a (by omega) (by omega) (by omega)
    have s1 : spO σz (tkL (ln e) m - 2) 1 = o1 (σ 1) (tkL (ln e) m - 2) := (spO_a _ _ 1 (by decide)).trans z1
    have s2 : spO σz (tkL (ln e) m - 2) 2 = apl (σ 2) (zL (pos ln e + 1) (tkL (ln e) m - 2)) := (spO_a _ _ 2 (by decide)).trans z2
    have q' : lGo (σ 7 10) (tkL (ln e) m - 2) := by rw [← hJ.1.2.2.2.1]; exact q
    have hC : JC (spO σz (tkL (ln e) m - 2)) := by
      refine ⟨?_, ?_, ?_, ?_, ?_, fun j => ?_⟩
      · show lOK (lsub (σz 7 10) _)
        rw [hzM.e7]; exact lOK_sub q'
      · show bl (σz 7 11)
        rw [hzM.e7, hd]; exact Or.inl rfl
      · rw [s1]
        show σ 1 2 + _ = σz 7 9 + _
        rw [hzM.e7, hJ.1.2.2.1]
      · rw [s1]
        show lsub (σ 1 3) _ = lsub (σz 7 10) _
        rw [hzM.e7, hJ.1.2.2.2.1]
      · rw [s1]
        show σ 1 4 = σz 7 11
        rw [hzM.e7, hJ.1.2.2.2.2.1]
      · rw [spO_a _ _ _ (by decide), hzM 12 (by decide) (by decide)]; exact hJ.1.2.2.2.2.2 j
    have hmS : MP (spO σz (tkL (ln e) m - 2)) N ln kd := (hzM.mp hm).cong rfl rfl rfl rfl rfl
    have heS : EF (spO σz (tkL (ln e) m - 2) 2) (spO σz (tkL (ln e) m - 2)) N ln kd := by
      rw [s2]
      exact he.free hE hf.1 (hz0 _ (fun _ h => h)) ((spO_a _ _ _ (by decide)).trans (hzM 13 (by decide) (by decide))) ((spO_a _ _ _ (by decide)).trans (hzM 14 (by decide) (by decide)))
    have h265S : spO σz (tkL (ln e) m - 2) 2 265 = 0 := by rw [s2, hz0 _ (fun _ h => h) _ (by omega)]; exact h265
    obtain ⟨r, hr⟩ := Rz.ex (x := spO σz (tkL (ln e) m - 2) 1 3) (by rw [hC.2.2.2.1]; exact hC.1) (tkC (ln e) m)
    have hC4 : tkC (ln e) m ≤ 4 := by unfold tkC; split <;> omega
    obtain ⟨σc, hw, hne, hj⟩ := J_chg (σ := spO σz (tkL (ln e) m - 2)) hC (by show σz 7 11 = 0; rw [hzM.e7]; exact hd) hmS h265S (by show σz 7 12 = 0; rw [hzM.e7]; exact h12) heS
      (σp := tkP σz (pos ln e) (ln e) (tkL (ln e) m) m k) ((tkP_ne _ _ _ _ _ _ 1 (by decide)).trans (spO_a _ _ 1 (by decide)).symm) ((tkP_ne _ _ _ _ _ _ 2 (by decide)).trans (spO_a _ _ 2 (by decide)).symm) (tk_plOK σz (pos ln e) (ln e) m k g1 (by omega)) hr (fun σ1 => tkR σ1 ln e m k N)
      (fun σ1 m1 e13 e14 => by
        have hz9 : ∀ p, pos ln e + 1 ≤ p → p + 1 < pos ln e + tkL (ln e) m → spO σz (tkL (ln e) m - 2) 2 p = 0 := fun p y1 y2 => by
          rw [s2]; exact zL_apl _ _ _ p y1 (by omega)
        by_cases c : m + 5 ≤ ln e
        · have eL : tkL (ln e) m = m + 2 := by unfold tkL; rw [if_pos c]
          refine ⟨_, _, _, (m1.mk_c hE h3 h1 c).cong rfl rfl rfl rfl rfl, ?_⟩
          rw [tkP_c _ _ _ _ _ c g1]
          refine heS.mkc (L := m + 2) (k := k + 1) hE (by omega) (by omega) (by omega) (fun p p1 p2 p3 p4 => ?_) ?_ ?_ ?_ ?_ (fun p y1 y2 => hz9 p y1 (by omega)) ?_ ?_
          · show upd (upd (upd (upd _ _ _) _ _) _ _) _ _ p = _
            rw [upd_n _ _ p4, upd_n _ _ p3, upd_n _ _ p2, upd_n _ _ p1]
          · show upd (upd (upd (upd _ _ _) _ _) _ _) _ _ (pos ln e) = _
            rw [upd_n _ _ (by omega), upd_n _ _ (by omega), upd_n _ _ (by omega), upd_s, Nat.add_comm 1 k]
          · show upd (upd (upd (upd _ _ _) _ _) _ _) _ _ (pos ln e + (m + 2) - 1) = _
            rw [upd_n _ _ (by omega), upd_n _ _ (by omega), upd_s, Nat.add_comm 1 k]
          · show upd (upd (upd (upd _ _ _) _ _) _ _) _ _ (pos ln e + (m + 2)) = _
            rw [upd_n _ _ (by omega), upd_s]
            exact nI_eqI (by omega)
          · show upd (upd (upd (upd _ _ _) _ _) _ _) _ _ (pos ln e + ln e - 1) = _
            rw [upd_s]
            exact nI_eqI (by omega)
          · show clr (σ1 13) (pos ln e + 1) (tkL (ln e) m - 2) = _
            rw [e13, eL]
          · exact (tkR_ne σ1 ln e m k N 14 (by omega)).trans e14
        · have eL : tkL (ln e) m = ln e := by unfold tkL; rw [if_neg c]
          refine ⟨_, _, _, (m1.mk_n hE h3 hm2 c).cong rfl rfl rfl rfl rfl, ?_⟩
          rw [tkP_n _ _ _ _ _ c g1]
          refine heS.mkn (k := k + 1) hE (by omega) (fun p p1 p2 => ?_) ?_ ?_ (fun p y1 y2 => hz9 p y1 (by omega)) ?_ ?_
          · show upd (upd _ _ _) _ _ p = _
            rw [upd_n _ _ p2, upd_n _ _ p1]
          · show upd (upd _ _ _) _ _ (pos ln e) = _
            rw [upd_n _ _ (by omega), upd_s, Nat.add_comm 1 k]
          · show upd (upd _ _ _) _ _ (pos ln e + ln e - 1) = _
            rw [upd_s, Nat.add_comm 1 k]
          · show clr (σ1 13) (pos ln e + 1) (tkL (ln e) m - 2) = _
            rw [e13, eL]
          · exact (tkR_ne σ1 ln e m k N 14 (by omega)).trans e14)
      (fun σ1 hb j => by rw [tkR_12]; exact hb j) (fun σ1 => ⟨tkR_ne σ1 ln e m k N 1 (by omega), tkR_ne σ1 ln e m k N 2 (by omega), fun j hj => tkR_7 σ1 ln e m k N j hj⟩)
    have hcM : RM σ σc := fun b hb1 hb2 => (hne b (by omega) (by omega)).trans ((tkP_ne _ _ _ _ _ _ b (by omega)).trans (hzM b hb1 hb2))
    refine Cpl.chg (D := Dt (tkL (ln e) m - 2)) (F := fun σ1 => tkR σ1 ln e m k N) hX hw hcM (fun τ hτ => ⟨fun a ha => (spO_a _ _ a ha).trans (st_ne _ _ _ ha), ?_⟩) (fun τ σ1 hτ t1 t2 hdz => hj (Dt (tkL (ln e) m - 2) τ) σ1 (((spO_a _ _ 1 (by decide)).trans (st_ne _ _ _ (by decide))).trans t1) (((spO_a _ _ 2 (by decide)).trans (st_ne _ _ _ (by decide))).trans t2) (Dt_7 hτ hzM) (fun a b1 b2 => ?_) hdz) (fun τ σ1 hτ hdz => ?_) (by simp) (fun σ1 => tkR_ne σ1 ln e m k N 15 (by omega))
    · rw [Dt_7 hτ hzM 10 (by decide), ← hC.2.2.2.1]; exact hr
    · rw [spO_a _ _ a (by omega)]
      exact (((spO_a _ _ a (by omega)).trans (st_ne _ _ _ (by omega))).trans (hτ a (by omega) b2)).trans (hzM a (by omega) b2).symm
    · refine c_M_take_ok m k h1 h2 h3 τ (by rw [hτ.e7]; exact hd) (by rw [hτ.e7]; exact hJ.1.1) (hτ.mp hm) hE hf hlo _ (fun j j1 j2 j3 => absurd q' (not_lGo j1 j2 (by rw [← hτ.e7]; exact j3))) (fun _ r' σ1' hdz' => ?_)
      obtain ⟨rfl, rfl⟩ := Dz.uniq hC4 hdz hdz'
      rfl
  · have hz := wrs_fail (zL (pos ln e + 1) (tkL (ln e) m - 2)) (lsF σ ln N) j (by rw [hlen]; exact j1) j2 j3
    unfold tkO at hX
    rw [hz] at hX
    rw [if_pos rfl] at hX
    generalize hσz : stA (stA (lsF σ ln N) 2 (apl (lsF σ ln N 2) ((zL (pos ln e + 1) (tkL (ln e) m - 2)).take j))) 1 (o1F (lsF σ ln N 1) j) = σz at hX
    have z1 : σz 1 = o1F (σ 1) j := by rw [← hσz]; rfl
    have z2 : σz 2 = apl (σ 2) ((zL (pos ln e + 1) (tkL (ln e) m - 2)).take j) := by rw [← hσz]; rfl
    have za : ∀ a, a ≠ 1 → a ≠ 2 → a ≠ 4 → σz a = σ a := fun a y1 y2 y4 => by rw [← hσz, stA_ne _ _ y1, stA_ne _ _ y2, lsF_ne _ _ _ _ y4]
    have hzM : RM σ σz := fun a b1 b2 => za a (by omega) (by omega) (by omega)
    have j3' : σ 7 10 = nI j := by rw [← hJ.1.2.2.2.1]; exact j3
    have hM := c_M_take_ok m k h1 h2 h3 σz (by rw [hzM.e7]; exact hd) (by rw [hzM.e7]; exact hJ.1.1) (hzM.mp hm) hE hf hlo (.inl (some (.inl 0), st (spF (st σz 7 0 (nI 0)) j) 7 0 1))
      (fun i i1 i2 i3 => by
        obtain rfl : i = j := nI_inj (by omega) (by omega) (i3.symm.trans (by rw [hzM.e7]; exact j3'))
        rfl) (fun hgo => absurd (by rw [← hzM.e7]; exact hgo) (not_lGo j1 j2 j3'))
    refine Or.inr ⟨eIS, 1, σz, _, _, by simp, hX, hM, rfl, ?_⟩
    refine ⟨⟨Or.inl rfl, Or.inr rfl, ?_, ?_, ?_, fun i => ?_⟩, N, ln, kd, 0, (hzM.mp hm).cong rfl rfl rfl rfl rfl, ?_, ⟨?_, by decide, fun i hi => absurd hi (Nat.not_lt_zero i)⟩, fun _ => rfl, ?_⟩
    · show σz 1 2 = σz 7 9 + nI j
      rw [z1, hzM.e7, ← hJ.1.2.2.1]; rfl
    · show σz 1 3 = -1
      rw [z1]; rfl
    · show σz 1 4 = 1
      rw [z1]; rfl
    · show bl (σz 12 i)
      rw [hzM 12 (by decide) (by decide)]; exact hJ.1.2.2.2.2.2 i
    · show σz 7 12 = nI 0
      rw [hzM.e7]; exact h12
    · show σz 2 265 = nI 0
      rw [z2, hz0 _ (fun q hq => List.mem_of_mem_take hq) _ (by omega)]; exact h265
    · show EF (σz 2) _ N ln kd
      rw [z2]
      exact he.free hE hf.1 (hz0 _ (fun q hq => List.mem_of_mem_take hq)) (hzM 13 (by decide) (by decide)) (hzM 14 (by decide) (by decide))
theorem cp_take {σ : Mem} (hJ : J σ) (x p : Int32) : Cpl y_X_take mi_X_take [.inr (.inl 0), .inl x, .inl p] y_M_take mi_M_take [.inr (.inl 7), .inl x, .inl p] [(eIS, 1), (eIA, 2), (eUO, 3)] σ := by
  rcases hJ.bl with hd | hd
  · obtain ⟨N, ln, kd, hm, hp, he, h265, h12, h4⟩ := hJ.up hd
    by_cases q : tk_ok x p
    · obtain ⟨m, k, h1, h2, h3, rfl, rfl⟩ := tk_nat q
      by_cases q2 : ∃ e, e < N ∧ Fit ln kd m e
      · obtain ⟨e, he1, he2, he3⟩ : ∃ e, (e < N ∧ Fit ln kd m e) ∧ (∀ j, j < e → ¬ (j < N ∧ Fit ln kd m j)) ∧ True := by
          obtain ⟨e, h⟩ := q2
          have : ∀ n e, e ≤ n → (e < N ∧ Fit ln kd m e) → ∃ e, (e < N ∧ Fit ln kd m e) ∧ (∀ j, j < e → ¬ (j < N ∧ Fit ln kd m j)) ∧ True := by
            intro n
            induction n with
            | zero => intro e he h; exact ⟨e, h, fun j hj => absurd hj (by omega), trivial⟩
            | succ n ih =>
              intro e he h
              by_cases z : ∃ j, j < e ∧ (j < N ∧ Fit ln kd m j)
              · obtain ⟨j, j1, j2⟩ := z
                exact ih j (by omega) j2
              · exact ⟨e, h, fun j hj hz => z ⟨j, hj, hz⟩, trivial⟩
          exact this e e (Nat.le_refl e) h
        exact cp_take_ok hJ hd hm hp he h265 h12 h4 m k h1 h2 h3 he1.1 he1.2 (fun j hj hz => he2 j hj ⟨by omega, hz⟩)
      · exact Cpl.no hJ 3 (by simp) (RQ.ls σ ln N) (c_X_take_none m k h1 h2 h3 σ h4 hp (fun i hi hz => q2 ⟨i, hi, hz⟩)) (fun τ hτ => c_M_take_none m k h1 h2 h3 τ (by rw [hτ.e7]; exact hd) (hτ.mp hm) (fun i hi hz => q2 ⟨i, hi, hz⟩))
    · exact Cpl.no hJ 2 (by simp) (RQ.rf σ) (c_X_take_odd x p σ h4 q) (fun τ hτ => c_M_take_odd x p τ (by rw [hτ.e7]; exact hd) (hτ.mp hm) q)
  · obtain ⟨N, ln, kd, hm, h4⟩ := hJ.dn hd
    exact Cpl.no hJ 1 (by simp) (RQ.rf σ) (c_X_take_down x p σ h4) (fun τ hτ => c_M_take_down x p τ (by rw [hτ.e7]; exact hd) (hτ.mp hm))
end
section
/-! ===== recover, side by side ===== -/
theorem reF_mid (N : Nat) (rb : Nat → Bool) : ∀ n i, rb i = false → ∀ j, i ≤ j → j ≤ reF N rb n i → rb j = false
  | 0, i, h, j, h1, h2 => by
    have h2 : j ≤ i := h2
    obtain rfl : j = i := by omega
    exact h
  | n + 1, i, h, j, h1, h2 => by
    unfold reF at h2
    by_cases q : i + 1 < N ∧ rb (i + 1) = false
    · rw [if_pos q] at h2
      by_cases z : j = i
      · rw [z]; exact h
      · exact reF_mid N rb n (i + 1) q.2 j (by omega) h2
    · rw [if_neg q] at h2
      obtain rfl : j = i := by omega
      exact h
theorem reF_end (N : Nat) (rb : Nat → Bool) : ∀ n i, N ≤ i + n + 1 → reF N rb n i + 1 < N → rb (reF N rb n i + 1) = true
  | 0, i, h, h2 => by
    have h2 : i + 1 < N := h2
    omega
  | n + 1, i, h, h2 => by
    unfold reF at h2 ⊢
    by_cases q : i + 1 < N ∧ rb (i + 1) = false
    · rw [if_pos q] at h2 ⊢
      exact reF_end N rb n (i + 1) (by omega) h2
    · rw [if_neg q] at h2 ⊢
      cases z : rb (i + 1) with
      | true => rfl
      | false => exact absurd ⟨h2, z⟩ q
theorem fuF_ne (N : Nat) (ln kd : Nat → Nat) (rb : Nat → Bool) : ∀ n i (σ : Mem) (a : Nat), a ≠ 1 → a ≠ 2 → a ≠ 3 → (fuF N ln kd rb n i σ).1 a = σ a
  | 0, _, _, _, _, _, _ => rfl
  | n + 1, i, σ, a, h1, h2, h3 => by
    unfold fuF
    split
    · split
      · exact fuF_ne N ln kd rb n _ σ a h1 h2 h3
      · split
        · split
          · exact mfW_ne _ _ _ a h1 h2 h3
          · rw [fuF_ne N ln kd rb n _ _ a h1 h2 h3]; exact mfW_ne _ _ _ a h1 h2 h3
        · exact fuF_ne N ln kd rb n _ σ a h1 h2 h3
    · rfl
theorem cntP_skip {P : Nat → Prop} {i : Nat} : ∀ n, (∀ j, i ≤ j → j < i + n → ¬ P j) → cntP P (i + n) = cntP P i
  | 0, _ => rfl
  | n + 1, h => by
    show cntP P (i + n) + @ite Nat (P (i + n)) (Classical.propDecidable _) 1 0 = _
    rw [if_neg (h _ (by omega) (by omega)), cntP_skip n (fun j h1 h2 => h j h1 (by omega))]
    rfl
theorem cntP_yes {P : Nat → Prop} {i : Nat} (h : P i) : cntP P (i + 1) = cntP P i + 1 := by
  show cntP P i + @ite Nat (P i) (Classical.propDecidable _) 1 0 = _
  rw [if_pos h]
def mi_M_clean : MI := (b_M_clean, 5, "RootedWordsModel", some .boolean, 3, tbl_of 120 f_M_clean, fl_M, [(59, (7, 1, ct_M_does)), (70, (7, 2, ct_M_join))], [])
theorem ok_M_clean : MOK mi_M_clean := ⟨tbl_ok k_M_clean, flok_M rfl, List.forall_mem_cons.mpr ⟨okV 2 (by decide) s_M_does rfl (Nat.le_of_ble_eq_true rfl) (Nat.le_of_ble_eq_true rfl) (by decide +kernel) lk_M_59 vv_M_does, List.forall_mem_cons.mpr ⟨okV 2 (by decide) s_M_join rfl (Nat.le_of_ble_eq_true rfl) (Nat.le_of_ble_eq_true rfl) (by decide +kernel) lk_M_70 vv_M_join, (fun _ h => absurd h List.not_mem_nil)⟩⟩⟩
theorem si_M_clean : ∀ q ∈ m_tr mi_M_clean, SiteF mi_M_clean q := (fun _ h => absurd h List.not_mem_nil)
theorem c_M_cl_12 {X : CT} {oc : OC} (hX : CxO X mi_M_clean oc) {σ : Mem} {N : Nat} (hn : σ 7 1 = nI N) (hN : N ≤ 85) (e d : Nat) (hd : e + d ≤ N) (hu : ∀ s, s < d → σ 12 (e + s) = 0) (hm : e + d < N → σ 12 (e + d) ≠ 0) (z u : Option AV)
    (hG : Go X mi_M_clean 36 [some (.inr (.inl 7)), some (.inl (nI e)), some (.inl (nI (e + d))), z, u] [] σ) : ∀ (n s : Nat), s + n = d → Go X mi_M_clean 12 [some (.inr (.inl 7)), some (.inl (nI e)), some (.inl (nI (e + s))), z, u] [] σ := by
  intro n
  induction n with
  | zero =>
    intro s hs
    obtain rfl : s = d := by omega
    refine Go_run ok_M_clean hX [36] 60 (fun K R1 T1 hK hR hT => ?_)
    conv => whnf
    rw [hn]
    refine ⟨fun _ => ?_, fun y => ?_⟩
    · conv => whnf
      exact hK _ _ _ _ hG
    · have y1 := (not_congr (nI_leI (a := N) (b := e + s) (by omega) (by omega))).mp y
      conv => whnf
      refine ⟨vp_in_nI (by omega) (by decide), ?_⟩
      rw [nI_clamp (by omega)]
      conv => whnf
      refine ⟨fun _ => ?_, fun y2 => absurd y2 (hm (by omega))⟩
      conv => whnf
      exact hK _ _ _ _ hG
  | succ n ih =>
    intro s hs
    have e2 : nI (e + s) + nI 1 = nI (e + (s + 1)) := nI_add _ _
    refine Go_run ok_M_clean hX [12] 60 (fun K R1 T1 hK hR hT => ?_)
    conv => whnf
    rw [hn]
    refine ⟨fun y => absurd y (nI_ge (by omega) (by omega)), fun _ => ?_⟩
    conv => whnf
    refine ⟨vp_in_nI (by omega) (by decide), ?_⟩
    rw [nI_clamp (by omega)]
    conv => whnf
    refine ⟨fun y => absurd (hu s (by omega)) y, fun _ => ?_⟩
    conv => whnf
    refine hK _ _ _ _ ?_
    show Go X mi_M_clean 12 [some (.inr (.inl 7)), some (.inl (nI e)), some (.inl (nI (e + s) + nI 1)), z, u] [] σ
    rw [e2]
    exact ih (s + 1) (by omega)
theorem c_M_cl_98 {X : CT} {oc : OC} (hX : CxO X mi_M_clean oc) {σ : Mem} (e to : Nat) (hto : to ≤ 200) (he : e ≤ 200) (wk : Int32) (hw : ¬ wk = 0 ∨ to = e ∨ to = e + 1) (u : Option AV)
    (hG : Go X mi_M_clean 2 [some (.inr (.inl 7)), some (.inl (nI (e + 1))), some (.inl (nI to)), some (.inl wk), u] [] σ) : Go X mi_M_clean 98 [some (.inr (.inl 7)), some (.inl (nI e)), some (.inl (nI to)), some (.inl wk), u] [] σ := by
  have e2 : nI e + nI 1 = nI (e + 1) := nI_add _ _
  have hG2 : Go X mi_M_clean 2 [some (.inr (.inl 7)), some (.inl (nI e + nI 1)), some (.inl (nI to)), some (.inl wk), u] [] σ := by rw [e2]; exact hG
  refine Go_run ok_M_clean hX [2] 60 (fun K R1 T1 hK hR hT => ?_)
  conv => whnf
  refine ⟨fun y => ?_, fun y => ?_⟩
  · conv => whnf
    exact hK _ _ _ _ hG2
  · conv => whnf
    refine ⟨fun y2 => ?_, fun y2 => ?_⟩
    · conv => whnf
      have : to = e + 1 := by
        rcases hw with h | h | h
        · exact absurd y h
        · exact absurd (by rw [h]) y2
        · exact h
      subst this
      exact hK _ _ _ _ hG
    · conv => whnf
      exact hK _ _ _ _ hG2
/-- the rows from i on in the class, from e on in the model -/
def ClI (N0 : Nat) (ln0 kd0 : Nat → Nat) (rb : Nat → Bool) (i e N : Nat) (ln kd : Nat → Nat) (σc τ : Mem) : Prop :=
  (i ≤ N0) ∧
  (N + i = N0 + e) ∧
  (pos ln e = pos ln0 i) ∧
  (∀ t, i + t < N0 → ln (e + t) = ln0 (i + t) ∧ kd (e + t) = kd0 (i + t) ∧ (τ 12 (e + t) ≠ 0 ↔ rb (i + t) = true)) ∧
  (cntP (fun j => kd j ≠ 0) e = cntP (fun j => rb j = true) i) ∧
  (MP τ N ln kd) ∧
  (EF (σc 2) τ N ln kd) ∧
  (σc 2 265 = 0) ∧
  (τ 7 12 = 0) ∧
  (σc 1 2 = τ 7 9) ∧
  (σc 1 3 = τ 7 10) ∧
  (σc 1 4 = 1) ∧
  (τ 7 11 = 1) ∧
  (lOK (τ 7 10)) ∧
  (∀ j, bl (τ 12 j)) ∧
  (τ 7 0 = 0)
theorem ClI.hi {N0 : Nat} {ln0 kd0 : Nat → Nat} {rb : Nat → Bool} {i e N : Nat} {ln kd : Nat → Nat} {σc τ : Mem} (h : ClI N0 ln0 kd0 rb i e N ln kd σc τ) : i ≤ N0 := h.1
theorem ClI.hN {N0 : Nat} {ln0 kd0 : Nat → Nat} {rb : Nat → Bool} {i e N : Nat} {ln kd : Nat → Nat} {σc τ : Mem} (h : ClI N0 ln0 kd0 rb i e N ln kd σc τ) : N + i = N0 + e := h.2.1
theorem ClI.hp {N0 : Nat} {ln0 kd0 : Nat → Nat} {rb : Nat → Bool} {i e N : Nat} {ln kd : Nat → Nat} {σc τ : Mem} (h : ClI N0 ln0 kd0 rb i e N ln kd σc τ) : pos ln e = pos ln0 i := h.2.2.1
theorem ClI.hl {N0 : Nat} {ln0 kd0 : Nat → Nat} {rb : Nat → Bool} {i e N : Nat} {ln kd : Nat → Nat} {σc τ : Mem} (h : ClI N0 ln0 kd0 rb i e N ln kd σc τ) : ∀ t, i + t < N0 → ln (e + t) = ln0 (i + t) ∧ kd (e + t) = kd0 (i + t) ∧ (τ 12 (e + t) ≠ 0 ↔ rb (i + t) = true) := h.2.2.2.1
theorem ClI.hc {N0 : Nat} {ln0 kd0 : Nat → Nat} {rb : Nat → Bool} {i e N : Nat} {ln kd : Nat → Nat} {σc τ : Mem} (h : ClI N0 ln0 kd0 rb i e N ln kd σc τ) : cntP (fun j => kd j ≠ 0) e = cntP (fun j => rb j = true) i := h.2.2.2.2.1
theorem ClI.mp {N0 : Nat} {ln0 kd0 : Nat → Nat} {rb : Nat → Bool} {i e N : Nat} {ln kd : Nat → Nat} {σc τ : Mem} (h : ClI N0 ln0 kd0 rb i e N ln kd σc τ) : MP τ N ln kd := h.2.2.2.2.2.1
theorem ClI.ef {N0 : Nat} {ln0 kd0 : Nat → Nat} {rb : Nat → Bool} {i e N : Nat} {ln kd : Nat → Nat} {σc τ : Mem} (h : ClI N0 ln0 kd0 rb i e N ln kd σc τ) : EF (σc 2) τ N ln kd := h.2.2.2.2.2.2.1
theorem ClI.h265 {N0 : Nat} {ln0 kd0 : Nat → Nat} {rb : Nat → Bool} {i e N : Nat} {ln kd : Nat → Nat} {σc τ : Mem} (h : ClI N0 ln0 kd0 rb i e N ln kd σc τ) : σc 2 265 = 0 := h.2.2.2.2.2.2.2.1
theorem ClI.h12 {N0 : Nat} {ln0 kd0 : Nat → Nat} {rb : Nat → Bool} {i e N : Nat} {ln kd : Nat → Nat} {σc τ : Mem} (h : ClI N0 ln0 kd0 rb i e N ln kd σc τ) : τ 7 12 = 0 := h.2.2.2.2.2.2.2.2.1
theorem ClI.c2 {N0 : Nat} {ln0 kd0 : Nat → Nat} {rb : Nat → Bool} {i e N : Nat} {ln kd : Nat → Nat} {σc τ : Mem} (h : ClI N0 ln0 kd0 rb i e N ln kd σc τ) : σc 1 2 = τ 7 9 := h.2.2.2.2.2.2.2.2.2.1
theorem ClI.c3 {N0 : Nat} {ln0 kd0 : Nat → Nat} {rb : Nat → Bool} {i e N : Nat} {ln kd : Nat → Nat} {σc τ : Mem} (h : ClI N0 ln0 kd0 rb i e N ln kd σc τ) : σc 1 3 = τ 7 10 := h.2.2.2.2.2.2.2.2.2.2.1
theorem ClI.c4 {N0 : Nat} {ln0 kd0 : Nat → Nat} {rb : Nat → Bool} {i e N : Nat} {ln kd : Nat → Nat} {σc τ : Mem} (h : ClI N0 ln0 kd0 rb i e N ln kd σc τ) : σc 1 4 = 1 := h.2.2.2.2.2.2.2.2.2.2.2.1
theorem ClI.d4 {N0 : Nat} {ln0 kd0 : Nat → Nat} {rb : Nat → Bool} {i e N : Nat} {ln kd : Nat → Nat} {σc τ : Mem} (h : ClI N0 ln0 kd0 rb i e N ln kd σc τ) : τ 7 11 = 1 := h.2.2.2.2.2.2.2.2.2.2.2.2.1
theorem ClI.lo {N0 : Nat} {ln0 kd0 : Nat → Nat} {rb : Nat → Bool} {i e N : Nat} {ln kd : Nat → Nat} {σc τ : Mem} (h : ClI N0 ln0 kd0 rb i e N ln kd σc τ) : lOK (τ 7 10) := h.2.2.2.2.2.2.2.2.2.2.2.2.2.1
theorem ClI.bm {N0 : Nat} {ln0 kd0 : Nat → Nat} {rb : Nat → Bool} {i e N : Nat} {ln kd : Nat → Nat} {σc τ : Mem} (h : ClI N0 ln0 kd0 rb i e N ln kd σc τ) : ∀ j, bl (τ 12 j) := h.2.2.2.2.2.2.2.2.2.2.2.2.2.2.1
theorem ClI.cd {N0 : Nat} {ln0 kd0 : Nat → Nat} {rb : Nat → Bool} {i e N : Nat} {ln kd : Nat → Nat} {σc τ : Mem} (h : ClI N0 ln0 kd0 rb i e N ln kd σc τ) : τ 7 0 = 0 := h.2.2.2.2.2.2.2.2.2.2.2.2.2.2.2
/-- what is there when the model's clean has ended -/
def ClO (N0 : Nat) (rb : Nat → Bool) (σc τ : Mem) (ok : Bool) : Prop :=
  (σc 1 2 = τ 7 9) ∧
  (σc 1 3 = τ 7 10) ∧
  (σc 1 4 = 1) ∧
  (τ 7 11 = 1) ∧
  (lOK (τ 7 10)) ∧
  (∀ j, bl (τ 12 j)) ∧
  (τ 7 0 = if ok then 0 else 1) ∧
  (∃ N ln kd k, MP τ N ln kd ∧ τ 7 12 = nI k ∧ nOK (σc 2) k ∧ EF (eff (σc 2) k) τ N ln kd ∧ (ok = true → k = 0 ∧ cntP (fun j => kd j ≠ 0) N = cntP (fun j => rb j = true) N0))
theorem ClO.c2 {N0 : Nat} {rb : Nat → Bool} {σc τ : Mem} {ok : Bool} (h : ClO N0 rb σc τ ok) : σc 1 2 = τ 7 9 := h.1
theorem ClO.c3 {N0 : Nat} {rb : Nat → Bool} {σc τ : Mem} {ok : Bool} (h : ClO N0 rb σc τ ok) : σc 1 3 = τ 7 10 := h.2.1
theorem ClO.c4 {N0 : Nat} {rb : Nat → Bool} {σc τ : Mem} {ok : Bool} (h : ClO N0 rb σc τ ok) : σc 1 4 = 1 := h.2.2.1
theorem ClO.d4 {N0 : Nat} {rb : Nat → Bool} {σc τ : Mem} {ok : Bool} (h : ClO N0 rb σc τ ok) : τ 7 11 = 1 := h.2.2.2.1
theorem ClO.lo {N0 : Nat} {rb : Nat → Bool} {σc τ : Mem} {ok : Bool} (h : ClO N0 rb σc τ ok) : lOK (τ 7 10) := h.2.2.2.2.1
theorem ClO.bm {N0 : Nat} {rb : Nat → Bool} {σc τ : Mem} {ok : Bool} (h : ClO N0 rb σc τ ok) : ∀ j, bl (τ 12 j) := h.2.2.2.2.2.1
theorem ClO.cd {N0 : Nat} {rb : Nat → Bool} {σc τ : Mem} {ok : Bool} (h : ClO N0 rb σc τ ok) : τ 7 0 = if ok then 0 else 1 := h.2.2.2.2.2.2.1
theorem ClO.hh {N0 : Nat} {rb : Nat → Bool} {σc τ : Mem} {ok : Bool} (h : ClO N0 rb σc τ ok) : ∃ N ln kd k, MP τ N ln kd ∧ τ 7 12 = nI k ∧ nOK (σc 2) k ∧ EF (eff (σc 2) k) τ N ln kd ∧ (ok = true → k = 0 ∧ cntP (fun j => kd j ≠ 0) N = cntP (fun j => rb j = true) N0) := h.2.2.2.2.2.2.2
theorem jnM_12 (σ : Mem) (ln : Nat → Nat) (fr to N : Nat) : jnM σ ln fr to N 12 = shF (σ 12) fr (to - fr) (N - (to - fr)) := rfl
theorem cl_loop {N0 : Nat} {ln0 kd0 : Nat → Nat} (h0 : HL N0 ln0 kd0) {rb : Nat → Bool} (hrb : ∀ j, j < N0 → rb j = true → kd0 j ≠ 0) : ∀ (n i e N : Nat) (ln kd : Nat → Nat) (σc τ : Mem), N0 < i + n → ClI N0 ln0 kd0 rb i e N ln kd σc τ →
    ∃ τ' ok, (∀ (X : CT) (oc : OC), CxO X mi_M_clean oc → oc = .inl (some (.inl (if ok = true then 1 else 0)), τ') → ∀ y z u, Go X mi_M_clean 2 [some (.inr (.inl 7)), some (.inl (nI e)), y, z, u] [] τ) ∧
      (fuF N0 ln0 kd0 rb n i σc).2 = !ok ∧ (∀ a, a < 7 ∨ 12 < a → τ' a = τ a) ∧ ClO N0 rb (fuF N0 ln0 kd0 rb n i σc).1 τ' ok := by
  intro n
  induction n with
  | zero => intro i e N ln kd σc τ hn hI; exact absurd hn (by have := hI.hi; omega)
  | succ n ih =>
    intro i e N ln kd σc τ hn hI
    have hi := hI.hi
    have hNN := hI.hN
    have hN85 := hI.mp.1.N85
    have hn7 : τ 7 1 = nI N := hI.mp.2.1
    by_cases hiN : i < N0
    case neg =>
      have ef : fuF N0 ln0 kd0 rb (n + 1) i σc = (σc, false) := by unfold fuF; rw [if_neg hiN]
      rw [ef]
      refine ⟨τ, true, fun X oc hX ho y z u => ?_, rfl, fun _ _ => rfl, ⟨hI.c2, hI.c3, hI.c4, hI.d4, hI.lo, hI.bm, hI.cd, N, ln, kd, 0, hI.mp, hI.h12, ⟨hI.h265, by decide, fun i hi => absurd hi (Nat.not_lt_zero i)⟩, hI.ef, fun _ => ⟨rfl, ?_⟩⟩⟩
      · refine Go_run ok_M_clean hX [] 60 (fun K R1 T1 hK hR hT => ?_)
        conv => whnf
        rw [hn7]
        refine ⟨fun _ => ?_, fun y => absurd (nI_le (by omega) (by omega)) y⟩
        conv => whnf
        refine ⟨rfl, hR _ _ ?_⟩
        rw [ho]; rfl
      · have e1 : N = e := by omega
        have e2 : i = N0 := by omega
        have := hI.hc
        rw [← e1, e2] at this
        exact this
    have heN : e < N := by omega
    have hle0 := hI.hl 0 (by omega)
    rw [Nat.add_zero, Nat.add_zero] at hle0
    cases hrbi : rb i with
    | true =>
      have ef : fuF N0 ln0 kd0 rb (n + 1) i σc = fuF N0 ln0 kd0 rb n (i + 1) σc := by
        conv => lhs; unfold fuF
        rw [if_pos hiN, if_pos hrbi]
      rw [ef]
      obtain ⟨τ', ok, g1, g2, g3, g4⟩ := ih (i + 1) (e + 1) N ln kd σc τ (by omega) ⟨by omega, by omega, by show pos ln e + ln e = pos ln0 i + ln0 i; rw [hI.hp, hle0.1], fun t ht => by
          have := hI.hl (1 + t) (by omega)
          rw [← Nat.add_assoc, ← Nat.add_assoc] at this
          exact this, by
          rw [cntP_yes (P := fun j => kd j ≠ 0) (by show kd e ≠ 0; rw [hle0.2.1]; exact hrb i hiN hrbi), cntP_yes (P := fun j => rb j = true) hrbi, hI.hc], hI.mp, hI.ef, hI.h265, hI.h12, hI.c2, hI.c3, hI.c4, hI.d4, hI.lo, hI.bm, hI.cd⟩
      refine ⟨τ', ok, fun X oc hX ho y z u => ?_, g2, g3, g4⟩
      have h98 := fun u' => c_M_cl_98 hX e e (by omega) (by omega) (nI 0) (Or.inr (Or.inl rfl)) u' (g1 X oc hX ho (some (.inl (nI e))) (some (.inl (nI 0))) u')
      have h36 : Go X mi_M_clean 36 [some (.inr (.inl 7)), some (.inl (nI e)), some (.inl (nI (e + 0))), z, u] [] τ := by
        have e3 : nI e - nI e = nI 0 := by rw [pk_sub (Nat.le_refl _), Nat.sub_self]
        refine Go_run ok_M_clean hX [98] 60 (fun K R1 T1 hK hR hT => ?_)
        conv => whnf
        rw [Nat.add_zero, e3]
        refine ⟨fun y => absurd y (by decide), fun _ => ?_⟩
        conv => whnf
        rw [e3]
        refine ⟨fun _ => ?_, fun y => absurd y (by decide)⟩
        conv => whnf
        refine ⟨fun _ => ?_, fun y => absurd rfl y⟩
        conv => whnf
        exact hK _ _ _ _ (h98 _)
      have h12 := c_M_cl_12 hX hn7 hN85 e 0 (by omega) (fun s hs => absurd hs (Nat.not_lt_zero s)) (fun _ => hle0.2.2.mpr hrbi) z u h36 0 0 rfl
      refine Go_run ok_M_clean hX [12] 60 (fun K R1 T1 hK hR hT => ?_)
      conv => whnf
      rw [hn7]
      refine ⟨fun y => absurd y (nI_ge heN (by omega)), fun _ => ?_⟩
      conv => whnf
      exact hK _ _ _ _ h12
    | false =>
      have gt0 := reF_ge N0 rb N0 i
      have gt1 := reF_lt N0 rb N0 i hiN
      have gt2 := reF_mid N0 rb N0 i hrbi
      have gt3 := reF_end N0 rb N0 i (by omega)
      have efu : fuF N0 ln0 kd0 rb (n + 1) i σc = (if i < reF N0 rb N0 i ∨ kd0 (reF N0 rb N0 i) ≠ 0 then
        (if (mfW σc (pos ln0 i) (pos ln0 (reF N0 rb N0 i) + ln0 (reF N0 rb N0 i) - pos ln0 i)).2 = true then mfW σc (pos ln0 i) (pos ln0 (reF N0 rb N0 i) + ln0 (reF N0 rb N0 i) - pos ln0 i)
         else fuF N0 ln0 kd0 rb n (reF N0 rb N0 i + 1) (mfW σc (pos ln0 i) (pos ln0 (reF N0 rb N0 i) + ln0 (reF N0 rb N0 i) - pos ln0 i)).1)
        else fuF N0 ln0 kd0 rb n (reF N0 rb N0 i + 1) σc) := by
        conv => lhs; unfold fuF
        rw [if_pos hiN, if_neg (by rw [hrbi]; decide)]
      rw [efu]
      generalize hT9 : reF N0 rb N0 i = t at gt0 gt1 gt2 gt3
      obtain ⟨d, hd⟩ : ∃ d, t = i + d := ⟨t - i, by omega⟩
      have hlt : ∀ s, s ≤ d → ln (e + s) = ln0 (i + s) ∧ kd (e + s) = kd0 (i + s) ∧ τ 12 (e + s) = 0 := by
        intro s hs
        obtain ⟨l1, l2, l3⟩ := hI.hl s (by omega)
        refine ⟨l1, l2, Classical.byContradiction (fun y => ?_)⟩
        have := l3.mp y
        rw [gt2 (i + s) (by omega) (by omega)] at this
        exact absurd this (by decide)
      have hen : e + (d + 1) < N → τ 12 (e + (d + 1)) ≠ 0 := by
        intro y
        obtain ⟨_, _, l3⟩ := hI.hl (d + 1) (by omega)
        refine l3.mpr ?_
        have := gt3 (by omega)
        rw [hd] at this
        exact this
      have hps : pos ln (e + (d + 1)) = pos ln0 (i + (d + 1)) := pos_shift hI.hp (d + 1) (fun s hs => (hlt s (by omega)).1)
      have h12 := fun X oc (hX : CxO X mi_M_clean oc) z u hG => c_M_cl_12 hX hn7 hN85 e (d + 1) (by omega) (fun s hs => (hlt s (by omega)).2.2) hen z u hG (d + 1) 0 (by omega)
      have e3 : nI (e + (d + 1)) - nI e = nI (d + 1) := by rw [pk_sub (by omega)]; exact nI_eqI (by omega)
      obtain ⟨_, _, m10, _⟩ := hI.mp.2.2 e heN
      by_cases hwk : i < t ∨ kd0 t ≠ 0
      case neg =>
        rw [if_neg hwk]
        have hd0 : d = 0 := by
          rcases Nat.eq_zero_or_pos d with q | q
          · exact q
          · exact absurd (Or.inl (by omega)) hwk
        subst hd0
        obtain rfl : t = i := by omega
        have hk0 : kd e = 0 := by rw [hle0.2.1]; exact Classical.byContradiction (fun y => hwk (Or.inr y))
        obtain ⟨τ', ok, g1, g2, g3, g4⟩ := ih (t + 1) (e + 1) N ln kd σc τ (by omega) ⟨by omega, by omega, hps, fun s hs => by
            have := hI.hl (1 + s) (by omega)
            rw [← Nat.add_assoc, ← Nat.add_assoc] at this
            exact this, by
            rw [cntP_skip (P := fun j => kd j ≠ 0) 1 (fun j y1 y2 => by obtain rfl : j = e := by omega
                                                                        exact fun y => y hk0), cntP_skip (P := fun j => rb j = true) 1 (fun j y1 y2 => by obtain rfl : j = t := by omega
                                                                                                                                                          rw [hrbi]; decide), hI.hc], hI.mp, hI.ef, hI.h265, hI.h12, hI.c2, hI.c3, hI.c4, hI.d4, hI.lo, hI.bm, hI.cd⟩
        refine ⟨τ', ok, fun X oc hX ho y z u => ?_, g2, g3, g4⟩
        have h98 := fun u' => c_M_cl_98 hX e (e + 1) (by omega) (by omega) (nI 0) (Or.inr (Or.inr rfl)) u' (g1 X oc hX ho (some (.inl (nI (e + 1)))) (some (.inl (nI 0))) u')
        have h36 : Go X mi_M_clean 36 [some (.inr (.inl 7)), some (.inl (nI e)), some (.inl (nI (e + (0 + 1)))), z, u] [] τ := by
          refine Go_run ok_M_clean hX [98] 60 (fun K R1 T1 hK hR hT => ?_)
          conv => whnf
          rw [e3]
          refine ⟨fun y => absurd y (by decide), fun _ => ?_⟩
          conv => whnf
          rw [e3]
          refine ⟨fun y => absurd rfl y, fun _ => ?_⟩
          conv => whnf
          refine ⟨vp_in_nI (by omega) (by decide), ?_⟩
          rw [nI_clamp (by omega), m10]
          conv => whnf
          refine ⟨fun _ => ?_, fun y => absurd (ub_0.mpr hk0) y⟩
          conv => whnf
          refine ⟨fun _ => ?_, fun y => absurd rfl y⟩
          conv => whnf
          exact hK _ _ _ _ (h98 _)
        refine Go_run ok_M_clean hX [12] 60 (fun K R1 T1 hK hR hT => ?_)
        conv => whnf
        rw [hn7]
        refine ⟨fun y => absurd y (nI_ge heN (by omega)), fun _ => ?_⟩
        conv => whnf
        exact hK _ _ _ _ (h12 X oc hX z u h36)
      rw [if_pos hwk]
      subst hd
      have elen : pos ln0 (i + d) + ln0 (i + d) - pos ln0 i = pos ln (e + (d + 1)) - pos ln e := by
        rw [hps, hI.hp]; rfl
      rw [elen, ← hI.hp]
      have hjl : 3 ≤ pos ln (e + (d + 1)) - pos ln e ∧ pos ln e + (pos ln (e + (d + 1)) - pos ln e) = pos ln (e + (d + 1)) := jlen (ln := ln) (fr := e) (to := e + d) (fun s y1 y2 => hI.mp.1.ln3 (by omega)) (by omega)
      have hend := hI.mp.1.end (i := e + d) (by omega)
      have hedd : pos ln (e + (d + 1)) = pos ln (e + d) + ln (e + d) := rfl
      obtain ⟨r, hr⟩ := Rz.ex (x := σc 1 3) (by rw [hI.c3]; exact hI.lo) 2
      obtain ⟨σc1, kk, hw, hne, hn1, hef, hr0, hcnt⟩ := chg_cpl (σ := peF σc 0 (pos ln e) (pos ln (e + (d + 1)) - pos ln e) 0) (mf_plOK σc (pos ln e) (pos ln (e + (d + 1)) - pos ln e) 0 (by omega) (by omega)) (by rw [peF_ne _ _ _ _ _ _ (by decide)]; exact hI.h265) (by rw [peF_ne _ _ _ _ _ _ (by decide)]; exact hr)
      have hmf : mfW σc (pos ln e) (pos ln (e + (d + 1)) - pos ln e) = (σc1, decide (r ≠ 0)) := hw
      rw [hmf]
      obtain ⟨σ1, hdz⟩ := Rz.dz (σ := τ) (k := 2) (r := r) (by rw [← hI.c3]; exact hr)
      obtain ⟨c1, c2, c3, c4, c5, c6⟩ := hcnt τ σ1 hdz (by rw [peF_ne _ _ _ _ _ _ (by decide)]; exact hI.c3.symm) (by rw [peF_ne _ _ _ _ _ _ (by decide)]; exact hI.c2.symm) (by rw [peF_ne _ _ _ _ _ _ (by decide), hI.d4]; exact hI.c4.symm) hI.h12 (by rw [peF_ne _ _ _ _ _ _ (by decide), hI.c3]; exact hI.lo)
      have c6' : σ1 7 11 = 1 := by
        rw [c6]
        split
        · exact hI.d4
        · rfl
      have hm1 : MP σ1 N ln kd := hI.mp.dz hdz
      have hb1 : ∀ j, bl (σ1 12 j) := fun j => by rw [hdz.ne 12 (by decide)]; exact hI.bm j
      have hefj : ∀ μ : Mem, μ 13 = τ 13 → μ 14 = τ 14 → r < 2 → EF (eff (σc1 2) kk) μ (N - (e + d - e)) (jln ln e (e + d)) (jkd kd e (e + d)) := by
        intro μ e13 e14 q
        have hv : ∀ p, p < 265 → eff (σc1 2) kk p = apl (σc 2) [(pos ln e, nI (256 * (pos ln (e + (d + 1)) - pos ln e) + 0)), (pos ln e + (pos ln (e + (d + 1)) - pos ln e) - 1, nI (256 * (pos ln (e + (d + 1)) - pos ln e) + 0))] p := fun p hp => by
          rw [hef p hp, if_pos q, mfP _ _ _ _ (by omega), peF_ne _ _ _ _ _ _ (by decide)]
        refine EF.w (w := apl (σc 2) [(pos ln e, nI (256 * (pos ln (e + (d + 1)) - pos ln e) + 0)), (pos ln e + (pos ln (e + (d + 1)) - pos ln e) - 1, nI (256 * (pos ln (e + (d + 1)) - pos ln e) + 0))]) (hI.ef.jn (by omega) (by omega) (fun p p1 p2 => ?_) ?_ ?_ e13 e14) hv
        · show upd (upd _ _ _) _ _ p = _
          have p2 : p ≠ pos ln (e + (d + 1)) - 1 := p2
          rw [upd_n _ _ (by omega), upd_n _ _ p1]
        · show upd (upd _ _ _) _ _ (pos ln e) = _
          rw [upd_n _ _ (by omega), upd_s]; rfl
        · show upd (upd _ _ _) (pos ln e + (pos ln (e + (d + 1)) - pos ln e) - 1) _ (pos ln (e + (d + 1)) - 1) = _
          rw [show pos ln e + (pos ln (e + (d + 1)) - pos ln e) - 1 = pos ln (e + (d + 1)) - 1 by omega, upd_s]; rfl
      -- the walk to the change
      have hwalk : ∀ (X : CT) (oc : OC) (hX : CxO X mi_M_clean oc), (∀ u, Go X mi_M_clean 69 [some (.inr (.inl 7)), some (.inl (nI e)), some (.inl (nI (e + (d + 1)))), some (.inl (nI 1)), u] [] τ) → ∀ y z u, Go X mi_M_clean 2 [some (.inr (.inl 7)), some (.inl (nI e)), y, z, u] [] τ := by
        intro X oc hX h69 y z u
        have h36 : Go X mi_M_clean 36 [some (.inr (.inl 7)), some (.inl (nI e)), some (.inl (nI (e + (d + 1)))), z, u] [] τ := by
          refine Go_run ok_M_clean hX [69] 60 (fun K R1 T1 hK hR hT => ?_)
          conv => whnf
          rw [e3]
          refine ⟨fun y => ?_, fun y => ?_⟩
          · conv => whnf
            refine ⟨fun y => absurd y (by decide), fun _ => ?_⟩
            conv => whnf
            exact hK _ _ _ _ (h69 u)
          · have y1 := (not_congr (nI_ltI (a := 1) (b := d + 1) (by decide) (by omega))).mp y
            have hd0 : d = 0 := by omega
            subst hd0
            conv => whnf
            rw [e3]
            refine ⟨fun y => absurd rfl y, fun _ => ?_⟩
            conv => whnf
            refine ⟨vp_in_nI (by omega) (by decide), ?_⟩
            rw [nI_clamp (by omega), m10]
            conv => whnf
            refine ⟨fun y2 => absurd (ub_0.mp y2) (by rw [hle0.2.1]; exact hwk.resolve_left (by omega)), fun _ => ?_⟩
            conv => whnf
            refine ⟨fun y => absurd y (by decide), fun _ => ?_⟩
            conv => whnf
            exact hK _ _ _ _ (h69 u)
        refine Go_run ok_M_clean hX [12] 60 (fun K R1 T1 hK hR hT => ?_)
        conv => whnf
        rw [hn7]
        refine ⟨fun y => absurd y (nI_ge heN (by omega)), fun _ => ?_⟩
        conv => whnf
        exact hK _ _ _ _ (h12 X oc hX z u h36)
      have e4 : nI (e + (d + 1)) - nI 1 = nI (e + d) := by rw [pk_sub (by omega)]; exact nI_eqI (by omega)
      have jc : ∀ j, j ≠ 1 → jnM σ1 ln e (e + d) N 7 j = σ1 7 j := fun j hj => jnM_7 σ1 ln e (e + d) N j hj
      have ja : ∀ a, a < 7 ∨ 12 < a → jnM σ1 ln e (e + d) N a = τ a := fun a ha => (jnM_ne σ1 ln e (e + d) N a (by omega) (by omega) (by omega) (by omega) (by omega) (by omega)).trans (hdz.ne a (by omega))
      by_cases hr2 : r = 0
      · have hkk := hr0 hr2
        subst hr2
        subst hkk
        rw [if_neg (show ¬ (σc1, decide ((0 : Nat) ≠ 0)).2 = true from fun z => absurd (show decide ((0 : Nat) ≠ 0) = true from z) (by decide))]
        obtain ⟨τ', ok, g1, g2, g3, g4⟩ := ih (i + d + 1) (e + 1) (N - (e + d - e)) (jln ln e (e + d)) (jkd kd e (e + d)) σc1 (jnM σ1 ln e (e + d) N) (by omega) ⟨by omega, by omega, by
            rw [jpos_hi (by omega) (by omega), show e + 1 + (e + d - e) = e + (d + 1) by omega]
            exact hps, fun s hs => by
            rw [jln_hi (by omega), jkd_hi (by omega), jnM_12, shF_hi _ (by omega) (by omega), hdz.ne 12 (by decide), show e + 1 + s + (e + d - e) = e + (d + 1 + s) by omega]
            have := hI.hl (d + 1 + s) (by omega)
            rw [show i + (d + 1 + s) = i + d + 1 + s by omega] at this
            exact this, by
            rw [cntP_skip (P := fun j => jkd kd e (e + d) j ≠ 0) 1 (fun j y1 y2 => by obtain rfl : j = e := by omega
                                                                                      exact fun y => y jkd_at), cntP_cong (Q := fun j => kd j ≠ 0) (fun j hj => by rw [jkd_lo hj]), hI.hc, show i + d + 1 = i + (d + 1) by omega, cntP_skip (P := fun j => rb j = true) (d + 1) (fun j y1 y2 => by rw [gt2 j y1 (by omega)]; decide)], hm1.jn (by omega) (by omega), hefj _ (ja 13 (by omega)) (ja 14 (by omega)) (by decide), hn1.1, by rw [jc 12 (by decide)]; exact c4, by rw [jc 9 (by decide)]; exact c1, by rw [jc 10 (by decide)]; exact c2, c3.trans c6', by rw [jc 11 (by decide)]; exact c6', by rw [jc 10 (by decide)]; exact c5, fun j => shF_bl hb1 _ _ _ j, by rw [jc 0 (by decide)]; exact hdz.code⟩
        refine ⟨τ', ok, fun X oc hX ho y z u => hwalk X oc hX (fun u => ?_) y z u, g2, fun a ha => (g3 a ha).trans (ja a ha), g4⟩
        refine Go_run ok_M_clean hX [98] 60 (fun K R1 T1 hK hR hT => ?_)
        conv => whnf
        refine ⟨2, rfl, by decide, Or.inr hI.d4, hI.lo, fun r' σ1' hdz' => ?_⟩
        obtain ⟨rfl, rfl⟩ := Dz.uniq (by decide) hdz hdz'
        conv => whnf
        refine ⟨fun y => absurd y (by decide), fun _ => ?_⟩
        conv => whnf
        rw [e4]
        refine ⟨N, ln, kd, e, e + d, rfl, hm1, by omega, by omega, hb1, ?_⟩
        conv => whnf
        have hcode : jnM σ1 ln e (e + d) N 7 0 = 0 := (jc 0 (by decide)).trans hdz.code
        rw [hcode]
        refine ⟨fun _ => ?_, fun y => absurd c0n y⟩
        conv => whnf
        exact hK _ _ _ _ (c_M_cl_98 hX e (e + (d + 1)) (by omega) (by omega) (nI 1) (Or.inl (by decide)) _ (g1 X oc hX ho _ _ _))
      · rw [if_pos (by simp [hr2])]
        by_cases hr3 : r < 2
        · obtain rfl : r = 1 := by omega
          refine ⟨jnM σ1 ln e (e + d) N, false, fun X oc hX ho y z u => hwalk X oc hX (fun u => ?_) y z u, by simp, ja, ⟨by rw [jc 9 (by decide)]; exact c1, by rw [jc 10 (by decide)]; exact c2, c3.trans c6', by rw [jc 11 (by decide)]; exact c6', by rw [jc 10 (by decide)]; exact c5, fun j => shF_bl hb1 _ _ _ j, by rw [jc 0 (by decide)]; exact hdz.code, _, _, _, kk, hm1.jn (by omega) (by omega), by rw [jc 12 (by decide)]; exact c4, hn1, hefj _ (ja 13 (by omega)) (ja 14 (by omega)) (by decide), fun y => absurd y (by decide)⟩⟩
          refine Go_run ok_M_clean hX [98] 60 (fun K R1 T1 hK hR hT => ?_)
          conv => whnf
          refine ⟨2, rfl, by decide, Or.inr hI.d4, hI.lo, fun r' σ1' hdz' => ?_⟩
          obtain ⟨rfl, rfl⟩ := Dz.uniq (by decide) hdz hdz'
          conv => whnf
          refine ⟨fun y => absurd y (by decide), fun _ => ?_⟩
          conv => whnf
          rw [e4]
          refine ⟨N, ln, kd, e, e + d, rfl, hm1, by omega, by omega, hb1, ?_⟩
          conv => whnf
          have hcode : jnM σ1 ln e (e + d) N 7 0 = 1 := (jc 0 (by decide)).trans hdz.code
          rw [hcode]
          refine ⟨fun y => absurd y (by decide), fun _ => ?_⟩
          conv => whnf
          refine ⟨rfl, hR _ _ ?_⟩
          rw [ho]; rfl
        · have hr5 : r = 2 := by
            rcases hr with ⟨_, y⟩ | ⟨_, _, _, _, y⟩ | ⟨_, _, _, y⟩ <;> omega
          subst hr5
          refine ⟨σ1, false, fun X oc hX ho y z u => hwalk X oc hX (fun u => ?_) y z u, by simp, fun a ha => hdz.ne a (by omega), ⟨c1, c2, c3.trans c6', c6', c5, hb1, hdz.code, N, ln, kd, kk, hm1, c4, hn1, ?_, fun y => absurd y (by decide)⟩⟩
          · refine Go_run ok_M_clean hX [98] 60 (fun K R1 T1 hK hR hT => ?_)
            conv => whnf
            refine ⟨2, rfl, by decide, Or.inr hI.d4, hI.lo, fun r' σ1' hdz' => ?_⟩
            obtain ⟨rfl, rfl⟩ := Dz.uniq (by decide) hdz hdz'
            conv => whnf
            refine ⟨fun _ => ?_, fun y => absurd rfl y⟩
            conv => whnf
            rw [hdz.code]
            refine ⟨fun y => absurd (dc_0 y) (by decide), fun _ => ?_⟩
            conv => whnf
            refine ⟨rfl, hR _ _ ?_⟩
            rw [ho]; rfl
          · refine (hI.ef.w (fun p hp => ?_)).m (hdz.ne 13 (by decide)) (hdz.ne 14 (by decide))
            rw [hef p hp, if_neg (by decide), peF_ne _ _ _ _ _ _ (by decide)]
def ct_M_clean : CTy := fun as σ KN _ => as = [] ∧ ∃ x τ', MetO y_M_clean mi_M_clean [.inr (.inl 7)] σ (.inl (some (.inl x), τ')) ∧ KN (some (.inl x)) τ'
theorem s_M_clean : Snd y_M_clean mi_M_clean 7 0 ct_M_clean := by
  intro as σ KN KX _ ⟨e, x, τ', h1, h2⟩
  subst e
  exact ⟨.inl (_, _), h2, h1⟩
theorem c_M_clean {σ τ' : Mem} {ok : Bool} (h : ∀ (X : CT) (oc : OC), CxO X mi_M_clean oc → oc = .inl (some (.inl (if ok = true then 1 else 0)), τ') → ∀ y z u, Go X mi_M_clean 2 [some (.inr (.inl 7)), some (.inl (nI 0)), y, z, u] [] σ) : MetO y_M_clean mi_M_clean [.inr (.inl 7)] σ (.inl (some (.inl (if ok = true then 1 else 0)), τ')) := by
  refine met_go ok_M_clean ⟨rfl, rfl⟩ si_M_clean (Nat.le_of_ble_eq_true rfl) ⟨trivial, trivial⟩ [2] 60 (fun X hX K R1 T1 hK hR hT => ?_)
  conv => whnf
  exact hK _ _ _ _ (h X _ hX rfl _ _ _)
end
section
def mi_M_recover : MI := (b_M_recover, 3, "RootedWordsModel", some .int, 4, tbl_of 102 f_M_recover, fl_M, [(49, (7, 1, ct_M_spend)), (91, (7, 0, ct_M_markAll)), (94, (7, 0, ct_M_clean))], [])
theorem ok_M_recover : MOK mi_M_recover := ⟨tbl_ok k_M_recover, flok_M rfl, List.forall_mem_cons.mpr ⟨okV 2 (by decide) s_M_spend rfl (Nat.le_of_ble_eq_true rfl) (Nat.le_of_ble_eq_true rfl) (by decide +kernel) lk_M_49 vv_M_spend, List.forall_mem_cons.mpr ⟨okV 2 (by decide) s_M_markAll rfl (Nat.le_of_ble_eq_true rfl) (Nat.le_of_ble_eq_true rfl) (by decide +kernel) lk_M_91 vv_M_markAll, List.forall_mem_cons.mpr ⟨okV 2 (by decide) s_M_clean rfl (Nat.le_of_ble_eq_true rfl) (Nat.le_of_ble_eq_true rfl) (by decide +kernel) lk_M_94 vv_M_clean, (fun _ h => absurd h List.not_mem_nil)⟩⟩⟩⟩
theorem si_M_recover : ∀ q ∈ m_tr mi_M_recover, SiteF mi_M_recover q := (fun _ h => absurd h List.not_mem_nil)
theorem c_M_recover_up (σ : Mem) (hd : σ 7 11 = 0) : MetO y_M_recover mi_M_recover [.inr (.inl 7)] σ (.inl (some (.inl (-1)), st σ 7 0 0)) := by
  refine met_go ok_M_recover ⟨rfl, rfl⟩ si_M_recover (Nat.le_of_ble_eq_true rfl) ⟨trivial, trivial⟩ [] 60 (fun X hX K R1 T1 hK hR hT => ?_)
  conv => whnf
  refine ⟨fun z => absurd hd z, fun _ => ?_⟩
  conv => whnf
  exact hR _ _ rfl
theorem c_M_rec_69 {X : CT} {oc : OC} (hX : CxO X mi_M_recover oc) {σ : Mem} {N : Nat} {ln kd : Nat → Nat} (h : MP σ N ln kd) (ho : oc = .inl (some (.inl (nI (cntP (fun j => kd j ≠ 0) N))), σ)) : ∀ (n i : Nat), i + n = N →
    Go X mi_M_recover 69 [some (.inr (.inl 7)), some (.inl (nI (cntP (fun j => kd j ≠ 0) i))), some (.inl (nI i))] [] σ := by
  have hN := h.1.N85
  intro n
  induction n with
  | zero =>
    intro i hi
    obtain rfl : i = N := by omega
    refine Go_run ok_M_recover hX [69] 60 (fun K R1 T1 hK hR hT => ?_)
    conv => whnf
    rw [h.2.1]
    refine ⟨fun _ => ?_, fun h1 => absurd (nI_le (Nat.le_refl _) (by omega)) h1⟩
    conv => whnf
    exact hR _ _ ho
  | succ n ih =>
    intro i hi
    obtain ⟨m8, m9, m10, m11⟩ := h.2.2 i (by omega)
    have e2 : nI i + nI 1 = nI (i + 1) := nI_add i 1
    have e3 : nI (cntP (fun j => kd j ≠ 0) i) + nI 1 = nI (cntP (fun j => kd j ≠ 0) i + 1) := nI_add _ _
    have h9 := ih (i + 1) (by omega)
    unfold cntP at h9
    refine Go_run ok_M_recover hX [69] 60 (fun K R1 T1 hK hR hT => ?_)
    conv => whnf
    rw [h.2.1]
    refine ⟨fun z => absurd z (nI_ge (by omega) (by omega)), fun _ => ?_⟩
    conv => whnf
    refine ⟨vp_in_nI (by omega) (by decide), ?_⟩
    rw [nI_clamp (by omega), m10]
    conv => whnf
    refine ⟨fun z => ?_, fun z => ?_⟩
    · conv => whnf
      refine hK _ _ _ _ ?_
      show Go X mi_M_recover 69 [some (.inr (.inl 7)), some (.inl (nI (cntP (fun j => kd j ≠ 0) i))), some (.inl (nI i + nI 1))] [] σ
      rw [if_neg (fun q => q (ub_0.mp z))] at h9
      rw [e2]; exact h9
    · conv => whnf
      refine hK _ _ _ _ ?_
      show Go X mi_M_recover 69 [some (.inr (.inl 7)), some (.inl (nI (cntP (fun j => kd j ≠ 0) i) + nI 1)), some (.inl (nI i + nI 1))] [] σ
      rw [if_pos (fun q => z (ub_0.mpr q))] at h9
      rw [e2, e3]; exact h9
/-- the memory in which clean begins -/
noncomputable def clB (σ : Mem) (N : Nat) (ln kd : Nat → Nat) : Mem := stA (st σ 7 12 (nI 0)) 12 (maF (st σ 7 12 (nI 0)) N ln kd)
theorem c_M_rec_41 {X : CT} {oc : OC} (hX : CxO X mi_M_recover oc) {σ τ' : Mem} {N : Nat} {ln kd : Nat → Nat} (h : MP σ N ln kd) {ok : Bool} (hcl : MetO y_M_clean mi_M_clean [.inr (.inl 7)] (clB σ N ln kd) (.inl (some (.inl (if ok = true then 1 else 0)), τ')))
    (h0 : ok = false → oc = .inl (some (.inl 0), τ')) (h1 : ok = true → ∃ N' ln' kd', MP τ' N' ln' kd' ∧ oc = .inl (some (.inl (nI (cntP (fun j => kd' j ≠ 0) N'))), st τ' 7 11 0)) : Go X mi_M_recover 41 [some (.inr (.inl 7)), none, none] [] σ := by
  refine Go_run ok_M_recover hX [69] 60 (fun K R1 T1 hK hR hT => ?_)
  conv => whnf
  refine ⟨N, ln, kd, h.st7 12 (nI 0) (by decide), ?_⟩
  conv => whnf
  refine ⟨rfl, _, τ', hcl, ?_⟩
  cases ok with
  | true =>
    obtain ⟨N', ln', kd', hm, ho⟩ := h1 rfl
    conv => whnf
    refine ⟨fun _ => ?_, fun z => absurd z (by decide)⟩
    conv => whnf
    refine ⟨Or.inl rfl, ?_⟩
    conv => whnf
    exact hK _ _ _ _ (c_M_rec_69 hX (hm.st7 11 0 (by decide)) ho N' 0 (by omega))
  | false =>
    conv => whnf
    refine ⟨fun z => absurd rfl z, fun _ => ?_⟩
    conv => whnf
    refine hR _ _ ?_
    rw [h0 rfl]; rfl
theorem c_M_rec_0 {σ : Mem} (hd : σ 7 11 = 1) (h0 : σ 7 12 = 0) {oc : OC} (hG : ∀ X, CxO X mi_M_recover oc → Go X mi_M_recover 41 [some (.inr (.inl 7)), none, none] [] (D0 σ)) : MetO y_M_recover mi_M_recover [.inr (.inl 7)] σ oc := by
  refine met_go ok_M_recover ⟨rfl, rfl⟩ si_M_recover (Nat.le_of_ble_eq_true rfl) ⟨trivial, trivial⟩ [41] 60 (fun X hX K R1 T1 hK hR hT => ?_)
  conv => whnf
  refine ⟨fun _ => ?_, fun z => absurd (hd.symm.trans z) (by decide)⟩
  conv => whnf
  refine ⟨fun _ => ?_, fun z => absurd (show σ 7 12 ≤ 0 by rw [h0]; decide) z⟩
  conv => whnf
  exact hK _ _ _ _ (hG X hX)
theorem c_M_rec_k {σ : Mem} (hd : σ 7 11 = 1) {k : Nat} (hk : 1 ≤ k) (hk4 : k ≤ 4) (h0 : σ 7 12 = nI k) (hl : lGo (σ 7 10) (k + 1)) {oc : OC} (hG : ∀ X, CxO X mi_M_recover oc → Go X mi_M_recover 41 [some (.inr (.inl 7)), none, none] [] (Dt (k + 1) σ)) : MetO y_M_recover mi_M_recover [.inr (.inl 7)] σ oc := by
  have e1 : nI k + nI 1 = nI (k + 1) := nI_add _ _
  have hlo : lOK (σ 7 10) := hl.elim Or.inl (fun ⟨j, _, h2, h3⟩ => Or.inr ⟨j, h2, h3⟩)
  have h0' : st σ 7 0 (nI 0) 7 12 = nI k := h0
  refine met_go ok_M_recover ⟨rfl, rfl⟩ si_M_recover (Nat.le_of_ble_eq_true rfl) ⟨trivial, trivial⟩ [41] 60 (fun X hX K R1 T1 hK hR hT => ?_)
  conv => whnf
  refine ⟨fun _ => ?_, fun z => absurd (hd.symm.trans z) (by decide)⟩
  conv => whnf
  rw [h0']
  refine ⟨fun z => absurd z (cIn hk (by omega)), fun _ => ?_⟩
  conv => whnf
  rw [h0', e1]
  refine ⟨k + 1, rfl, by omega, Or.inr hd, hlo, fun _ => ?_, fun j j1 j2 j3 => absurd hl (not_lGo j1 j2 j3)⟩
  conv => whnf
  refine ⟨fun _ => ?_, fun z => absurd (by decide) z⟩
  conv => whnf
  exact hK _ _ _ _ (hG X hX)
theorem c_M_rec_f {σ : Mem} (hd : σ 7 11 = 1) {k j : Nat} (hk : 1 ≤ k) (hk4 : k ≤ 4) (h0 : σ 7 12 = nI k) (hj : j < k + 1) (hl : σ 7 10 = nI j) : MetO y_M_recover mi_M_recover [.inr (.inl 7)] σ (.inl (some (.inl 0), st (spF (D0 σ) j) 7 0 1)) := by
  have e1 : nI k + nI 1 = nI (k + 1) := nI_add _ _
  have h0' : st σ 7 0 (nI 0) 7 12 = nI k := h0
  refine met_go ok_M_recover ⟨rfl, rfl⟩ si_M_recover (Nat.le_of_ble_eq_true rfl) ⟨trivial, trivial⟩ [41] 60 (fun X hX K R1 T1 hK hR hT => ?_)
  conv => whnf
  refine ⟨fun _ => ?_, fun z => absurd (hd.symm.trans z) (by decide)⟩
  conv => whnf
  rw [h0']
  refine ⟨fun z => absurd z (cIn hk (by omega)), fun _ => ?_⟩
  conv => whnf
  rw [h0', e1]
  refine ⟨k + 1, rfl, by omega, Or.inr hd, Or.inr ⟨j, by omega, hl⟩, fun z => absurd z (not_lGo hj (by omega) hl), fun j' j1 j2 j3 => ?_⟩
  obtain rfl : j' = j := nI_inj (by omega) (by omega) (j3.symm.trans hl)
  conv => whnf
  refine ⟨fun z => absurd z (nI_pos (by omega)), fun _ => ?_⟩
  conv => whnf
  exact hR _ _ rfl
/-- from the search on -/
theorem rc_cpl {σ σ1 : Mem} {codes : List (String × Nat)} {N : Nat} {ln kd : Nat → Nat} {T : Mem → Mem} (hin : (eIS, 1) ∈ codes) (hX : MetO y_X_recover mi_X_recover [.inr (.inl 0)] σ (rcO σ1 N ln kd))
    (hm : MP σ N ln kd) (hσ : RM σ σ1) (he : EF (σ1 2) σ N ln kd) (h265 : σ1 2 265 = 0) (h14 : σ1 1 4 = 1) (hb : ∀ j, bl (σ 12 j))
    (hT : ∀ μ, RM σ μ → (∀ a, a ≠ 7 → T μ a = μ a) ∧ T μ 7 1 = σ 7 1 ∧ T μ 7 0 = 0 ∧ T μ 7 9 = σ1 1 2 ∧ T μ 7 10 = σ1 1 3 ∧ T μ 7 11 = 1 ∧ lOK (T μ 7 10))
    (hM : ∀ μ oc, RM σ μ → (∀ X, CxO X mi_M_recover oc → Go X mi_M_recover 41 [some (.inr (.inl 7)), none, none] [] (T μ)) → MetO y_M_recover mi_M_recover [.inr (.inl 7)] μ oc) :
    Cpl y_X_recover mi_X_recover [.inr (.inl 0)] y_M_recover mi_M_recover [.inr (.inl 7)] codes σ := by
  have hp := he.1
  have g0 : ∀ a, a ≠ 4 → a ≠ 5 → a ≠ 6 → lsF (srM σ1 N ln kd) ln N a = σ1 a := fun a h4 h5 h6 => (lsF_ne _ _ _ _ h4).trans (srM_ne hp a h4 h5 h6)
  have hne : ∀ a, 7 ≤ a → (rcF σ1 N ln kd).1 a = σ1 a := fun a ha => (fuF_ne _ _ _ _ _ _ _ a (by omega) (by omega) (by omega)).trans (g0 a (by omega) (by omega) (by omega))
  have hrm : RM σ (rcF σ1 N ln kd).1 := fun a h1 h2 => (hne a h1).trans (hσ a h1 h2)
  have run : ∀ μ, RM σ μ → ∃ τ' ok, MetO y_M_clean mi_M_clean [.inr (.inl 7)] (clB (T μ) N ln kd) (.inl (some (.inl (if ok = true then 1 else 0)), τ')) ∧ (rcF σ1 N ln kd).2 = !ok ∧ (∀ a, a < 7 ∨ 12 < a → τ' a = μ a) ∧ ClO N (rsb (σ1 2) N ln kd) (rcF σ1 N ln kd).1 τ' ok := by
    intro μ hμ
    obtain ⟨t1, t2, t3, t4, t5, t6, t7⟩ := hT μ hμ
    have ta : ∀ a, 8 ≤ a → a ≤ 14 → st (T μ) 7 12 (nI 0) a = σ a := fun a h1 h2 => ((st_ne _ _ _ (by omega)).trans (t1 a (by omega))).trans (hμ a (by omega) h2)
    have hmw : mwd (st (T μ) 7 12 (nI 0)) = mwd σ := mwd_eq (ta 13 (by decide) (by decide)) (ta 14 (by decide) (by decide))
    have hmT : MP (st (T μ) 7 12 (nI 0)) N ln kd := hm.cong t2 (ta 8 (by decide) (by decide)) (ta 9 (by decide) (by decide)) (ta 10 (by decide) (by decide)) (ta 11 (by decide) (by decide))
    obtain ⟨τ', ok, q1, q2, q3, q4⟩ := cl_loop (rb := rsb (σ1 2) N ln kd) hm.1 (fun j _ hj => (rsb_iff.mp hj).used.2) (N + 1) 0 0 N ln kd (lsF (srM σ1 N ln kd) ln N) (clB (T μ) N ln kd) (by omega)
      ⟨Nat.zero_le _, by omega, rfl, fun t ht => by
        rw [Nat.zero_add] at ht ⊢
        refine ⟨rfl, rfl, ?_⟩
        have : clB (T μ) N ln kd 12 t ≠ 0 ↔ RS (mwd (st (T μ) 7 12 (nI 0))) N ln kd t := maF_rs ht
        rw [this, hmw, ← he.rs t]
        exact rsb_iff.symm, rfl, hmT.cong rfl rfl rfl rfl rfl, by
        rw [g0 2 (by decide) (by decide) (by decide)]
        exact he.m (ta 13 (by decide) (by decide)) (ta 14 (by decide) (by decide)), by
        rw [g0 2 (by decide) (by decide) (by decide)]; exact h265, rfl, by
        rw [g0 1 (by decide) (by decide) (by decide)]; exact t4.symm, by
        rw [g0 1 (by decide) (by decide) (by decide)]; exact t5.symm, by
        rw [g0 1 (by decide) (by decide) (by decide)]; exact h14, t6, t7, maF_bl (fun j => by rw [ta 12 (by decide) (by decide)]; exact hb j), t3⟩
    refine ⟨τ', ok, c_M_clean q1, q2, fun a ha => (q3 a ha).trans ?_, q4⟩
    show stA (st (T μ) 7 12 (nI 0)) 12 _ a = μ a
    rw [stA_ne _ _ (by omega), st_ne _ _ _ (by omega), t1 a (by omega)]
  have hmp : ∀ μ, RM σ μ → MP (T μ) N ln kd := by
    intro μ hμ
    obtain ⟨t1, t2, _⟩ := hT μ hμ
    exact hm.cong (by rw [t2]) ((t1 8 (by decide)).trans (hμ 8 (by decide) (by decide))) ((t1 9 (by decide)).trans (hμ 9 (by decide) (by decide))) ((t1 10 (by decide)).trans (hμ 10 (by decide) (by decide))) ((t1 11 (by decide)).trans (hμ 11 (by decide) (by decide)))
  unfold rcO at hX
  cases hf : (rcF σ1 N ln kd).2 with
  | true =>
    rw [hf, if_pos rfl] at hX
    obtain ⟨τ', ok, q1, q2, q3, q4⟩ := run _ hrm
    have hok : ok = false := by
      rw [hf] at q2
      cases ok with
      | true => exact absurd q2 (by decide)
      | false => rfl
    subst hok
    have hm1 := hM _ (.inl (some (.inl 0), τ')) hrm (fun X hX => c_M_rec_41 hX (hmp _ hrm) q1 (fun _ => rfl) (fun z => absurd z (by decide)))
    refine Or.inr ⟨eIS, 1, _, _, _, hin, hX, hm1, q4.cd, ?_⟩
    obtain ⟨N', ln', kd', k', w1, w2, w3, w4, w5⟩ := q4.hh
    have s1 := q3 1 (by omega)
    have s2 := q3 2 (by omega)
    exact ⟨⟨q4.lo, Or.inr q4.d4, by rw [s1]; exact q4.c2, by rw [s1]; exact q4.c3, by rw [s1, q4.d4]; exact q4.c4, q4.bm⟩, N', ln', kd', k', w1, w2, by rw [s2]; exact w3, fun z => absurd (q4.d4.symm.trans z) (by decide), by rw [s2]; exact w4⟩
  | false =>
    rw [hf, if_neg (by decide)] at hX
    have hμ : RM σ (st (st (rcF σ1 N ln kd).1 1 4 0) 15 0 (nI (cntP (RS (σ1 2) N ln kd) N))) := fun a h1 h2 => (st_ne _ _ _ (by omega)).trans ((st_ne _ _ _ (by omega)).trans (hrm a h1 h2))
    obtain ⟨τ', ok, q1, q2, q3, q4⟩ := run _ hμ
    have hok : ok = true := by
      rw [hf] at q2
      cases ok with
      | true => rfl
      | false => exact absurd q2 (by decide)
    subst hok
    obtain ⟨N', ln', kd', k', w1, w2, w3, w4, w5⟩ := q4.hh
    obtain ⟨w6, w7⟩ := w5 rfl
    subst w6
    have hv : nI (cntP (fun j => kd' j ≠ 0) N') = nI (cntP (RS (σ1 2) N ln kd) N) := by
      rw [w7, cntP_cong (Q := RS (σ1 2) N ln kd) (fun j _ => rsb_iff)]
    have hm1 := hM _ (.inl (some (.inl (nI (cntP (RS (σ1 2) N ln kd) N))), st τ' 7 11 0)) hμ (fun X hX => c_M_rec_41 hX (hmp _ hμ) q1 (fun z => absurd z (by decide)) (fun _ => ⟨N', ln', kd', w1, by rw [hv]⟩))
    have s1 := q3 1 (by omega)
    have s2 := q3 2 (by omega)
    have s15 := q3 15 (by omega)
    refine Or.inl ⟨_, _, _, hX, hm1, q4.cd, ?_, ?_⟩
    · refine ⟨⟨q4.lo, Or.inl rfl, ?_, ?_, ?_, q4.bm⟩, N', ln', kd', 0, w1.cong rfl rfl rfl rfl rfl, w2, ?_, fun _ => rfl, ?_⟩
      · show τ' 1 2 = τ' 7 9
        rw [s1]; exact q4.c2
      · show τ' 1 3 = τ' 7 10
        rw [s1]; exact q4.c3
      · show τ' 1 4 = 0
        rw [s1]; rfl
      · show nOK (τ' 2) 0
        rw [s2]; exact w3
      · show EF (eff (τ' 2) 0) _ N' ln' kd'
        rw [s2]; exact w4.m rfl rfl
    · show τ' 15 0 = _
      rw [s15]; rfl
theorem cp_recover {σ : Mem} (hJ : J σ) : Cpl y_X_recover mi_X_recover [.inr (.inl 0)] y_M_recover mi_M_recover [.inr (.inl 7)] [(eIS, 1)] σ := by
  rcases hJ.bl with hd | hd
  · have h4 : σ 1 4 = 0 := by rw [hJ.1.2.2.2.2.1]; exact hd
    exact Cpl.ok hJ (RQ.rf σ) (c_X_recover_up σ h4) (fun τ hτ => c_M_recover_up τ (by rw [hτ.e7]; exact hd))
  · obtain ⟨hC, N, ln, kd, k, hm, h12, hn, _, he⟩ := hJ
    have h4 : σ 1 4 = 1 := by rw [hC.2.2.2.2.1]; exact hd
    have hk4 := hn.2.1
    by_cases hk : k = 0
    · subst hk
      have h265 : σ 2 265 = 0 := hn.1
      have he0 : EF (σ 2) σ N ln kd := he
      refine rc_cpl (T := D0) (by simp) (c_X_recover_np σ h4 h265 he0.1) hm (fun _ _ _ => rfl) he0 h265 h4 hC.2.2.2.2.2 (fun μ hμ => ⟨fun a ha => st_ne _ _ _ ha, D0_7 hμ 1 (by decide), rfl, (D0_7 hμ 9 (by decide)).trans hC.2.2.1.symm, (D0_7 hμ 10 (by decide)).trans hC.2.2.2.1.symm, (D0_7 hμ 11 (by decide)).trans hd, by rw [D0_7 hμ 10 (by decide)]; exact hC.1⟩)
        (fun μ oc hμ hG => c_M_rec_0 (by rw [hμ.e7]; exact hd) (by rw [hμ.e7]; exact h12) hG)
    · have h265 : ¬ σ 2 265 = 0 := by
        rw [hn.1]
        exact fun z => hk (nI_inj (a := k) (b := 0) (by omega) (by decide) z)
      have hflen : ∀ n i, (fin (σ 2) i n).length = n := by
        intro n
        induction n with
        | zero => intro i; rfl
        | succ n ih => intro i; exact congrArg Nat.succ (ih (i + 1))
      have hflt : ∀ n i, i + n ≤ k → ∀ q ∈ fin (σ 2) i n, q.1 < 265 := by
        intro n
        induction n with
        | zero => intro i _ q hq; exact absurd hq List.not_mem_nil
        | succ n ih =>
          intro i hi q hq
          rcases List.mem_cons.mp hq with rfl | hq
          · obtain ⟨p, p1, p2⟩ := hn.2.2 i (by omega)
            show (σ 2 (266 + 2 * i)).toNatClampNeg < 265
            rw [p2, nI_clamp (by omega)]; exact p1
          · exact ih (i + 1) (by omega) q hq
      have hlen : (fin (σ 2) 0 k ++ [(265, (0 : Int32))]).length = k + 1 := by
        rw [List.length_append, hflen]; rfl
      have hLO : lOK (σ 1 3) := by rw [hC.2.2.2.1]; exact hC.1
      rcases lGo_or hLO (k + 1) with q | ⟨j, j1, j2, j3⟩
      · have hz := wrs_go (fin (σ 2) 0 k ++ [(265, 0)]) σ (by rw [hlen]; exact q)
        rw [hlen] at hz
        generalize hσ1 : stA (stA σ 2 (apl (σ 2) (fin (σ 2) 0 k ++ [(265, 0)]))) 1 (o1 (σ 1) (k + 1)) = σ1 at hz
        have z1 : σ1 1 = o1 (σ 1) (k + 1) := by rw [← hσ1]; rfl
        have z2 : σ1 2 = upd (eff (σ 2) k) 265 0 := by
          rw [← hσ1]
          show apl (σ 2) (fin (σ 2) 0 k ++ [(265, 0)]) = _
          rw [apl_app]; rfl
        have za : RM σ σ1 := fun a b1 b2 => by rw [← hσ1, stA_ne _ _ (by omega), stA_ne _ _ (by omega)]
        have he1 : EF (σ1 2) σ N ln kd := he.w (fun p hp => by rw [z2, upd_n _ _ (by omega)])
        have q' : lGo (σ 7 10) (k + 1) := by rw [← hC.2.2.2.1]; exact q
        refine rc_cpl (T := Dt (k + 1)) (by simp) (c_X_recover_fin σ σ1 h4 h265 hn hz he1.1) hm za he1 (by rw [z2, upd_s]) (by rw [z1]; exact h4) hC.2.2.2.2.2 (fun μ hμ => ⟨fun a ha => (spO_a _ _ a ha).trans (st_ne _ _ _ ha), (Dt_7 hμ (σz := σ) (fun _ _ _ => rfl) 1 (by decide)), rfl, ?_, ?_, (Dt_7 hμ (σz := σ) (fun _ _ _ => rfl) 11 (by decide)).trans hd, ?_⟩)
          (fun μ oc hμ hG => c_M_rec_k (by rw [hμ.e7]; exact hd) (by omega) hk4 (by rw [hμ.e7]; exact h12) (by rw [hμ.e7]; exact q') hG)
        · rw [Dt_7 hμ (σz := σ) (fun _ _ _ => rfl) 9 (by decide), z1]
          show σ 7 9 + _ = σ 1 2 + _
          rw [hC.2.2.1]
        · rw [Dt_7 hμ (σz := σ) (fun _ _ _ => rfl) 10 (by decide), z1]
          show lsub (σ 7 10) _ = lsub (σ 1 3) _
          rw [hC.2.2.2.1]
        · rw [Dt_7 hμ (σz := σ) (fun _ _ _ => rfl) 10 (by decide)]
          exact lOK_sub q'
      · have hz := wrs_fail (fin (σ 2) 0 k ++ [(265, 0)]) σ j (by rw [hlen]; exact j1) j2 j3
        have hXc := c_X_recover_cut σ h4 h265 hn (by rw [hz])
        rw [hz] at hXc
        have et : (fin (σ 2) 0 k ++ [(265, (0 : Int32))]).take j = (fin (σ 2) 0 k).take j := List.take_append_of_le_length (by rw [hflen]; omega)
        rw [et] at hXc
        generalize hσ1 : stA (stA σ 2 (apl (σ 2) ((fin (σ 2) 0 k).take j))) 1 (o1F (σ 1) j) = σ1 at hXc
        have z1 : σ1 1 = o1F (σ 1) j := by rw [← hσ1]; rfl
        have z2 : σ1 2 = apl (σ 2) ((fin (σ 2) 0 k).take j) := by rw [← hσ1]; rfl
        have za : RM σ σ1 := fun a b1 b2 => by rw [← hσ1, stA_ne _ _ (by omega), stA_ne _ _ (by omega)]
        have zhi : ∀ p, 265 ≤ p → σ1 2 p = σ 2 p := fun p hp => by
          rw [z2]
          exact apl_ne _ _ p (fun q hq => by have := hflt k 0 (by omega) q (List.mem_of_mem_take hq); omega)
        have zfin : fin (σ1 2) 0 k = fin (σ 2) 0 k := fin_cong k 0 (fun p hp => zhi p (by omega))
        have zeff : eff (σ1 2) k = eff (σ 2) k := by
          unfold eff
          rw [zfin, z2]
          exact apl_again _ _ _
        have j3' : σ 7 10 = nI j := by rw [← hC.2.2.2.1]; exact j3
        have hM := c_M_rec_f (σ := σ1) (by rw [za.e7]; exact hd) (k := k) (by omega) hk4 (by rw [za.e7]; exact h12) j1 (by rw [za.e7]; exact j3')
        refine Or.inr ⟨eIS, 1, σ1, _, _, by simp, hXc, hM, rfl, ?_⟩
        refine ⟨⟨Or.inl rfl, Or.inr rfl, ?_, ?_, ?_, fun i => ?_⟩, N, ln, kd, k, (za.mp hm).cong rfl rfl rfl rfl rfl, ?_, ⟨?_, hk4, fun i hi => ?_⟩, fun z => absurd (show (1 : Int32) = 0 from z) (by decide), ?_⟩
        · show σ1 1 2 = σ1 7 9 + nI j
          rw [z1, za.e7, ← hC.2.2.1]; rfl
        · show σ1 1 3 = -1
          rw [z1]; rfl
        · show σ1 1 4 = 1
          rw [z1]; rfl
        · show bl (σ1 12 i)
          rw [za 12 (by decide) (by decide)]; exact hC.2.2.2.2.2 i
        · show σ1 7 12 = nI k
          rw [za.e7]; exact h12
        · show σ1 2 265 = nI k
          rw [zhi _ (by omega)]; exact hn.1
        · show ∃ q, q < 265 ∧ σ1 2 (266 + 2 * i) = nI q
          rw [zhi _ (by omega)]; exact hn.2.2 i hi
        · show EF (eff (σ1 2) k) _ N ln kd
          rw [zeff]
          exact he.m (za 13 (by decide) (by decide)) (za 14 (by decide) (by decide))
end
section
/-! ===== the law's wrappers: printed by a program, but the head ===== -/
def ct_any (y : MethodName) (M : MI) (o : Nat) : CTy := fun as σ KN KX => ∃ oc : OC, MetO y M (.inr (.inl o) :: as) σ oc ∧ (match oc with | .inl z => KN z.1 z.2 | .inr z => KX z.1 z.2)
theorem s_any (y : MethodName) (M : MI) (o n : Nat) : Snd y M o n (ct_any y M o) := fun _ _ _ _ _ ⟨oc, h1, h2⟩ => ⟨oc, h2, h1⟩
/-- a static method that catches all: what it returns, and the memory -/
def wsW (y : MethodName) (M : MI) (hh : List (Nat × Nat × Nat × Nat)) : List Jvm.Cond := .codeWith y (m_cc M) (m_nL M) (m_ret M) hh :: gtbl
def OW (g : GT) (r : Int32) (σ' : Mem) : Array Value → State → Outcome → State → Prop := fun _ s o t => o = .returned (some (.int r)) ∧ va_P g.2.1 classes (mw g σ') t.heap ∧ va_F (gA g) s t
def MetW (y : MethodName) (M : MI) (hh : List (Nat × Nat × Nat × Nat)) (as : List AV) (σ : Mem) (r : Int32) (σ' : Mem) : Prop := ∀ (l : Launch) (g : GT), l.stackTraces = false →
  Met l y (wsW y M hh) (rmm (m_d M) 1) (PcG g as σ) (OW g r σ') 1 6 (gA g)
/-- a handler that returns r -/
def HOK (M : MI) (hh : List (Nat × Nat × Nat × Nat)) (pc : Nat) (E : String) (r : Int32) : Prop := ∃ (pre : List ExceptionTableEntry) (x : ExceptionTableEntry) (suf : List ExceptionTableEntry) (nm : String) (a : Nat),
  tableOf hh = pre ++ x :: suf ∧ (∀ z ∈ pre, z.catchType ≠ 0 ∧ ∃ n2 : String, Jvm.Cond.classLink (m_own M) z.catchType n2 ∈ gtbl ∧ (E, n2) ∈ ncs) ∧ covers x pc = true ∧ x.catchType ≠ 0 ∧ Jvm.Cond.classLink (m_own M) x.catchType nm ∈ gtbl ∧ Jvm.Cond.castable E nm ∈ dtbl ∧ a < m_nL M ∧
  ∃ n : Int, Int32.ofInt n = r ∧ ((decode (m_cc M) x.handlerPc = .ok (.astore a, 2) ∧ decode (m_cc M) (x.handlerPc + 2) = .ok (.iconst n, 1) ∧ decode (m_cc M) (x.handlerPc + 2 + 1) = .ok (.ireturn, 1)) ∨
    (∃ k : Fin 4, (k : Nat) = a ∧ decode (m_cc M) x.handlerPc = .ok (.astore_n k, 1) ∧ decode (m_cc M) (x.handlerPc + 1) = .ok (.iconst n, 1) ∧ decode (m_cc M) (x.handlerPc + 1 + 1) = .ok (.ireturn, 1)))
theorem metW_of {y : MethodName} {M : MI} {hh : List (Nat × Nat × Nat × Nat)} {as : List AV} {σ : Mem} {r : Int32} {σ' : Mem} (hy : y.cls = m_own M ∧ plainName y.cls = true) (htr : m_tr M = []) (hret : m_ret M = some .int) (hlen : as.length ≤ m_nL M) (hno : ∀ v ∈ as, noL v)
    (h : ∀ X, Cx X M (fun v μ => v = some (.inl r) ∧ μ = σ') (fun pc E μ => μ = σ' ∧ HOK M hh pc E r) → Go X M 0 (as.map some ++ List.replicate (m_nL M - as.length) none) [] σ) : MetW y M hh as σ r σ' := by
  intro l g htrc
  refine va_MetW (cc := m_cc M) (maxL := m_nL M) (ret := m_ret M) (hh := hh) hy.2 rfl ?_
  intro p e s m args below meth c s₁ B hml hPc
  obtain ⟨rfl, hbase, hP, hKG⟩ := hPc
  have hts0 := atoms_spec (ws := wsW y M hh) B.pre
  have hts : ∀ w ∈ gtbl, w.before (as.map (cv g)).toArray s = true := fun w hw => hts0 w (List.mem_cons_of_mem _ hw)
  have hown : s.vm.findClass (m_own M) = some m.cls := hy.1 ▸ findClass_of_methodNamed B.named
  have hlocks := B.notSynchronized
  have hr := B.returns
  have htab : c.exceptionTable.toList = tableOf hh := vx_table (x := y) B (hts0 _ List.mem_cons_self)
  let X : CT := (p, l, e, rmm (m_d M) 1, s, m, (as.map (cv g)).toArray, below, meth, c, g, MQ below (OW g r σ') (as.map (cv g)).toArray s 1 6 (gA g), 0, 0)
  have hend : ∀ (pc k n : Nat) (H : Heap) (locs : List Loc) (ls : Array Slot), k ≤ 1 → n ≤ 6 → wo X σ' H → wS X H locs → decode (m_cc M) pc = .ok (.ireturn, 1) → W p l e (rmm (m_d M) 1) s m (as.map (cv g)).toArray below meth c H locs k n (xQ X) (F0 m pc ls [.int r]) := by
    intro pc k n H locs ls hk hn hP1 hS1 hd
    exact W.widen hk hn (W.zret B.exec B.bytes (hr.trans hret) rfl (fun t ht hW => ⟨rfl, by rw [ht]; exact hP1, hS1.F ht⟩) hS1.2.2 hd hlocks)
  have hX : Cx X M (fun v μ => v = some (.inl r) ∧ μ = σ') (fun pc E μ => μ = σ' ∧ HOK M hh pc E r) := by
    refine ⟨⟨B.exec, B.bytes, hml, hown, hts, hKG, hbase⟩, ⟨Nat.le_refl _, Nat.le_refl _, Nat.zero_le _, Nat.zero_le _⟩, ?_, ?_, ?_, htrc⟩
    · intro v μ pc H locs ls he hP1 hS1 hd
      obtain ⟨rfl, rfl⟩ := he
      obtain ⟨x, ty, hv, h1, h2, h3⟩ := hd
      exact hend pc 0 0 H locs ls (by omega) (by omega) hP1 hS1 h3
    · intro pc E μ he
      obtain ⟨rfl, pre, x, suf, nm, a, t1, t2, t3, t4, t5, t6, t7, n, hn, t8⟩ := he
      refine ⟨⟨Nat.le_refl _, Nat.le_refl _⟩, fun H locs ls rest q ce hP1 hS1 hl hce hcv hcl => ?_⟩
      refine vx_catch (own := m_own M) (name := nm) (E := E) (ce := ce) hown pre x suf (htab.trans t1) (fun z hz => Or.inr ⟨(t2 z hz).1, ?_⟩) t3 t4 (hts _ t5) (va_Nw.use (nw_tab (List.mem_filter.mp t6).2) (hKG.2.1 _ t6)) hce hcv hcl ?_
      · obtain ⟨n2, l1, l2⟩ := (t2 z hz).2
        exact ⟨n2, hts _ l1, hKG.2.2.2.1 _ l2⟩
      · rcases t8 with ⟨d1, d2, d3⟩ | ⟨k, hk, d1, d2, d3⟩
        · exact lv_astore B.exec B.bytes d1 hl t7 rfl (fun ls' _ => lv_iconst B.exec B.bytes d2 hn (hend _ _ _ H locs ls' (Nat.le_refl _) (Nat.le_refl _) hP1 hS1 d3))
        · exact lv_astore_n B.exec B.bytes d1 hk hl t7 rfl (fun ls' _ => lv_iconst B.exec B.bytes d2 hn (hend _ _ _ H locs ls' (Nat.le_refl _) (Nat.le_refl _) hP1 hS1 d3))
    · intro pc E μ hin
      rw [htr] at hin
      exact absurd hin List.not_mem_nil
  have hG := h X hX
  have hl := lv_entry (as.map (cv g)) (n := m_nL M) (by rw [sl_len g as hno]; exact hlen)
  have h9 := hG s.heap [] _ hP va_S.rf ⟨⟨hl.1, hl.2.1, fun q hq => by cases hq⟩, fun i v hv => by
    have h1 := args_in g as 0 i _ v hno hv
    rw [Nat.zero_add] at h1
    exact ⟨hl.2.2 _ h1.1, h1.2⟩⟩
  rw [lg_entry_eq]
  exact h9
theorem lc_L_13 : Jvm.Cond.classLink "RootedWordsLaw" 13 eIS ∈ gtbl := gw 126 (by decide +kernel) rfl
theorem lc_L_15 : Jvm.Cond.classLink "RootedWordsLaw" 15 eIA ∈ gtbl := gw 127 (by decide +kernel) rfl
theorem lc_L_17 : Jvm.Cond.classLink "RootedWordsLaw" 17 eUO ∈ gtbl := gw 128 (by decide +kernel) rfl
theorem lc_L_23 : Jvm.Cond.classLink "RootedWordsLaw" 23 eNE ∈ gtbl := gw 302 (by decide +kernel) rfl
theorem lc_L_29 : Jvm.Cond.classLink "RootedWordsLaw" 29 eIO ∈ gtbl := gw 338 (by decide +kernel) rfl
theorem dc_eIS : Jvm.Cond.castable eIS eIS ∈ dtbl := List.mem_filter.mpr ⟨List.mem_of_getElem? (i := 139) (by decide +kernel), rfl⟩
theorem dc_eIA : Jvm.Cond.castable eIA eIA ∈ dtbl := List.mem_filter.mpr ⟨List.mem_of_getElem? (i := 209) (by decide +kernel), rfl⟩
theorem dc_eUO : Jvm.Cond.castable eUO eUO ∈ dtbl := List.mem_filter.mpr ⟨List.mem_of_getElem? (i := 257) (by decide +kernel), rfl⟩
theorem dc_eNE : Jvm.Cond.castable eNE eNE ∈ dtbl := List.mem_filter.mpr ⟨List.mem_of_getElem? (i := 317) (by decide +kernel), rfl⟩
theorem dc_eIO : Jvm.Cond.castable eIO eIO ∈ dtbl := List.mem_filter.mpr ⟨List.mem_of_getElem? (i := 349) (by decide +kernel), rfl⟩
abbrev b_L_take : ByteArray := method_3_code
def y_L_take : MethodName := ⟨"RootedWordsLaw", "take", "(LRootedWords;II[J)I"⟩
def h_L_take : List (Nat × Nat × Nat × Nat) := [(0, 10, 13, 13), (0, 10, 17, 15), (0, 10, 21, 17)]
def f_L_take : Nat → Option TE := fun pc => cond (Nat.ble pc 13) (cond (Nat.ble pc 4) (cond (Nat.ble pc 1) (cond (Nat.ble pc 0) (cond (Nat.beq pc 0) (some (.aload_n 3, 1, 3, 0)) none) (cond (Nat.beq pc 1) (some (.iconst 0, 2, 0, nI 0)) none)) (cond (Nat.ble pc 2) (cond (Nat.beq pc 2) (some (.aload_n 0, 3, 0, 0)) none) (cond (Nat.ble pc 3) (cond (Nat.beq pc 3) (some (.iload_n 1, 4, 1, 0)) none) (cond (Nat.beq pc 4) (some (.iload_n 2, 5, 2, 0)) none)))) (cond (Nat.ble pc 8) (cond (Nat.ble pc 5) (cond (Nat.beq pc 5) (some (.invokevirtual 7, 8, 0, 0)) none) (cond (Nat.beq pc 8) (some (.i2l, 9, 0, 0)) none)) (cond (Nat.ble pc 9) (cond (Nat.beq pc 9) (some (.lastore, 10, 0, 0)) none) (cond (Nat.ble pc 10) (cond (Nat.beq pc 10) (some (.goto 15, 13, 25, 0)) none) (cond (Nat.beq pc 13) (some (.astore 4, 15, 4, 0)) none))))) (cond (Nat.ble pc 20) (cond (Nat.ble pc 16) (cond (Nat.ble pc 15) (cond (Nat.beq pc 15) (some (.iconst 1, 16, 0, nI 1)) none) (cond (Nat.beq pc 16) (some (.ireturn, 17, 0, 0)) none)) (cond (Nat.ble pc 17) (cond (Nat.beq pc 17) (some (.astore 4, 19, 4, 0)) none) (cond (Nat.ble pc 19) (cond (Nat.beq pc 19) (some (.iconst 2, 20, 0, nI 2)) none) (cond (Nat.beq pc 20) (some (.ireturn, 21, 0, 0)) none)))) (cond (Nat.ble pc 23) (cond (Nat.ble pc 21) (cond (Nat.beq pc 21) (some (.astore 4, 23, 4, 0)) none) (cond (Nat.beq pc 23) (some (.iconst 3, 24, 0, nI 3)) none)) (cond (Nat.ble pc 24) (cond (Nat.beq pc 24) (some (.ireturn, 25, 0, 0)) none) (cond (Nat.ble pc 25) (cond (Nat.beq pc 25) (some (.iconst 0, 26, 0, nI 0)) none) (cond (Nat.beq pc 26) (some (.ireturn, 27, 0, 0)) none)))))
set_option maxRecDepth 100000 in
theorem k_L_take : (List.range 27).all (fun pc => match f_L_take pc with | none => true | some q => chk b_L_take 5 pc q) = true := by decide +kernel
theorem vw_L_take : Jvm.Cond.static y_L_take ∈ gtbl ∧ Jvm.Cond.initialized (y_L_take).cls ∈ gtbl ∧ Jvm.Cond.codeWith y_L_take b_L_take 5 (some .int) h_L_take ∈ gtbl := ⟨gw 124 (by decide +kernel) rfl, gw 35 (by decide +kernel) rfl, gw 125 (by decide +kernel) rfl⟩
theorem lk_L_7 : Jvm.Cond.methodLink "RootedWordsLaw" 7 y_X_take ∈ gtbl := gw 129 (by decide +kernel) rfl
def mi_L_take : MI := (b_L_take, 5, "RootedWordsLaw", some .int, 5, tbl_of 27 f_L_take, [], [(7, (0, 2, ct_any y_X_take mi_X_take 0))], [])
theorem ok_L_take : MOK mi_L_take := ⟨tbl_ok k_L_take, (fun _ h => absurd h List.not_mem_nil), List.forall_mem_cons.mpr ⟨okV 0 (by decide) (s_any _ _ _ _) rfl (Nat.le_of_ble_eq_true rfl) (Nat.le_of_ble_eq_true rfl) (by decide +kernel) lk_L_7 vv_X_take, (fun _ h => absurd h List.not_mem_nil)⟩⟩
theorem ho_L_take_1 : HOK mi_L_take h_L_take 5 eIS (nI 1) := ⟨[], ⟨0, 10, 13, 13⟩, [⟨0, 10, 17, 15⟩, ⟨0, 10, 21, 17⟩], eIS, 4, rfl, (fun _ h => absurd h List.not_mem_nil), rfl, by decide, lc_L_13, dc_eIS, by decide, 1, by decide, Or.inl ⟨by decide +kernel, by decide +kernel, by decide +kernel⟩⟩
theorem ho_L_take_2 : HOK mi_L_take h_L_take 5 eIA (nI 2) := ⟨[⟨0, 10, 13, 13⟩], ⟨0, 10, 17, 15⟩, [⟨0, 10, 21, 17⟩], eIA, 4, rfl, List.forall_mem_cons.mpr ⟨⟨by decide, eIS, lc_L_13, by decide +kernel⟩, (fun _ h => absurd h List.not_mem_nil)⟩, rfl, by decide, lc_L_15, dc_eIA, by decide, 2, by decide, Or.inl ⟨by decide +kernel, by decide +kernel, by decide +kernel⟩⟩
theorem ho_L_take_3 : HOK mi_L_take h_L_take 5 eUO (nI 3) := ⟨[⟨0, 10, 13, 13⟩, ⟨0, 10, 17, 15⟩], ⟨0, 10, 21, 17⟩, [], eUO, 4, rfl, List.forall_mem_cons.mpr ⟨⟨by decide, eIS, lc_L_13, by decide +kernel⟩, List.forall_mem_cons.mpr ⟨⟨by decide, eIA, lc_L_15, by decide +kernel⟩, (fun _ h => absurd h List.not_mem_nil)⟩⟩, rfl, by decide, lc_L_17, dc_eUO, by decide, 3, by decide, Or.inl ⟨by decide +kernel, by decide +kernel, by decide +kernel⟩⟩
theorem w_L_take (a x : Int32) (σ σc : Mem) (v : Int32) (hX : MetO y_X_take mi_X_take [.inr (.inl 0), .inl a, .inl x] σ (.inl (some (.inl v), σc))) : MetW y_L_take mi_L_take h_L_take [.inr (.inl 0), .inl a, .inl x, .inr (.inl 15)] σ (nI 0) (st σc 15 0 v) := by
  refine metW_of ⟨rfl, rfl⟩ rfl rfl (Nat.le_of_ble_eq_true rfl) (nls ⟨trivial, trivial, trivial, trivial, trivial⟩) (fun X hC => ?_)
  refine Go_run ok_L_take hC [] 60 (fun K R1 T1 hK hR hT => ?_)
  conv => whnf
  refine ⟨.inl (_, _), hX, ?_⟩
  conv => whnf
  refine ⟨vp_in_nI (by decide) (by decide), ?_⟩
  conv => whnf
  exact hR _ _ ⟨rfl, rfl⟩
theorem wx_L_take (a x : Int32) (σ σc : Mem) {E : String} {k : Nat} (hin : (E, k) ∈ [(eIS, 1), (eIA, 2), (eUO, 3)]) (hX : MetO y_X_take mi_X_take [.inr (.inl 0), .inl a, .inl x] σ (.inr (E, σc))) : MetW y_L_take mi_L_take h_L_take [.inr (.inl 0), .inl a, .inl x, .inr (.inl 15)] σ (nI k) σc := by
  refine metW_of ⟨rfl, rfl⟩ rfl rfl (Nat.le_of_ble_eq_true rfl) (nls ⟨trivial, trivial, trivial, trivial, trivial⟩) (fun X hC => ?_)
  refine Go_run ok_L_take hC [] 60 (fun K R1 T1 hK hR hT => ?_)
  conv => whnf
  refine ⟨.inr (_, _), hX, ?_⟩
  refine hT _ _ _ ⟨rfl, ?_⟩
  simp only [List.mem_cons, List.mem_nil_iff, or_false, Prod.mk.injEq] at hin
  rcases hin with hin | hin | hin
  all_goals (obtain ⟨rfl, rfl⟩ := hin)
  · exact ho_L_take_1
  · exact ho_L_take_2
  · exact ho_L_take_3
abbrev b_L_give : ByteArray := method_4_code
def y_L_give : MethodName := ⟨"RootedWordsLaw", "give", "(LRootedWords;I[J)I"⟩
def h_L_give : List (Nat × Nat × Nat × Nat) := [(0, 9, 12, 13), (0, 9, 15, 23)]
def f_L_give : Nat → Option TE := fun pc => cond (Nat.ble pc 9) (cond (Nat.ble pc 3) (cond (Nat.ble pc 1) (cond (Nat.ble pc 0) (cond (Nat.beq pc 0) (some (.aload_n 2, 1, 2, 0)) none) (cond (Nat.beq pc 1) (some (.iconst 0, 2, 0, nI 0)) none)) (cond (Nat.ble pc 2) (cond (Nat.beq pc 2) (some (.aload_n 0, 3, 0, 0)) none) (cond (Nat.beq pc 3) (some (.iload_n 1, 4, 1, 0)) none))) (cond (Nat.ble pc 7) (cond (Nat.ble pc 4) (cond (Nat.beq pc 4) (some (.invokevirtual 19, 7, 0, 0)) none) (cond (Nat.beq pc 7) (some (.i2l, 8, 0, 0)) none)) (cond (Nat.ble pc 8) (cond (Nat.beq pc 8) (some (.lastore, 9, 0, 0)) none) (cond (Nat.beq pc 9) (some (.goto 9, 12, 18, 0)) none)))) (cond (Nat.ble pc 15) (cond (Nat.ble pc 13) (cond (Nat.ble pc 12) (cond (Nat.beq pc 12) (some (.astore_n 3, 13, 3, 0)) none) (cond (Nat.beq pc 13) (some (.iconst 1, 14, 0, nI 1)) none)) (cond (Nat.ble pc 14) (cond (Nat.beq pc 14) (some (.ireturn, 15, 0, 0)) none) (cond (Nat.beq pc 15) (some (.astore_n 3, 16, 3, 0)) none))) (cond (Nat.ble pc 17) (cond (Nat.ble pc 16) (cond (Nat.beq pc 16) (some (.iconst 2, 17, 0, nI 2)) none) (cond (Nat.beq pc 17) (some (.ireturn, 18, 0, 0)) none)) (cond (Nat.ble pc 18) (cond (Nat.beq pc 18) (some (.iconst 0, 19, 0, nI 0)) none) (cond (Nat.beq pc 19) (some (.ireturn, 20, 0, 0)) none))))
set_option maxRecDepth 100000 in
theorem k_L_give : (List.range 20).all (fun pc => match f_L_give pc with | none => true | some q => chk b_L_give 4 pc q) = true := by decide +kernel
theorem vw_L_give : Jvm.Cond.static y_L_give ∈ gtbl ∧ Jvm.Cond.initialized (y_L_give).cls ∈ gtbl ∧ Jvm.Cond.codeWith y_L_give b_L_give 4 (some .int) h_L_give ∈ gtbl := ⟨gw 300 (by decide +kernel) rfl, gw 35 (by decide +kernel) rfl, gw 301 (by decide +kernel) rfl⟩
theorem lk_L_19 : Jvm.Cond.methodLink "RootedWordsLaw" 19 y_X_give ∈ gtbl := gw 303 (by decide +kernel) rfl
def mi_L_give : MI := (b_L_give, 4, "RootedWordsLaw", some .int, 6, tbl_of 20 f_L_give, [], [(19, (0, 1, ct_any y_X_give mi_X_give 0))], [])
theorem ok_L_give : MOK mi_L_give := ⟨tbl_ok k_L_give, (fun _ h => absurd h List.not_mem_nil), List.forall_mem_cons.mpr ⟨okV 0 (by decide) (s_any _ _ _ _) rfl (Nat.le_of_ble_eq_true rfl) (Nat.le_of_ble_eq_true rfl) (by decide +kernel) lk_L_19 vv_X_give, (fun _ h => absurd h List.not_mem_nil)⟩⟩
theorem ho_L_give_1 : HOK mi_L_give h_L_give 4 eIS (nI 1) := ⟨[], ⟨0, 9, 12, 13⟩, [⟨0, 9, 15, 23⟩], eIS, 3, rfl, (fun _ h => absurd h List.not_mem_nil), rfl, by decide, lc_L_13, dc_eIS, by decide, 1, by decide, Or.inr ⟨3, rfl, by decide +kernel, by decide +kernel, by decide +kernel⟩⟩
theorem ho_L_give_2 : HOK mi_L_give h_L_give 4 eNE (nI 2) := ⟨[⟨0, 9, 12, 13⟩], ⟨0, 9, 15, 23⟩, [], eNE, 3, rfl, List.forall_mem_cons.mpr ⟨⟨by decide, eIS, lc_L_13, by decide +kernel⟩, (fun _ h => absurd h List.not_mem_nil)⟩, rfl, by decide, lc_L_23, dc_eNE, by decide, 2, by decide, Or.inr ⟨3, rfl, by decide +kernel, by decide +kernel, by decide +kernel⟩⟩
theorem w_L_give (a : Int32) (σ σc : Mem) (v : Int32) (hX : MetO y_X_give mi_X_give [.inr (.inl 0), .inl a] σ (.inl (some (.inl v), σc))) : MetW y_L_give mi_L_give h_L_give [.inr (.inl 0), .inl a, .inr (.inl 15)] σ (nI 0) (st σc 15 0 v) := by
  refine metW_of ⟨rfl, rfl⟩ rfl rfl (Nat.le_of_ble_eq_true rfl) (nls ⟨trivial, trivial, trivial, trivial⟩) (fun X hC => ?_)
  refine Go_run ok_L_give hC [] 60 (fun K R1 T1 hK hR hT => ?_)
  conv => whnf
  refine ⟨.inl (_, _), hX, ?_⟩
  conv => whnf
  refine ⟨vp_in_nI (by decide) (by decide), ?_⟩
  conv => whnf
  exact hR _ _ ⟨rfl, rfl⟩
theorem wx_L_give (a : Int32) (σ σc : Mem) {E : String} {k : Nat} (hin : (E, k) ∈ [(eIS, 1), (eNE, 2)]) (hX : MetO y_X_give mi_X_give [.inr (.inl 0), .inl a] σ (.inr (E, σc))) : MetW y_L_give mi_L_give h_L_give [.inr (.inl 0), .inl a, .inr (.inl 15)] σ (nI k) σc := by
  refine metW_of ⟨rfl, rfl⟩ rfl rfl (Nat.le_of_ble_eq_true rfl) (nls ⟨trivial, trivial, trivial, trivial⟩) (fun X hC => ?_)
  refine Go_run ok_L_give hC [] 60 (fun K R1 T1 hK hR hT => ?_)
  conv => whnf
  refine ⟨.inr (_, _), hX, ?_⟩
  refine hT _ _ _ ⟨rfl, ?_⟩
  simp only [List.mem_cons, List.mem_nil_iff, or_false, Prod.mk.injEq] at hin
  rcases hin with hin | hin
  all_goals (obtain ⟨rfl, rfl⟩ := hin)
  · exact ho_L_give_1
  · exact ho_L_give_2
abbrev b_L_store : ByteArray := method_5_code
def y_L_store : MethodName := ⟨"RootedWordsLaw", "store", "(LRootedWords;III[J)I"⟩
def h_L_store : List (Nat × Nat × Nat × Nat) := [(0, 12, 15, 13), (0, 12, 19, 23), (0, 12, 23, 29), (0, 12, 27, 15)]
def f_L_store : Nat → Option TE := fun pc => cond (Nat.ble pc 17) (cond (Nat.ble pc 6) (cond (Nat.ble pc 3) (cond (Nat.ble pc 0) (cond (Nat.beq pc 0) (some (.aload 4, 2, 4, 0)) none) (cond (Nat.ble pc 2) (cond (Nat.beq pc 2) (some (.iconst 0, 3, 0, nI 0)) none) (cond (Nat.beq pc 3) (some (.aload_n 0, 4, 0, 0)) none))) (cond (Nat.ble pc 4) (cond (Nat.beq pc 4) (some (.iload_n 1, 5, 1, 0)) none) (cond (Nat.ble pc 5) (cond (Nat.beq pc 5) (some (.iload_n 2, 6, 2, 0)) none) (cond (Nat.beq pc 6) (some (.iload_n 3, 7, 3, 0)) none)))) (cond (Nat.ble pc 11) (cond (Nat.ble pc 7) (cond (Nat.beq pc 7) (some (.invokevirtual 25, 10, 0, 0)) none) (cond (Nat.ble pc 10) (cond (Nat.beq pc 10) (some (.i2l, 11, 0, 0)) none) (cond (Nat.beq pc 11) (some (.lastore, 12, 0, 0)) none))) (cond (Nat.ble pc 12) (cond (Nat.beq pc 12) (some (.goto 19, 15, 31, 0)) none) (cond (Nat.ble pc 15) (cond (Nat.beq pc 15) (some (.astore 5, 17, 5, 0)) none) (cond (Nat.beq pc 17) (some (.iconst 1, 18, 0, nI 1)) none))))) (cond (Nat.ble pc 25) (cond (Nat.ble pc 21) (cond (Nat.ble pc 18) (cond (Nat.beq pc 18) (some (.ireturn, 19, 0, 0)) none) (cond (Nat.ble pc 19) (cond (Nat.beq pc 19) (some (.astore 5, 21, 5, 0)) none) (cond (Nat.beq pc 21) (some (.iconst 2, 22, 0, nI 2)) none))) (cond (Nat.ble pc 22) (cond (Nat.beq pc 22) (some (.ireturn, 23, 0, 0)) none) (cond (Nat.ble pc 23) (cond (Nat.beq pc 23) (some (.astore 5, 25, 5, 0)) none) (cond (Nat.beq pc 25) (some (.iconst 3, 26, 0, nI 3)) none)))) (cond (Nat.ble pc 29) (cond (Nat.ble pc 26) (cond (Nat.beq pc 26) (some (.ireturn, 27, 0, 0)) none) (cond (Nat.ble pc 27) (cond (Nat.beq pc 27) (some (.astore 5, 29, 5, 0)) none) (cond (Nat.beq pc 29) (some (.iconst 4, 30, 0, nI 4)) none))) (cond (Nat.ble pc 30) (cond (Nat.beq pc 30) (some (.ireturn, 31, 0, 0)) none) (cond (Nat.ble pc 31) (cond (Nat.beq pc 31) (some (.iconst 0, 32, 0, nI 0)) none) (cond (Nat.beq pc 32) (some (.ireturn, 33, 0, 0)) none)))))
set_option maxRecDepth 100000 in
theorem k_L_store : (List.range 33).all (fun pc => match f_L_store pc with | none => true | some q => chk b_L_store 6 pc q) = true := by decide +kernel
theorem vw_L_store : Jvm.Cond.static y_L_store ∈ gtbl ∧ Jvm.Cond.initialized (y_L_store).cls ∈ gtbl ∧ Jvm.Cond.codeWith y_L_store b_L_store 6 (some .int) h_L_store ∈ gtbl := ⟨gw 336 (by decide +kernel) rfl, gw 35 (by decide +kernel) rfl, gw 337 (by decide +kernel) rfl⟩
theorem lk_L_25 : Jvm.Cond.methodLink "RootedWordsLaw" 25 y_X_store ∈ gtbl := gw 339 (by decide +kernel) rfl
def mi_L_store : MI := (b_L_store, 6, "RootedWordsLaw", some .int, 6, tbl_of 33 f_L_store, [], [(25, (0, 3, ct_any y_X_store mi_X_store 0))], [])
theorem ok_L_store : MOK mi_L_store := ⟨tbl_ok k_L_store, (fun _ h => absurd h List.not_mem_nil), List.forall_mem_cons.mpr ⟨okV 0 (by decide) (s_any _ _ _ _) rfl (Nat.le_of_ble_eq_true rfl) (Nat.le_of_ble_eq_true rfl) (by decide +kernel) lk_L_25 vv_X_store, (fun _ h => absurd h List.not_mem_nil)⟩⟩
theorem ho_L_store_1 : HOK mi_L_store h_L_store 7 eIS (nI 1) := ⟨[], ⟨0, 12, 15, 13⟩, [⟨0, 12, 19, 23⟩, ⟨0, 12, 23, 29⟩, ⟨0, 12, 27, 15⟩], eIS, 5, rfl, (fun _ h => absurd h List.not_mem_nil), rfl, by decide, lc_L_13, dc_eIS, by decide, 1, by decide, Or.inl ⟨by decide +kernel, by decide +kernel, by decide +kernel⟩⟩
theorem ho_L_store_2 : HOK mi_L_store h_L_store 7 eNE (nI 2) := ⟨[⟨0, 12, 15, 13⟩], ⟨0, 12, 19, 23⟩, [⟨0, 12, 23, 29⟩, ⟨0, 12, 27, 15⟩], eNE, 5, rfl, List.forall_mem_cons.mpr ⟨⟨by decide, eIS, lc_L_13, by decide +kernel⟩, (fun _ h => absurd h List.not_mem_nil)⟩, rfl, by decide, lc_L_23, dc_eNE, by decide, 2, by decide, Or.inl ⟨by decide +kernel, by decide +kernel, by decide +kernel⟩⟩
theorem ho_L_store_3 : HOK mi_L_store h_L_store 7 eIO (nI 3) := ⟨[⟨0, 12, 15, 13⟩, ⟨0, 12, 19, 23⟩], ⟨0, 12, 23, 29⟩, [⟨0, 12, 27, 15⟩], eIO, 5, rfl, List.forall_mem_cons.mpr ⟨⟨by decide, eIS, lc_L_13, by decide +kernel⟩, List.forall_mem_cons.mpr ⟨⟨by decide, eNE, lc_L_23, by decide +kernel⟩, (fun _ h => absurd h List.not_mem_nil)⟩⟩, rfl, by decide, lc_L_29, dc_eIO, by decide, 3, by decide, Or.inl ⟨by decide +kernel, by decide +kernel, by decide +kernel⟩⟩
theorem ho_L_store_4 : HOK mi_L_store h_L_store 7 eIA (nI 4) := ⟨[⟨0, 12, 15, 13⟩, ⟨0, 12, 19, 23⟩, ⟨0, 12, 23, 29⟩], ⟨0, 12, 27, 15⟩, [], eIA, 5, rfl, List.forall_mem_cons.mpr ⟨⟨by decide, eIS, lc_L_13, by decide +kernel⟩, List.forall_mem_cons.mpr ⟨⟨by decide, eNE, lc_L_23, by decide +kernel⟩, List.forall_mem_cons.mpr ⟨⟨by decide, eIO, lc_L_29, by decide +kernel⟩, (fun _ h => absurd h List.not_mem_nil)⟩⟩⟩, rfl, by decide, lc_L_15, dc_eIA, by decide, 4, by decide, Or.inl ⟨by decide +kernel, by decide +kernel, by decide +kernel⟩⟩
theorem w_L_store (a x w : Int32) (σ σc : Mem) (v : Int32) (hX : MetO y_X_store mi_X_store [.inr (.inl 0), .inl a, .inl x, .inl w] σ (.inl (some (.inl v), σc))) : MetW y_L_store mi_L_store h_L_store [.inr (.inl 0), .inl a, .inl x, .inl w, .inr (.inl 15)] σ (nI 0) (st σc 15 0 v) := by
  refine metW_of ⟨rfl, rfl⟩ rfl rfl (Nat.le_of_ble_eq_true rfl) (nls ⟨trivial, trivial, trivial, trivial, trivial, trivial⟩) (fun X hC => ?_)
  refine Go_run ok_L_store hC [] 60 (fun K R1 T1 hK hR hT => ?_)
  conv => whnf
  refine ⟨.inl (_, _), hX, ?_⟩
  conv => whnf
  refine ⟨vp_in_nI (by decide) (by decide), ?_⟩
  conv => whnf
  exact hR _ _ ⟨rfl, rfl⟩
theorem wx_L_store (a x w : Int32) (σ σc : Mem) {E : String} {k : Nat} (hin : (E, k) ∈ [(eIS, 1), (eNE, 2), (eIO, 3), (eIA, 4)]) (hX : MetO y_X_store mi_X_store [.inr (.inl 0), .inl a, .inl x, .inl w] σ (.inr (E, σc))) : MetW y_L_store mi_L_store h_L_store [.inr (.inl 0), .inl a, .inl x, .inl w, .inr (.inl 15)] σ (nI k) σc := by
  refine metW_of ⟨rfl, rfl⟩ rfl rfl (Nat.le_of_ble_eq_true rfl) (nls ⟨trivial, trivial, trivial, trivial, trivial, trivial⟩) (fun X hC => ?_)
  refine Go_run ok_L_store hC [] 60 (fun K R1 T1 hK hR hT => ?_)
  conv => whnf
  refine ⟨.inr (_, _), hX, ?_⟩
  refine hT _ _ _ ⟨rfl, ?_⟩
  simp only [List.mem_cons, List.mem_nil_iff, or_false, Prod.mk.injEq] at hin
  rcases hin with hin | hin | hin | hin
  all_goals (obtain ⟨rfl, rfl⟩ := hin)
  · exact ho_L_store_1
  · exact ho_L_store_2
  · exact ho_L_store_3
  · exact ho_L_store_4
abbrev b_L_load : ByteArray := method_6_code
def y_L_load : MethodName := ⟨"RootedWordsLaw", "load", "(LRootedWords;II[J)I"⟩
def h_L_load : List (Nat × Nat × Nat × Nat) := [(0, 10, 13, 13), (0, 10, 17, 23), (0, 10, 21, 29)]
def f_L_load : Nat → Option TE := fun pc => cond (Nat.ble pc 13) (cond (Nat.ble pc 4) (cond (Nat.ble pc 1) (cond (Nat.ble pc 0) (cond (Nat.beq pc 0) (some (.aload_n 3, 1, 3, 0)) none) (cond (Nat.beq pc 1) (some (.iconst 0, 2, 0, nI 0)) none)) (cond (Nat.ble pc 2) (cond (Nat.beq pc 2) (some (.aload_n 0, 3, 0, 0)) none) (cond (Nat.ble pc 3) (cond (Nat.beq pc 3) (some (.iload_n 1, 4, 1, 0)) none) (cond (Nat.beq pc 4) (some (.iload_n 2, 5, 2, 0)) none)))) (cond (Nat.ble pc 8) (cond (Nat.ble pc 5) (cond (Nat.beq pc 5) (some (.invokevirtual 31, 8, 0, 0)) none) (cond (Nat.beq pc 8) (some (.i2l, 9, 0, 0)) none)) (cond (Nat.ble pc 9) (cond (Nat.beq pc 9) (some (.lastore, 10, 0, 0)) none) (cond (Nat.ble pc 10) (cond (Nat.beq pc 10) (some (.goto 15, 13, 25, 0)) none) (cond (Nat.beq pc 13) (some (.astore 4, 15, 4, 0)) none))))) (cond (Nat.ble pc 20) (cond (Nat.ble pc 16) (cond (Nat.ble pc 15) (cond (Nat.beq pc 15) (some (.iconst 1, 16, 0, nI 1)) none) (cond (Nat.beq pc 16) (some (.ireturn, 17, 0, 0)) none)) (cond (Nat.ble pc 17) (cond (Nat.beq pc 17) (some (.astore 4, 19, 4, 0)) none) (cond (Nat.ble pc 19) (cond (Nat.beq pc 19) (some (.iconst 2, 20, 0, nI 2)) none) (cond (Nat.beq pc 20) (some (.ireturn, 21, 0, 0)) none)))) (cond (Nat.ble pc 23) (cond (Nat.ble pc 21) (cond (Nat.beq pc 21) (some (.astore 4, 23, 4, 0)) none) (cond (Nat.beq pc 23) (some (.iconst 3, 24, 0, nI 3)) none)) (cond (Nat.ble pc 24) (cond (Nat.beq pc 24) (some (.ireturn, 25, 0, 0)) none) (cond (Nat.ble pc 25) (cond (Nat.beq pc 25) (some (.iconst 0, 26, 0, nI 0)) none) (cond (Nat.beq pc 26) (some (.ireturn, 27, 0, 0)) none)))))
set_option maxRecDepth 100000 in
theorem k_L_load : (List.range 27).all (fun pc => match f_L_load pc with | none => true | some q => chk b_L_load 5 pc q) = true := by decide +kernel
theorem vw_L_load : Jvm.Cond.static y_L_load ∈ gtbl ∧ Jvm.Cond.initialized (y_L_load).cls ∈ gtbl ∧ Jvm.Cond.codeWith y_L_load b_L_load 5 (some .int) h_L_load ∈ gtbl := ⟨gw 373 (by decide +kernel) rfl, gw 35 (by decide +kernel) rfl, gw 374 (by decide +kernel) rfl⟩
theorem lk_L_31 : Jvm.Cond.methodLink "RootedWordsLaw" 31 y_X_load ∈ gtbl := gw 375 (by decide +kernel) rfl
def mi_L_load : MI := (b_L_load, 5, "RootedWordsLaw", some .int, 6, tbl_of 27 f_L_load, [], [(31, (0, 2, ct_any y_X_load mi_X_load 0))], [])
theorem ok_L_load : MOK mi_L_load := ⟨tbl_ok k_L_load, (fun _ h => absurd h List.not_mem_nil), List.forall_mem_cons.mpr ⟨okV 0 (by decide) (s_any _ _ _ _) rfl (Nat.le_of_ble_eq_true rfl) (Nat.le_of_ble_eq_true rfl) (by decide +kernel) lk_L_31 vv_X_load, (fun _ h => absurd h List.not_mem_nil)⟩⟩
theorem ho_L_load_1 : HOK mi_L_load h_L_load 5 eIS (nI 1) := ⟨[], ⟨0, 10, 13, 13⟩, [⟨0, 10, 17, 23⟩, ⟨0, 10, 21, 29⟩], eIS, 4, rfl, (fun _ h => absurd h List.not_mem_nil), rfl, by decide, lc_L_13, dc_eIS, by decide, 1, by decide, Or.inl ⟨by decide +kernel, by decide +kernel, by decide +kernel⟩⟩
theorem ho_L_load_2 : HOK mi_L_load h_L_load 5 eNE (nI 2) := ⟨[⟨0, 10, 13, 13⟩], ⟨0, 10, 17, 23⟩, [⟨0, 10, 21, 29⟩], eNE, 4, rfl, List.forall_mem_cons.mpr ⟨⟨by decide, eIS, lc_L_13, by decide +kernel⟩, (fun _ h => absurd h List.not_mem_nil)⟩, rfl, by decide, lc_L_23, dc_eNE, by decide, 2, by decide, Or.inl ⟨by decide +kernel, by decide +kernel, by decide +kernel⟩⟩
theorem ho_L_load_3 : HOK mi_L_load h_L_load 5 eIO (nI 3) := ⟨[⟨0, 10, 13, 13⟩, ⟨0, 10, 17, 23⟩], ⟨0, 10, 21, 29⟩, [], eIO, 4, rfl, List.forall_mem_cons.mpr ⟨⟨by decide, eIS, lc_L_13, by decide +kernel⟩, List.forall_mem_cons.mpr ⟨⟨by decide, eNE, lc_L_23, by decide +kernel⟩, (fun _ h => absurd h List.not_mem_nil)⟩⟩, rfl, by decide, lc_L_29, dc_eIO, by decide, 3, by decide, Or.inl ⟨by decide +kernel, by decide +kernel, by decide +kernel⟩⟩
theorem w_L_load (a x : Int32) (σ σc : Mem) (v : Int32) (hX : MetO y_X_load mi_X_load [.inr (.inl 0), .inl a, .inl x] σ (.inl (some (.inl v), σc))) : MetW y_L_load mi_L_load h_L_load [.inr (.inl 0), .inl a, .inl x, .inr (.inl 15)] σ (nI 0) (st σc 15 0 v) := by
  refine metW_of ⟨rfl, rfl⟩ rfl rfl (Nat.le_of_ble_eq_true rfl) (nls ⟨trivial, trivial, trivial, trivial, trivial⟩) (fun X hC => ?_)
  refine Go_run ok_L_load hC [] 60 (fun K R1 T1 hK hR hT => ?_)
  conv => whnf
  refine ⟨.inl (_, _), hX, ?_⟩
  conv => whnf
  refine ⟨vp_in_nI (by decide) (by decide), ?_⟩
  conv => whnf
  exact hR _ _ ⟨rfl, rfl⟩
theorem wx_L_load (a x : Int32) (σ σc : Mem) {E : String} {k : Nat} (hin : (E, k) ∈ [(eIS, 1), (eNE, 2), (eIO, 3)]) (hX : MetO y_X_load mi_X_load [.inr (.inl 0), .inl a, .inl x] σ (.inr (E, σc))) : MetW y_L_load mi_L_load h_L_load [.inr (.inl 0), .inl a, .inl x, .inr (.inl 15)] σ (nI k) σc := by
  refine metW_of ⟨rfl, rfl⟩ rfl rfl (Nat.le_of_ble_eq_true rfl) (nls ⟨trivial, trivial, trivial, trivial, trivial⟩) (fun X hC => ?_)
  refine Go_run ok_L_load hC [] 60 (fun K R1 T1 hK hR hT => ?_)
  conv => whnf
  refine ⟨.inr (_, _), hX, ?_⟩
  refine hT _ _ _ ⟨rfl, ?_⟩
  simp only [List.mem_cons, List.mem_nil_iff, or_false, Prod.mk.injEq] at hin
  rcases hin with hin | hin | hin
  all_goals (obtain ⟨rfl, rfl⟩ := hin)
  · exact ho_L_load_1
  · exact ho_L_load_2
  · exact ho_L_load_3
abbrev b_L_size : ByteArray := method_7_code
def y_L_size : MethodName := ⟨"RootedWordsLaw", "size", "(LRootedWords;II[J)I"⟩
def h_L_size : List (Nat × Nat × Nat × Nat) := [(0, 10, 13, 13), (0, 10, 17, 23)]
def f_L_size : Nat → Option TE := fun pc => cond (Nat.ble pc 9) (cond (Nat.ble pc 3) (cond (Nat.ble pc 1) (cond (Nat.ble pc 0) (cond (Nat.beq pc 0) (some (.aload_n 3, 1, 3, 0)) none) (cond (Nat.beq pc 1) (some (.iconst 0, 2, 0, nI 0)) none)) (cond (Nat.ble pc 2) (cond (Nat.beq pc 2) (some (.aload_n 0, 3, 0, 0)) none) (cond (Nat.beq pc 3) (some (.iload_n 1, 4, 1, 0)) none))) (cond (Nat.ble pc 5) (cond (Nat.ble pc 4) (cond (Nat.beq pc 4) (some (.iload_n 2, 5, 2, 0)) none) (cond (Nat.beq pc 5) (some (.invokevirtual 34, 8, 0, 0)) none)) (cond (Nat.ble pc 8) (cond (Nat.beq pc 8) (some (.i2l, 9, 0, 0)) none) (cond (Nat.beq pc 9) (some (.lastore, 10, 0, 0)) none)))) (cond (Nat.ble pc 16) (cond (Nat.ble pc 13) (cond (Nat.ble pc 10) (cond (Nat.beq pc 10) (some (.goto 11, 13, 21, 0)) none) (cond (Nat.beq pc 13) (some (.astore 4, 15, 4, 0)) none)) (cond (Nat.ble pc 15) (cond (Nat.beq pc 15) (some (.iconst 1, 16, 0, nI 1)) none) (cond (Nat.beq pc 16) (some (.ireturn, 17, 0, 0)) none))) (cond (Nat.ble pc 19) (cond (Nat.ble pc 17) (cond (Nat.beq pc 17) (some (.astore 4, 19, 4, 0)) none) (cond (Nat.beq pc 19) (some (.iconst 2, 20, 0, nI 2)) none)) (cond (Nat.ble pc 20) (cond (Nat.beq pc 20) (some (.ireturn, 21, 0, 0)) none) (cond (Nat.ble pc 21) (cond (Nat.beq pc 21) (some (.iconst 0, 22, 0, nI 0)) none) (cond (Nat.beq pc 22) (some (.ireturn, 23, 0, 0)) none)))))
set_option maxRecDepth 100000 in
theorem k_L_size : (List.range 23).all (fun pc => match f_L_size pc with | none => true | some q => chk b_L_size 5 pc q) = true := by decide +kernel
theorem vw_L_size : Jvm.Cond.static y_L_size ∈ gtbl ∧ Jvm.Cond.initialized (y_L_size).cls ∈ gtbl ∧ Jvm.Cond.codeWith y_L_size b_L_size 5 (some .int) h_L_size ∈ gtbl := ⟨gw 380 (by decide +kernel) rfl, gw 35 (by decide +kernel) rfl, gw 381 (by decide +kernel) rfl⟩
theorem lk_L_34 : Jvm.Cond.methodLink "RootedWordsLaw" 34 y_X_size ∈ gtbl := gw 382 (by decide +kernel) rfl
def mi_L_size : MI := (b_L_size, 5, "RootedWordsLaw", some .int, 6, tbl_of 23 f_L_size, [], [(34, (0, 2, ct_any y_X_size mi_X_size 0))], [])
theorem ok_L_size : MOK mi_L_size := ⟨tbl_ok k_L_size, (fun _ h => absurd h List.not_mem_nil), List.forall_mem_cons.mpr ⟨okV 0 (by decide) (s_any _ _ _ _) rfl (Nat.le_of_ble_eq_true rfl) (Nat.le_of_ble_eq_true rfl) (by decide +kernel) lk_L_34 vv_X_size, (fun _ h => absurd h List.not_mem_nil)⟩⟩
theorem ho_L_size_1 : HOK mi_L_size h_L_size 5 eIS (nI 1) := ⟨[], ⟨0, 10, 13, 13⟩, [⟨0, 10, 17, 23⟩], eIS, 4, rfl, (fun _ h => absurd h List.not_mem_nil), rfl, by decide, lc_L_13, dc_eIS, by decide, 1, by decide, Or.inl ⟨by decide +kernel, by decide +kernel, by decide +kernel⟩⟩
theorem ho_L_size_2 : HOK mi_L_size h_L_size 5 eNE (nI 2) := ⟨[⟨0, 10, 13, 13⟩], ⟨0, 10, 17, 23⟩, [], eNE, 4, rfl, List.forall_mem_cons.mpr ⟨⟨by decide, eIS, lc_L_13, by decide +kernel⟩, (fun _ h => absurd h List.not_mem_nil)⟩, rfl, by decide, lc_L_23, dc_eNE, by decide, 2, by decide, Or.inl ⟨by decide +kernel, by decide +kernel, by decide +kernel⟩⟩
theorem w_L_size (a x : Int32) (σ σc : Mem) (v : Int32) (hX : MetO y_X_size mi_X_size [.inr (.inl 0), .inl a, .inl x] σ (.inl (some (.inl v), σc))) : MetW y_L_size mi_L_size h_L_size [.inr (.inl 0), .inl a, .inl x, .inr (.inl 15)] σ (nI 0) (st σc 15 0 v) := by
  refine metW_of ⟨rfl, rfl⟩ rfl rfl (Nat.le_of_ble_eq_true rfl) (nls ⟨trivial, trivial, trivial, trivial, trivial⟩) (fun X hC => ?_)
  refine Go_run ok_L_size hC [] 60 (fun K R1 T1 hK hR hT => ?_)
  conv => whnf
  refine ⟨.inl (_, _), hX, ?_⟩
  conv => whnf
  refine ⟨vp_in_nI (by decide) (by decide), ?_⟩
  conv => whnf
  exact hR _ _ ⟨rfl, rfl⟩
theorem wx_L_size (a x : Int32) (σ σc : Mem) {E : String} {k : Nat} (hin : (E, k) ∈ [(eIS, 1), (eNE, 2)]) (hX : MetO y_X_size mi_X_size [.inr (.inl 0), .inl a, .inl x] σ (.inr (E, σc))) : MetW y_L_size mi_L_size h_L_size [.inr (.inl 0), .inl a, .inl x, .inr (.inl 15)] σ (nI k) σc := by
  refine metW_of ⟨rfl, rfl⟩ rfl rfl (Nat.le_of_ble_eq_true rfl) (nls ⟨trivial, trivial, trivial, trivial, trivial⟩) (fun X hC => ?_)
  refine Go_run ok_L_size hC [] 60 (fun K R1 T1 hK hR hT => ?_)
  conv => whnf
  refine ⟨.inr (_, _), hX, ?_⟩
  refine hT _ _ _ ⟨rfl, ?_⟩
  simp only [List.mem_cons, List.mem_nil_iff, or_false, Prod.mk.injEq] at hin
  rcases hin with hin | hin
  all_goals (obtain ⟨rfl, rfl⟩ := hin)
  · exact ho_L_size_1
  · exact ho_L_size_2
abbrev b_L_setRoot : ByteArray := method_8_code
def y_L_setRoot : MethodName := ⟨"RootedWordsLaw", "setRoot", "(LRootedWords;II[J)I"⟩
def h_L_setRoot : List (Nat × Nat × Nat × Nat) := [(0, 10, 13, 13), (0, 10, 17, 29), (0, 10, 21, 23)]
def f_L_setRoot : Nat → Option TE := fun pc => cond (Nat.ble pc 13) (cond (Nat.ble pc 4) (cond (Nat.ble pc 1) (cond (Nat.ble pc 0) (cond (Nat.beq pc 0) (some (.aload_n 3, 1, 3, 0)) none) (cond (Nat.beq pc 1) (some (.iconst 0, 2, 0, nI 0)) none)) (cond (Nat.ble pc 2) (cond (Nat.beq pc 2) (some (.aload_n 0, 3, 0, 0)) none) (cond (Nat.ble pc 3) (cond (Nat.beq pc 3) (some (.iload_n 1, 4, 1, 0)) none) (cond (Nat.beq pc 4) (some (.iload_n 2, 5, 2, 0)) none)))) (cond (Nat.ble pc 8) (cond (Nat.ble pc 5) (cond (Nat.beq pc 5) (some (.invokevirtual 37, 8, 0, 0)) none) (cond (Nat.beq pc 8) (some (.i2l, 9, 0, 0)) none)) (cond (Nat.ble pc 9) (cond (Nat.beq pc 9) (some (.lastore, 10, 0, 0)) none) (cond (Nat.ble pc 10) (cond (Nat.beq pc 10) (some (.goto 15, 13, 25, 0)) none) (cond (Nat.beq pc 13) (some (.astore 4, 15, 4, 0)) none))))) (cond (Nat.ble pc 20) (cond (Nat.ble pc 16) (cond (Nat.ble pc 15) (cond (Nat.beq pc 15) (some (.iconst 1, 16, 0, nI 1)) none) (cond (Nat.beq pc 16) (some (.ireturn, 17, 0, 0)) none)) (cond (Nat.ble pc 17) (cond (Nat.beq pc 17) (some (.astore 4, 19, 4, 0)) none) (cond (Nat.ble pc 19) (cond (Nat.beq pc 19) (some (.iconst 2, 20, 0, nI 2)) none) (cond (Nat.beq pc 20) (some (.ireturn, 21, 0, 0)) none)))) (cond (Nat.ble pc 23) (cond (Nat.ble pc 21) (cond (Nat.beq pc 21) (some (.astore 4, 23, 4, 0)) none) (cond (Nat.beq pc 23) (some (.iconst 3, 24, 0, nI 3)) none)) (cond (Nat.ble pc 24) (cond (Nat.beq pc 24) (some (.ireturn, 25, 0, 0)) none) (cond (Nat.ble pc 25) (cond (Nat.beq pc 25) (some (.iconst 0, 26, 0, nI 0)) none) (cond (Nat.beq pc 26) (some (.ireturn, 27, 0, 0)) none)))))
set_option maxRecDepth 100000 in
theorem k_L_setRoot : (List.range 27).all (fun pc => match f_L_setRoot pc with | none => true | some q => chk b_L_setRoot 5 pc q) = true := by decide +kernel
theorem vw_L_setRoot : Jvm.Cond.static y_L_setRoot ∈ gtbl ∧ Jvm.Cond.initialized (y_L_setRoot).cls ∈ gtbl ∧ Jvm.Cond.codeWith y_L_setRoot b_L_setRoot 5 (some .int) h_L_setRoot ∈ gtbl := ⟨gw 387 (by decide +kernel) rfl, gw 35 (by decide +kernel) rfl, gw 388 (by decide +kernel) rfl⟩
theorem lk_L_37 : Jvm.Cond.methodLink "RootedWordsLaw" 37 y_X_setRoot ∈ gtbl := gw 389 (by decide +kernel) rfl
def mi_L_setRoot : MI := (b_L_setRoot, 5, "RootedWordsLaw", some .int, 6, tbl_of 27 f_L_setRoot, [], [(37, (0, 2, ct_any y_X_setRoot mi_X_setRoot 0))], [])
theorem ok_L_setRoot : MOK mi_L_setRoot := ⟨tbl_ok k_L_setRoot, (fun _ h => absurd h List.not_mem_nil), List.forall_mem_cons.mpr ⟨okV 0 (by decide) (s_any _ _ _ _) rfl (Nat.le_of_ble_eq_true rfl) (Nat.le_of_ble_eq_true rfl) (by decide +kernel) lk_L_37 vv_X_setRoot, (fun _ h => absurd h List.not_mem_nil)⟩⟩
theorem ho_L_setRoot_1 : HOK mi_L_setRoot h_L_setRoot 5 eIS (nI 1) := ⟨[], ⟨0, 10, 13, 13⟩, [⟨0, 10, 17, 29⟩, ⟨0, 10, 21, 23⟩], eIS, 4, rfl, (fun _ h => absurd h List.not_mem_nil), rfl, by decide, lc_L_13, dc_eIS, by decide, 1, by decide, Or.inl ⟨by decide +kernel, by decide +kernel, by decide +kernel⟩⟩
theorem ho_L_setRoot_2 : HOK mi_L_setRoot h_L_setRoot 5 eIO (nI 2) := ⟨[⟨0, 10, 13, 13⟩], ⟨0, 10, 17, 29⟩, [⟨0, 10, 21, 23⟩], eIO, 4, rfl, List.forall_mem_cons.mpr ⟨⟨by decide, eIS, lc_L_13, by decide +kernel⟩, (fun _ h => absurd h List.not_mem_nil)⟩, rfl, by decide, lc_L_29, dc_eIO, by decide, 2, by decide, Or.inl ⟨by decide +kernel, by decide +kernel, by decide +kernel⟩⟩
theorem ho_L_setRoot_3 : HOK mi_L_setRoot h_L_setRoot 5 eNE (nI 3) := ⟨[⟨0, 10, 13, 13⟩, ⟨0, 10, 17, 29⟩], ⟨0, 10, 21, 23⟩, [], eNE, 4, rfl, List.forall_mem_cons.mpr ⟨⟨by decide, eIS, lc_L_13, by decide +kernel⟩, List.forall_mem_cons.mpr ⟨⟨by decide, eIO, lc_L_29, by decide +kernel⟩, (fun _ h => absurd h List.not_mem_nil)⟩⟩, rfl, by decide, lc_L_23, dc_eNE, by decide, 3, by decide, Or.inl ⟨by decide +kernel, by decide +kernel, by decide +kernel⟩⟩
theorem w_L_setRoot (a x : Int32) (σ σc : Mem) (v : Int32) (hX : MetO y_X_setRoot mi_X_setRoot [.inr (.inl 0), .inl a, .inl x] σ (.inl (some (.inl v), σc))) : MetW y_L_setRoot mi_L_setRoot h_L_setRoot [.inr (.inl 0), .inl a, .inl x, .inr (.inl 15)] σ (nI 0) (st σc 15 0 v) := by
  refine metW_of ⟨rfl, rfl⟩ rfl rfl (Nat.le_of_ble_eq_true rfl) (nls ⟨trivial, trivial, trivial, trivial, trivial⟩) (fun X hC => ?_)
  refine Go_run ok_L_setRoot hC [] 60 (fun K R1 T1 hK hR hT => ?_)
  conv => whnf
  refine ⟨.inl (_, _), hX, ?_⟩
  conv => whnf
  refine ⟨vp_in_nI (by decide) (by decide), ?_⟩
  conv => whnf
  exact hR _ _ ⟨rfl, rfl⟩
theorem wx_L_setRoot (a x : Int32) (σ σc : Mem) {E : String} {k : Nat} (hin : (E, k) ∈ [(eIS, 1), (eIO, 2), (eNE, 3)]) (hX : MetO y_X_setRoot mi_X_setRoot [.inr (.inl 0), .inl a, .inl x] σ (.inr (E, σc))) : MetW y_L_setRoot mi_L_setRoot h_L_setRoot [.inr (.inl 0), .inl a, .inl x, .inr (.inl 15)] σ (nI k) σc := by
  refine metW_of ⟨rfl, rfl⟩ rfl rfl (Nat.le_of_ble_eq_true rfl) (nls ⟨trivial, trivial, trivial, trivial, trivial⟩) (fun X hC => ?_)
  refine Go_run ok_L_setRoot hC [] 60 (fun K R1 T1 hK hR hT => ?_)
  conv => whnf
  refine ⟨.inr (_, _), hX, ?_⟩
  refine hT _ _ _ ⟨rfl, ?_⟩
  simp only [List.mem_cons, List.mem_nil_iff, or_false, Prod.mk.injEq] at hin
  rcases hin with hin | hin | hin
  all_goals (obtain ⟨rfl, rfl⟩ := hin)
  · exact ho_L_setRoot_1
  · exact ho_L_setRoot_2
  · exact ho_L_setRoot_3
abbrev b_L_root : ByteArray := method_9_code
def y_L_root : MethodName := ⟨"RootedWordsLaw", "root", "(LRootedWords;I[J)I"⟩
def h_L_root : List (Nat × Nat × Nat × Nat) := [(0, 9, 12, 13), (0, 9, 15, 29)]
def f_L_root : Nat → Option TE := fun pc => cond (Nat.ble pc 9) (cond (Nat.ble pc 3) (cond (Nat.ble pc 1) (cond (Nat.ble pc 0) (cond (Nat.beq pc 0) (some (.aload_n 2, 1, 2, 0)) none) (cond (Nat.beq pc 1) (some (.iconst 0, 2, 0, nI 0)) none)) (cond (Nat.ble pc 2) (cond (Nat.beq pc 2) (some (.aload_n 0, 3, 0, 0)) none) (cond (Nat.beq pc 3) (some (.iload_n 1, 4, 1, 0)) none))) (cond (Nat.ble pc 7) (cond (Nat.ble pc 4) (cond (Nat.beq pc 4) (some (.invokevirtual 40, 7, 0, 0)) none) (cond (Nat.beq pc 7) (some (.i2l, 8, 0, 0)) none)) (cond (Nat.ble pc 8) (cond (Nat.beq pc 8) (some (.lastore, 9, 0, 0)) none) (cond (Nat.beq pc 9) (some (.goto 9, 12, 18, 0)) none)))) (cond (Nat.ble pc 15) (cond (Nat.ble pc 13) (cond (Nat.ble pc 12) (cond (Nat.beq pc 12) (some (.astore_n 3, 13, 3, 0)) none) (cond (Nat.beq pc 13) (some (.iconst 1, 14, 0, nI 1)) none)) (cond (Nat.ble pc 14) (cond (Nat.beq pc 14) (some (.ireturn, 15, 0, 0)) none) (cond (Nat.beq pc 15) (some (.astore_n 3, 16, 3, 0)) none))) (cond (Nat.ble pc 17) (cond (Nat.ble pc 16) (cond (Nat.beq pc 16) (some (.iconst 2, 17, 0, nI 2)) none) (cond (Nat.beq pc 17) (some (.ireturn, 18, 0, 0)) none)) (cond (Nat.ble pc 18) (cond (Nat.beq pc 18) (some (.iconst 0, 19, 0, nI 0)) none) (cond (Nat.beq pc 19) (some (.ireturn, 20, 0, 0)) none))))
set_option maxRecDepth 100000 in
theorem k_L_root : (List.range 20).all (fun pc => match f_L_root pc with | none => true | some q => chk b_L_root 4 pc q) = true := by decide +kernel
theorem vw_L_root : Jvm.Cond.static y_L_root ∈ gtbl ∧ Jvm.Cond.initialized (y_L_root).cls ∈ gtbl ∧ Jvm.Cond.codeWith y_L_root b_L_root 4 (some .int) h_L_root ∈ gtbl := ⟨gw 403 (by decide +kernel) rfl, gw 35 (by decide +kernel) rfl, gw 404 (by decide +kernel) rfl⟩
theorem lk_L_40 : Jvm.Cond.methodLink "RootedWordsLaw" 40 y_X_root ∈ gtbl := gw 405 (by decide +kernel) rfl
def mi_L_root : MI := (b_L_root, 4, "RootedWordsLaw", some .int, 6, tbl_of 20 f_L_root, [], [(40, (0, 1, ct_any y_X_root mi_X_root 0))], [])
theorem ok_L_root : MOK mi_L_root := ⟨tbl_ok k_L_root, (fun _ h => absurd h List.not_mem_nil), List.forall_mem_cons.mpr ⟨okV 0 (by decide) (s_any _ _ _ _) rfl (Nat.le_of_ble_eq_true rfl) (Nat.le_of_ble_eq_true rfl) (by decide +kernel) lk_L_40 vv_X_root, (fun _ h => absurd h List.not_mem_nil)⟩⟩
theorem ho_L_root_1 : HOK mi_L_root h_L_root 4 eIS (nI 1) := ⟨[], ⟨0, 9, 12, 13⟩, [⟨0, 9, 15, 29⟩], eIS, 3, rfl, (fun _ h => absurd h List.not_mem_nil), rfl, by decide, lc_L_13, dc_eIS, by decide, 1, by decide, Or.inr ⟨3, rfl, by decide +kernel, by decide +kernel, by decide +kernel⟩⟩
theorem ho_L_root_2 : HOK mi_L_root h_L_root 4 eIO (nI 2) := ⟨[⟨0, 9, 12, 13⟩], ⟨0, 9, 15, 29⟩, [], eIO, 3, rfl, List.forall_mem_cons.mpr ⟨⟨by decide, eIS, lc_L_13, by decide +kernel⟩, (fun _ h => absurd h List.not_mem_nil)⟩, rfl, by decide, lc_L_29, dc_eIO, by decide, 2, by decide, Or.inr ⟨3, rfl, by decide +kernel, by decide +kernel, by decide +kernel⟩⟩
theorem w_L_root (a : Int32) (σ σc : Mem) (v : Int32) (hX : MetO y_X_root mi_X_root [.inr (.inl 0), .inl a] σ (.inl (some (.inl v), σc))) : MetW y_L_root mi_L_root h_L_root [.inr (.inl 0), .inl a, .inr (.inl 15)] σ (nI 0) (st σc 15 0 v) := by
  refine metW_of ⟨rfl, rfl⟩ rfl rfl (Nat.le_of_ble_eq_true rfl) (nls ⟨trivial, trivial, trivial, trivial⟩) (fun X hC => ?_)
  refine Go_run ok_L_root hC [] 60 (fun K R1 T1 hK hR hT => ?_)
  conv => whnf
  refine ⟨.inl (_, _), hX, ?_⟩
  conv => whnf
  refine ⟨vp_in_nI (by decide) (by decide), ?_⟩
  conv => whnf
  exact hR _ _ ⟨rfl, rfl⟩
theorem wx_L_root (a : Int32) (σ σc : Mem) {E : String} {k : Nat} (hin : (E, k) ∈ [(eIS, 1), (eIO, 2)]) (hX : MetO y_X_root mi_X_root [.inr (.inl 0), .inl a] σ (.inr (E, σc))) : MetW y_L_root mi_L_root h_L_root [.inr (.inl 0), .inl a, .inr (.inl 15)] σ (nI k) σc := by
  refine metW_of ⟨rfl, rfl⟩ rfl rfl (Nat.le_of_ble_eq_true rfl) (nls ⟨trivial, trivial, trivial, trivial⟩) (fun X hC => ?_)
  refine Go_run ok_L_root hC [] 60 (fun K R1 T1 hK hR hT => ?_)
  conv => whnf
  refine ⟨.inr (_, _), hX, ?_⟩
  refine hT _ _ _ ⟨rfl, ?_⟩
  simp only [List.mem_cons, List.mem_nil_iff, or_false, Prod.mk.injEq] at hin
  rcases hin with hin | hin
  all_goals (obtain ⟨rfl, rfl⟩ := hin)
  · exact ho_L_root_1
  · exact ho_L_root_2
abbrev b_L_freeWords : ByteArray := method_10_code
def y_L_freeWords : MethodName := ⟨"RootedWordsLaw", "freeWords", "(LRootedWords;[J)I"⟩
def h_L_freeWords : List (Nat × Nat × Nat × Nat) := [(0, 8, 11, 13)]
def f_L_freeWords : Nat → Option TE := fun pc => cond (Nat.ble pc 7) (cond (Nat.ble pc 2) (cond (Nat.ble pc 0) (cond (Nat.beq pc 0) (some (.aload_n 1, 1, 1, 0)) none) (cond (Nat.ble pc 1) (cond (Nat.beq pc 1) (some (.iconst 0, 2, 0, nI 0)) none) (cond (Nat.beq pc 2) (some (.aload_n 0, 3, 0, 0)) none))) (cond (Nat.ble pc 3) (cond (Nat.beq pc 3) (some (.invokevirtual 43, 6, 0, 0)) none) (cond (Nat.ble pc 6) (cond (Nat.beq pc 6) (some (.i2l, 7, 0, 0)) none) (cond (Nat.beq pc 7) (some (.lastore, 8, 0, 0)) none)))) (cond (Nat.ble pc 12) (cond (Nat.ble pc 8) (cond (Nat.beq pc 8) (some (.goto 6, 11, 14, 0)) none) (cond (Nat.ble pc 11) (cond (Nat.beq pc 11) (some (.astore_n 2, 12, 2, 0)) none) (cond (Nat.beq pc 12) (some (.iconst 1, 13, 0, nI 1)) none))) (cond (Nat.ble pc 13) (cond (Nat.beq pc 13) (some (.ireturn, 14, 0, 0)) none) (cond (Nat.ble pc 14) (cond (Nat.beq pc 14) (some (.iconst 0, 15, 0, nI 0)) none) (cond (Nat.beq pc 15) (some (.ireturn, 16, 0, 0)) none))))
set_option maxRecDepth 100000 in
theorem k_L_freeWords : (List.range 16).all (fun pc => match f_L_freeWords pc with | none => true | some q => chk b_L_freeWords 3 pc q) = true := by decide +kernel
theorem vw_L_freeWords : Jvm.Cond.static y_L_freeWords ∈ gtbl ∧ Jvm.Cond.initialized (y_L_freeWords).cls ∈ gtbl ∧ Jvm.Cond.codeWith y_L_freeWords b_L_freeWords 3 (some .int) h_L_freeWords ∈ gtbl := ⟨gw 410 (by decide +kernel) rfl, gw 35 (by decide +kernel) rfl, gw 411 (by decide +kernel) rfl⟩
theorem lk_L_43 : Jvm.Cond.methodLink "RootedWordsLaw" 43 y_X_freeWords ∈ gtbl := gw 412 (by decide +kernel) rfl
def mi_L_freeWords : MI := (b_L_freeWords, 3, "RootedWordsLaw", some .int, 4, tbl_of 16 f_L_freeWords, [], [(43, (0, 0, ct_any y_X_freeWords mi_X_freeWords 0))], [])
theorem ok_L_freeWords : MOK mi_L_freeWords := ⟨tbl_ok k_L_freeWords, (fun _ h => absurd h List.not_mem_nil), List.forall_mem_cons.mpr ⟨okV 0 (by decide) (s_any _ _ _ _) rfl (Nat.le_of_ble_eq_true rfl) (Nat.le_of_ble_eq_true rfl) (by decide +kernel) lk_L_43 vv_X_freeWords, (fun _ h => absurd h List.not_mem_nil)⟩⟩
theorem ho_L_freeWords_1 : HOK mi_L_freeWords h_L_freeWords 3 eIS (nI 1) := ⟨[], ⟨0, 8, 11, 13⟩, [], eIS, 2, rfl, (fun _ h => absurd h List.not_mem_nil), rfl, by decide, lc_L_13, dc_eIS, by decide, 1, by decide, Or.inr ⟨2, rfl, by decide +kernel, by decide +kernel, by decide +kernel⟩⟩
theorem w_L_freeWords (σ σc : Mem) (v : Int32) (hX : MetO y_X_freeWords mi_X_freeWords [.inr (.inl 0)] σ (.inl (some (.inl v), σc))) : MetW y_L_freeWords mi_L_freeWords h_L_freeWords [.inr (.inl 0), .inr (.inl 15)] σ (nI 0) (st σc 15 0 v) := by
  refine metW_of ⟨rfl, rfl⟩ rfl rfl (Nat.le_of_ble_eq_true rfl) (nls ⟨trivial, trivial, trivial⟩) (fun X hC => ?_)
  refine Go_run ok_L_freeWords hC [] 60 (fun K R1 T1 hK hR hT => ?_)
  conv => whnf
  refine ⟨.inl (_, _), hX, ?_⟩
  conv => whnf
  refine ⟨vp_in_nI (by decide) (by decide), ?_⟩
  conv => whnf
  exact hR _ _ ⟨rfl, rfl⟩
theorem wx_L_freeWords (σ σc : Mem) {E : String} {k : Nat} (hin : (E, k) ∈ [(eIS, 1)]) (hX : MetO y_X_freeWords mi_X_freeWords [.inr (.inl 0)] σ (.inr (E, σc))) : MetW y_L_freeWords mi_L_freeWords h_L_freeWords [.inr (.inl 0), .inr (.inl 15)] σ (nI k) σc := by
  refine metW_of ⟨rfl, rfl⟩ rfl rfl (Nat.le_of_ble_eq_true rfl) (nls ⟨trivial, trivial, trivial⟩) (fun X hC => ?_)
  refine Go_run ok_L_freeWords hC [] 60 (fun K R1 T1 hK hR hT => ?_)
  conv => whnf
  refine ⟨.inr (_, _), hX, ?_⟩
  refine hT _ _ _ ⟨rfl, ?_⟩
  simp only [List.mem_cons, List.mem_nil_iff, or_false, Prod.mk.injEq] at hin
  rcases hin with hin
  all_goals (obtain ⟨rfl, rfl⟩ := hin)
  · exact ho_L_freeWords_1
abbrev b_L_largestFree : ByteArray := method_11_code
def y_L_largestFree : MethodName := ⟨"RootedWordsLaw", "largestFree", "(LRootedWords;[J)I"⟩
def h_L_largestFree : List (Nat × Nat × Nat × Nat) := [(0, 8, 11, 13)]
def f_L_largestFree : Nat → Option TE := fun pc => cond (Nat.ble pc 7) (cond (Nat.ble pc 2) (cond (Nat.ble pc 0) (cond (Nat.beq pc 0) (some (.aload_n 1, 1, 1, 0)) none) (cond (Nat.ble pc 1) (cond (Nat.beq pc 1) (some (.iconst 0, 2, 0, nI 0)) none) (cond (Nat.beq pc 2) (some (.aload_n 0, 3, 0, 0)) none))) (cond (Nat.ble pc 3) (cond (Nat.beq pc 3) (some (.invokevirtual 47, 6, 0, 0)) none) (cond (Nat.ble pc 6) (cond (Nat.beq pc 6) (some (.i2l, 7, 0, 0)) none) (cond (Nat.beq pc 7) (some (.lastore, 8, 0, 0)) none)))) (cond (Nat.ble pc 12) (cond (Nat.ble pc 8) (cond (Nat.beq pc 8) (some (.goto 6, 11, 14, 0)) none) (cond (Nat.ble pc 11) (cond (Nat.beq pc 11) (some (.astore_n 2, 12, 2, 0)) none) (cond (Nat.beq pc 12) (some (.iconst 1, 13, 0, nI 1)) none))) (cond (Nat.ble pc 13) (cond (Nat.beq pc 13) (some (.ireturn, 14, 0, 0)) none) (cond (Nat.ble pc 14) (cond (Nat.beq pc 14) (some (.iconst 0, 15, 0, nI 0)) none) (cond (Nat.beq pc 15) (some (.ireturn, 16, 0, 0)) none))))
set_option maxRecDepth 100000 in
theorem k_L_largestFree : (List.range 16).all (fun pc => match f_L_largestFree pc with | none => true | some q => chk b_L_largestFree 3 pc q) = true := by decide +kernel
theorem vw_L_largestFree : Jvm.Cond.static y_L_largestFree ∈ gtbl ∧ Jvm.Cond.initialized (y_L_largestFree).cls ∈ gtbl ∧ Jvm.Cond.codeWith y_L_largestFree b_L_largestFree 3 (some .int) h_L_largestFree ∈ gtbl := ⟨gw 417 (by decide +kernel) rfl, gw 35 (by decide +kernel) rfl, gw 418 (by decide +kernel) rfl⟩
theorem lk_L_47 : Jvm.Cond.methodLink "RootedWordsLaw" 47 y_X_largestFree ∈ gtbl := gw 419 (by decide +kernel) rfl
def mi_L_largestFree : MI := (b_L_largestFree, 3, "RootedWordsLaw", some .int, 4, tbl_of 16 f_L_largestFree, [], [(47, (0, 0, ct_any y_X_largestFree mi_X_largestFree 0))], [])
theorem ok_L_largestFree : MOK mi_L_largestFree := ⟨tbl_ok k_L_largestFree, (fun _ h => absurd h List.not_mem_nil), List.forall_mem_cons.mpr ⟨okV 0 (by decide) (s_any _ _ _ _) rfl (Nat.le_of_ble_eq_true rfl) (Nat.le_of_ble_eq_true rfl) (by decide +kernel) lk_L_47 vv_X_largestFree, (fun _ h => absurd h List.not_mem_nil)⟩⟩
theorem ho_L_largestFree_1 : HOK mi_L_largestFree h_L_largestFree 3 eIS (nI 1) := ⟨[], ⟨0, 8, 11, 13⟩, [], eIS, 2, rfl, (fun _ h => absurd h List.not_mem_nil), rfl, by decide, lc_L_13, dc_eIS, by decide, 1, by decide, Or.inr ⟨2, rfl, by decide +kernel, by decide +kernel, by decide +kernel⟩⟩
theorem w_L_largestFree (σ σc : Mem) (v : Int32) (hX : MetO y_X_largestFree mi_X_largestFree [.inr (.inl 0)] σ (.inl (some (.inl v), σc))) : MetW y_L_largestFree mi_L_largestFree h_L_largestFree [.inr (.inl 0), .inr (.inl 15)] σ (nI 0) (st σc 15 0 v) := by
  refine metW_of ⟨rfl, rfl⟩ rfl rfl (Nat.le_of_ble_eq_true rfl) (nls ⟨trivial, trivial, trivial⟩) (fun X hC => ?_)
  refine Go_run ok_L_largestFree hC [] 60 (fun K R1 T1 hK hR hT => ?_)
  conv => whnf
  refine ⟨.inl (_, _), hX, ?_⟩
  conv => whnf
  refine ⟨vp_in_nI (by decide) (by decide), ?_⟩
  conv => whnf
  exact hR _ _ ⟨rfl, rfl⟩
theorem wx_L_largestFree (σ σc : Mem) {E : String} {k : Nat} (hin : (E, k) ∈ [(eIS, 1)]) (hX : MetO y_X_largestFree mi_X_largestFree [.inr (.inl 0)] σ (.inr (E, σc))) : MetW y_L_largestFree mi_L_largestFree h_L_largestFree [.inr (.inl 0), .inr (.inl 15)] σ (nI k) σc := by
  refine metW_of ⟨rfl, rfl⟩ rfl rfl (Nat.le_of_ble_eq_true rfl) (nls ⟨trivial, trivial, trivial⟩) (fun X hC => ?_)
  refine Go_run ok_L_largestFree hC [] 60 (fun K R1 T1 hK hR hT => ?_)
  conv => whnf
  refine ⟨.inr (_, _), hX, ?_⟩
  refine hT _ _ _ ⟨rfl, ?_⟩
  simp only [List.mem_cons, List.mem_nil_iff, or_false, Prod.mk.injEq] at hin
  rcases hin with hin
  all_goals (obtain ⟨rfl, rfl⟩ := hin)
  · exact ho_L_largestFree_1
abbrev b_L_extent : ByteArray := method_12_code
def y_L_extent : MethodName := ⟨"RootedWordsLaw", "extent", "(LRootedWords;I[J)I"⟩
def h_L_extent : List (Nat × Nat × Nat × Nat) := [(0, 9, 12, 13), (0, 9, 15, 29)]
def f_L_extent : Nat → Option TE := fun pc => cond (Nat.ble pc 9) (cond (Nat.ble pc 3) (cond (Nat.ble pc 1) (cond (Nat.ble pc 0) (cond (Nat.beq pc 0) (some (.aload_n 2, 1, 2, 0)) none) (cond (Nat.beq pc 1) (some (.iconst 0, 2, 0, nI 0)) none)) (cond (Nat.ble pc 2) (cond (Nat.beq pc 2) (some (.aload_n 0, 3, 0, 0)) none) (cond (Nat.beq pc 3) (some (.iload_n 1, 4, 1, 0)) none))) (cond (Nat.ble pc 7) (cond (Nat.ble pc 4) (cond (Nat.beq pc 4) (some (.invokevirtual 50, 7, 0, 0)) none) (cond (Nat.beq pc 7) (some (.i2l, 8, 0, 0)) none)) (cond (Nat.ble pc 8) (cond (Nat.beq pc 8) (some (.lastore, 9, 0, 0)) none) (cond (Nat.beq pc 9) (some (.goto 9, 12, 18, 0)) none)))) (cond (Nat.ble pc 15) (cond (Nat.ble pc 13) (cond (Nat.ble pc 12) (cond (Nat.beq pc 12) (some (.astore_n 3, 13, 3, 0)) none) (cond (Nat.beq pc 13) (some (.iconst 1, 14, 0, nI 1)) none)) (cond (Nat.ble pc 14) (cond (Nat.beq pc 14) (some (.ireturn, 15, 0, 0)) none) (cond (Nat.beq pc 15) (some (.astore_n 3, 16, 3, 0)) none))) (cond (Nat.ble pc 17) (cond (Nat.ble pc 16) (cond (Nat.beq pc 16) (some (.iconst 2, 17, 0, nI 2)) none) (cond (Nat.beq pc 17) (some (.ireturn, 18, 0, 0)) none)) (cond (Nat.ble pc 18) (cond (Nat.beq pc 18) (some (.iconst 0, 19, 0, nI 0)) none) (cond (Nat.beq pc 19) (some (.ireturn, 20, 0, 0)) none))))
set_option maxRecDepth 100000 in
theorem k_L_extent : (List.range 20).all (fun pc => match f_L_extent pc with | none => true | some q => chk b_L_extent 4 pc q) = true := by decide +kernel
theorem vw_L_extent : Jvm.Cond.static y_L_extent ∈ gtbl ∧ Jvm.Cond.initialized (y_L_extent).cls ∈ gtbl ∧ Jvm.Cond.codeWith y_L_extent b_L_extent 4 (some .int) h_L_extent ∈ gtbl := ⟨gw 424 (by decide +kernel) rfl, gw 35 (by decide +kernel) rfl, gw 425 (by decide +kernel) rfl⟩
theorem lk_L_50 : Jvm.Cond.methodLink "RootedWordsLaw" 50 y_X_extent ∈ gtbl := gw 426 (by decide +kernel) rfl
def mi_L_extent : MI := (b_L_extent, 4, "RootedWordsLaw", some .int, 4, tbl_of 20 f_L_extent, [], [(50, (0, 1, ct_any y_X_extent mi_X_extent 0))], [])
theorem ok_L_extent : MOK mi_L_extent := ⟨tbl_ok k_L_extent, (fun _ h => absurd h List.not_mem_nil), List.forall_mem_cons.mpr ⟨okV 0 (by decide) (s_any _ _ _ _) rfl (Nat.le_of_ble_eq_true rfl) (Nat.le_of_ble_eq_true rfl) (by decide +kernel) lk_L_50 vv_X_extent, (fun _ h => absurd h List.not_mem_nil)⟩⟩
theorem ho_L_extent_1 : HOK mi_L_extent h_L_extent 4 eIS (nI 1) := ⟨[], ⟨0, 9, 12, 13⟩, [⟨0, 9, 15, 29⟩], eIS, 3, rfl, (fun _ h => absurd h List.not_mem_nil), rfl, by decide, lc_L_13, dc_eIS, by decide, 1, by decide, Or.inr ⟨3, rfl, by decide +kernel, by decide +kernel, by decide +kernel⟩⟩
theorem ho_L_extent_2 : HOK mi_L_extent h_L_extent 4 eIO (nI 2) := ⟨[⟨0, 9, 12, 13⟩], ⟨0, 9, 15, 29⟩, [], eIO, 3, rfl, List.forall_mem_cons.mpr ⟨⟨by decide, eIS, lc_L_13, by decide +kernel⟩, (fun _ h => absurd h List.not_mem_nil)⟩, rfl, by decide, lc_L_29, dc_eIO, by decide, 2, by decide, Or.inr ⟨3, rfl, by decide +kernel, by decide +kernel, by decide +kernel⟩⟩
theorem w_L_extent (a : Int32) (σ σc : Mem) (v : Int32) (hX : MetO y_X_extent mi_X_extent [.inr (.inl 0), .inl a] σ (.inl (some (.inl v), σc))) : MetW y_L_extent mi_L_extent h_L_extent [.inr (.inl 0), .inl a, .inr (.inl 15)] σ (nI 0) (st σc 15 0 v) := by
  refine metW_of ⟨rfl, rfl⟩ rfl rfl (Nat.le_of_ble_eq_true rfl) (nls ⟨trivial, trivial, trivial, trivial⟩) (fun X hC => ?_)
  refine Go_run ok_L_extent hC [] 60 (fun K R1 T1 hK hR hT => ?_)
  conv => whnf
  refine ⟨.inl (_, _), hX, ?_⟩
  conv => whnf
  refine ⟨vp_in_nI (by decide) (by decide), ?_⟩
  conv => whnf
  exact hR _ _ ⟨rfl, rfl⟩
theorem wx_L_extent (a : Int32) (σ σc : Mem) {E : String} {k : Nat} (hin : (E, k) ∈ [(eIS, 1), (eIO, 2)]) (hX : MetO y_X_extent mi_X_extent [.inr (.inl 0), .inl a] σ (.inr (E, σc))) : MetW y_L_extent mi_L_extent h_L_extent [.inr (.inl 0), .inl a, .inr (.inl 15)] σ (nI k) σc := by
  refine metW_of ⟨rfl, rfl⟩ rfl rfl (Nat.le_of_ble_eq_true rfl) (nls ⟨trivial, trivial, trivial, trivial⟩) (fun X hC => ?_)
  refine Go_run ok_L_extent hC [] 60 (fun K R1 T1 hK hR hT => ?_)
  conv => whnf
  refine ⟨.inr (_, _), hX, ?_⟩
  refine hT _ _ _ ⟨rfl, ?_⟩
  simp only [List.mem_cons, List.mem_nil_iff, or_false, Prod.mk.injEq] at hin
  rcases hin with hin | hin
  all_goals (obtain ⟨rfl, rfl⟩ := hin)
  · exact ho_L_extent_1
  · exact ho_L_extent_2
abbrev b_L_reached : ByteArray := method_13_code
def y_L_reached : MethodName := ⟨"RootedWordsLaw", "reached", "(LRootedWords;[J)I"⟩
def h_L_reached : List (Nat × Nat × Nat × Nat) := [(0, 8, 11, 13)]
def f_L_reached : Nat → Option TE := fun pc => cond (Nat.ble pc 7) (cond (Nat.ble pc 2) (cond (Nat.ble pc 0) (cond (Nat.beq pc 0) (some (.aload_n 1, 1, 1, 0)) none) (cond (Nat.ble pc 1) (cond (Nat.beq pc 1) (some (.iconst 0, 2, 0, nI 0)) none) (cond (Nat.beq pc 2) (some (.aload_n 0, 3, 0, 0)) none))) (cond (Nat.ble pc 3) (cond (Nat.beq pc 3) (some (.invokevirtual 53, 6, 0, 0)) none) (cond (Nat.ble pc 6) (cond (Nat.beq pc 6) (some (.i2l, 7, 0, 0)) none) (cond (Nat.beq pc 7) (some (.lastore, 8, 0, 0)) none)))) (cond (Nat.ble pc 12) (cond (Nat.ble pc 8) (cond (Nat.beq pc 8) (some (.goto 6, 11, 14, 0)) none) (cond (Nat.ble pc 11) (cond (Nat.beq pc 11) (some (.astore_n 2, 12, 2, 0)) none) (cond (Nat.beq pc 12) (some (.iconst 1, 13, 0, nI 1)) none))) (cond (Nat.ble pc 13) (cond (Nat.beq pc 13) (some (.ireturn, 14, 0, 0)) none) (cond (Nat.ble pc 14) (cond (Nat.beq pc 14) (some (.iconst 0, 15, 0, nI 0)) none) (cond (Nat.beq pc 15) (some (.ireturn, 16, 0, 0)) none))))
set_option maxRecDepth 100000 in
theorem k_L_reached : (List.range 16).all (fun pc => match f_L_reached pc with | none => true | some q => chk b_L_reached 3 pc q) = true := by decide +kernel
theorem vw_L_reached : Jvm.Cond.static y_L_reached ∈ gtbl ∧ Jvm.Cond.initialized (y_L_reached).cls ∈ gtbl ∧ Jvm.Cond.codeWith y_L_reached b_L_reached 3 (some .int) h_L_reached ∈ gtbl := ⟨gw 432 (by decide +kernel) rfl, gw 35 (by decide +kernel) rfl, gw 433 (by decide +kernel) rfl⟩
theorem lk_L_53 : Jvm.Cond.methodLink "RootedWordsLaw" 53 y_X_reached ∈ gtbl := gw 434 (by decide +kernel) rfl
def mi_L_reached : MI := (b_L_reached, 3, "RootedWordsLaw", some .int, 6, tbl_of 16 f_L_reached, [], [(53, (0, 0, ct_any y_X_reached mi_X_reached 0))], [])
theorem ok_L_reached : MOK mi_L_reached := ⟨tbl_ok k_L_reached, (fun _ h => absurd h List.not_mem_nil), List.forall_mem_cons.mpr ⟨okV 0 (by decide) (s_any _ _ _ _) rfl (Nat.le_of_ble_eq_true rfl) (Nat.le_of_ble_eq_true rfl) (by decide +kernel) lk_L_53 vv_X_reached, (fun _ h => absurd h List.not_mem_nil)⟩⟩
theorem ho_L_reached_1 : HOK mi_L_reached h_L_reached 3 eIS (nI 1) := ⟨[], ⟨0, 8, 11, 13⟩, [], eIS, 2, rfl, (fun _ h => absurd h List.not_mem_nil), rfl, by decide, lc_L_13, dc_eIS, by decide, 1, by decide, Or.inr ⟨2, rfl, by decide +kernel, by decide +kernel, by decide +kernel⟩⟩
theorem w_L_reached (σ σc : Mem) (v : Int32) (hX : MetO y_X_reached mi_X_reached [.inr (.inl 0)] σ (.inl (some (.inl v), σc))) : MetW y_L_reached mi_L_reached h_L_reached [.inr (.inl 0), .inr (.inl 15)] σ (nI 0) (st σc 15 0 v) := by
  refine metW_of ⟨rfl, rfl⟩ rfl rfl (Nat.le_of_ble_eq_true rfl) (nls ⟨trivial, trivial, trivial⟩) (fun X hC => ?_)
  refine Go_run ok_L_reached hC [] 60 (fun K R1 T1 hK hR hT => ?_)
  conv => whnf
  refine ⟨.inl (_, _), hX, ?_⟩
  conv => whnf
  refine ⟨vp_in_nI (by decide) (by decide), ?_⟩
  conv => whnf
  exact hR _ _ ⟨rfl, rfl⟩
theorem wx_L_reached (σ σc : Mem) {E : String} {k : Nat} (hin : (E, k) ∈ [(eIS, 1)]) (hX : MetO y_X_reached mi_X_reached [.inr (.inl 0)] σ (.inr (E, σc))) : MetW y_L_reached mi_L_reached h_L_reached [.inr (.inl 0), .inr (.inl 15)] σ (nI k) σc := by
  refine metW_of ⟨rfl, rfl⟩ rfl rfl (Nat.le_of_ble_eq_true rfl) (nls ⟨trivial, trivial, trivial⟩) (fun X hC => ?_)
  refine Go_run ok_L_reached hC [] 60 (fun K R1 T1 hK hR hT => ?_)
  conv => whnf
  refine ⟨.inr (_, _), hX, ?_⟩
  refine hT _ _ _ ⟨rfl, ?_⟩
  simp only [List.mem_cons, List.mem_nil_iff, or_false, Prod.mk.injEq] at hin
  rcases hin with hin
  all_goals (obtain ⟨rfl, rfl⟩ := hin)
  · exact ho_L_reached_1
abbrev b_L_recover : ByteArray := method_14_code
def y_L_recover : MethodName := ⟨"RootedWordsLaw", "recover", "(LRootedWords;[J)I"⟩
def h_L_recover : List (Nat × Nat × Nat × Nat) := [(0, 8, 11, 13)]
def f_L_recover : Nat → Option TE := fun pc => cond (Nat.ble pc 7) (cond (Nat.ble pc 2) (cond (Nat.ble pc 0) (cond (Nat.beq pc 0) (some (.aload_n 1, 1, 1, 0)) none) (cond (Nat.ble pc 1) (cond (Nat.beq pc 1) (some (.iconst 0, 2, 0, nI 0)) none) (cond (Nat.beq pc 2) (some (.aload_n 0, 3, 0, 0)) none))) (cond (Nat.ble pc 3) (cond (Nat.beq pc 3) (some (.invokevirtual 56, 6, 0, 0)) none) (cond (Nat.ble pc 6) (cond (Nat.beq pc 6) (some (.i2l, 7, 0, 0)) none) (cond (Nat.beq pc 7) (some (.lastore, 8, 0, 0)) none)))) (cond (Nat.ble pc 12) (cond (Nat.ble pc 8) (cond (Nat.beq pc 8) (some (.goto 6, 11, 14, 0)) none) (cond (Nat.ble pc 11) (cond (Nat.beq pc 11) (some (.astore_n 2, 12, 2, 0)) none) (cond (Nat.beq pc 12) (some (.iconst 1, 13, 0, nI 1)) none))) (cond (Nat.ble pc 13) (cond (Nat.beq pc 13) (some (.ireturn, 14, 0, 0)) none) (cond (Nat.ble pc 14) (cond (Nat.beq pc 14) (some (.iconst 0, 15, 0, nI 0)) none) (cond (Nat.beq pc 15) (some (.ireturn, 16, 0, 0)) none))))
set_option maxRecDepth 100000 in
theorem k_L_recover : (List.range 16).all (fun pc => match f_L_recover pc with | none => true | some q => chk b_L_recover 3 pc q) = true := by decide +kernel
theorem vw_L_recover : Jvm.Cond.static y_L_recover ∈ gtbl ∧ Jvm.Cond.initialized (y_L_recover).cls ∈ gtbl ∧ Jvm.Cond.codeWith y_L_recover b_L_recover 3 (some .int) h_L_recover ∈ gtbl := ⟨gw 451 (by decide +kernel) rfl, gw 35 (by decide +kernel) rfl, gw 452 (by decide +kernel) rfl⟩
theorem lk_L_56 : Jvm.Cond.methodLink "RootedWordsLaw" 56 y_X_recover ∈ gtbl := gw 453 (by decide +kernel) rfl
def mi_L_recover : MI := (b_L_recover, 3, "RootedWordsLaw", some .int, 6, tbl_of 16 f_L_recover, [], [(56, (0, 0, ct_any y_X_recover mi_X_recover 0))], [])
theorem ok_L_recover : MOK mi_L_recover := ⟨tbl_ok k_L_recover, (fun _ h => absurd h List.not_mem_nil), List.forall_mem_cons.mpr ⟨okV 0 (by decide) (s_any _ _ _ _) rfl (Nat.le_of_ble_eq_true rfl) (Nat.le_of_ble_eq_true rfl) (by decide +kernel) lk_L_56 vv_X_recover, (fun _ h => absurd h List.not_mem_nil)⟩⟩
theorem ho_L_recover_1 : HOK mi_L_recover h_L_recover 3 eIS (nI 1) := ⟨[], ⟨0, 8, 11, 13⟩, [], eIS, 2, rfl, (fun _ h => absurd h List.not_mem_nil), rfl, by decide, lc_L_13, dc_eIS, by decide, 1, by decide, Or.inr ⟨2, rfl, by decide +kernel, by decide +kernel, by decide +kernel⟩⟩
theorem w_L_recover (σ σc : Mem) (v : Int32) (hX : MetO y_X_recover mi_X_recover [.inr (.inl 0)] σ (.inl (some (.inl v), σc))) : MetW y_L_recover mi_L_recover h_L_recover [.inr (.inl 0), .inr (.inl 15)] σ (nI 0) (st σc 15 0 v) := by
  refine metW_of ⟨rfl, rfl⟩ rfl rfl (Nat.le_of_ble_eq_true rfl) (nls ⟨trivial, trivial, trivial⟩) (fun X hC => ?_)
  refine Go_run ok_L_recover hC [] 60 (fun K R1 T1 hK hR hT => ?_)
  conv => whnf
  refine ⟨.inl (_, _), hX, ?_⟩
  conv => whnf
  refine ⟨vp_in_nI (by decide) (by decide), ?_⟩
  conv => whnf
  exact hR _ _ ⟨rfl, rfl⟩
theorem wx_L_recover (σ σc : Mem) {E : String} {k : Nat} (hin : (E, k) ∈ [(eIS, 1)]) (hX : MetO y_X_recover mi_X_recover [.inr (.inl 0)] σ (.inr (E, σc))) : MetW y_L_recover mi_L_recover h_L_recover [.inr (.inl 0), .inr (.inl 15)] σ (nI k) σc := by
  refine metW_of ⟨rfl, rfl⟩ rfl rfl (Nat.le_of_ble_eq_true rfl) (nls ⟨trivial, trivial, trivial⟩) (fun X hC => ?_)
  refine Go_run ok_L_recover hC [] 60 (fun K R1 T1 hK hR hT => ?_)
  conv => whnf
  refine ⟨.inr (_, _), hX, ?_⟩
  refine hT _ _ _ ⟨rfl, ?_⟩
  simp only [List.mem_cons, List.mem_nil_iff, or_false, Prod.mk.injEq] at hin
  rcases hin with hin
  all_goals (obtain ⟨rfl, rfl⟩ := hin)
  · exact ho_L_recover_1
end
