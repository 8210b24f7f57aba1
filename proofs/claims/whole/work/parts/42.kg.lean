/-! ===== what the tables say at the law's start ===== -/
theorem kg_arrI {args : Array Value} {s : State} (h : (Jvm.Cond.arrayClass .int).before args s = true) : ∃ cA, ArrOfT s cA .int ∧ va_RA s cA .int := by
  obtain ⟨cA, kA, comp, h1, h2, h3⟩ := Cond.arrayClass_spec h
  exact ⟨cA, fun n z => ⟨fun k h => (by cases h), kA, h2, comp, h3⟩, h1⟩
theorem kg_arrB {args : Array Value} {s : State} (h : (Jvm.Cond.arrayClass .boolean).before args s = true) : ∃ cA, ArrOfT s cA .boolean ∧ va_RA s cA .boolean := by
  obtain ⟨cA, kA, comp, h1, h2, h3⟩ := Cond.arrayClass_spec h
  exact ⟨cA, fun n z => ⟨fun k h => (by cases h), kA, h2, comp, h3⟩, h1⟩
theorem kg_arrL {args : Array Value} {s : State} (h : (Jvm.Cond.arrayClass .long).before args s = true) : ∃ cA, ArrOfT s cA .long ∧ va_RA s cA .long := by
  obtain ⟨cA, kA, comp, h1, h2, h3⟩ := Cond.arrayClass_spec h
  exact ⟨cA, fun n z => ⟨fun k h => (by cases h), kA, h2, comp, h3⟩, h1⟩
theorem kg_str {args : Array Value} {s : State} {own : String} {k : Nat} {tx : String} {cur : Nat} (hcur : s.vm.findClass own = some cur) (h : (Jvm.Cond.stringRef own k tx).before args s = true) : ∃ sa, vk_R own k tx sa s := by
  obtain ⟨_, _, _, a, _, _, _, _, _, h2⟩ := Cond.stringRef_spec hcur h
  exact ⟨a, vk_R.of h h2⟩
def K3 (D : va_G) (cI cB cL : ClassId) (s : State) : Prop := va_K D classes [(cI, .int), (cB, .boolean), (cL, .long)] s ∧ (∀ w ∈ dtbl, va_Nw w s) ∧ (∀ q ∈ strs, ∃ sa, vk_R q.1 q.2.1 q.2.2 sa s) ∧ (∀ q ∈ ncs, va_Nc q.1 q.2 s) ∧
  vx_Zq Bundle.tN "UNASSIGNED_STACK" Bundle.steD (fun q => s.heap.size ≤ q) s s.heap ∧ vx_Zq Bundle.tN "SUPPRESSED_SENTINEL" Bundle.listD (fun q => s.heap.size ≤ q) s s.heap ∧ va_Nw (.methodLinkNest R_X 11 y_D_init "RootedWords") s
set_option maxHeartbeats 4000000 in
set_option maxRecDepth 100000 in
theorem kg0 {p : Program} {s : State} {m : MethodId} {meth : Method} {c : Code} {b L : Nat} {xs : Nat → Int32} (C0 : lw_At p s m meth c b L xs) : ∃ (D : va_G) (cI cB cL : ClassId), K3 D cI cB cL s := by
  obtain ⟨hx, hb, hr, hml, hown, hts, hX, hbl, hlocks, hgv⟩ := C0
  have hs := flat_of_before _ hgv
  obtain ⟨c0, iS0, hKn0⟩ := u_known (C := R_X) (T := F_X) (N := 4) (n := 4) hts i_X (hts (Jvm.Cond.instantiable "RootedWords" (4 : Nat)) (List.mem_of_getElem? (i := 49) (by decide +kernel)))
  obtain ⟨c1, iS1, hKn1⟩ := u_known (C := R_D) (T := F_D) (N := 5) (n := 5) hts i_D (hts (Jvm.Cond.instantiable "RootedWords$Disk" (5 : Nat)) (List.mem_of_getElem? (i := 57) (by decide +kernel)))
  obtain ⟨c2, iS2, hKn2⟩ := u_known (C := R_M) (T := F_M) (N := 13) (n := 13) hts i_M (hts (Jvm.Cond.instantiable "RootedWordsModel" (13 : Nat)) (List.mem_of_getElem? (i := 475) (by decide +kernel)))
  obtain ⟨cI, hI1, hI2⟩ := kg_arrI (hts (Jvm.Cond.arrayClass Jvm.ClassFile.FieldType.int) (List.mem_of_getElem? (i := 78) (by decide +kernel)))
  obtain ⟨cB, hB1, hB2⟩ := kg_arrB (hts (Jvm.Cond.arrayClass Jvm.ClassFile.FieldType.boolean) (List.mem_of_getElem? (i := 520) (by decide +kernel)))
  obtain ⟨cL, hL1, hL2⟩ := kg_arrL (hts (Jvm.Cond.arrayClass Jvm.ClassFile.FieldType.long) (List.mem_of_getElem? (i := 636) (by decide +kernel)))
  refine ⟨(fun k => match k with | 0 => c0 | 1 => c1 | _ => c2, fun k => match k with | 0 => iS0 | 1 => iS1 | _ => iS2), cI, cB, cL, ⟨fun k q hq => ?_, fun k q hq => ?_⟩, fun w hw => va_Nw.of (nw_tab (List.mem_filter.mp hw).2) (hts w (List.mem_filter.mp hw).1), fun q hq => ?_, fun q hq => ?_, ?_, ?_, ?_⟩
  · match k, hq with
    | 0, hq => cases hq; exact hKn0
    | 1, hq => cases hq; exact hKn1
    | 2, hq => cases hq; exact hKn2
    | k + 3, hq => simp [classes] at hq
  · match k, hq with
    | 0, hq => cases hq; exact ⟨hI1, hI2⟩
    | 1, hq => cases hq; exact ⟨hB1, hB2⟩
    | 2, hq => cases hq; exact ⟨hL1, hL2⟩
    | k + 3, hq => simp at hq
  · simp only [strs, List.mem_cons, List.mem_nil_iff, or_false] at hq
    rcases hq with rfl | rfl | rfl | rfl | rfl | rfl | rfl | rfl | rfl | rfl
    · exact kg_str (hKn0.2.1 : s.vm.findClass R_X = some _) (hts _ (List.mem_of_getElem? (i := 216) (by decide +kernel)))
    · exact kg_str (hKn0.2.1 : s.vm.findClass R_X = some _) (hts _ (List.mem_of_getElem? (i := 223) (by decide +kernel)))
    · exact kg_str (hKn0.2.1 : s.vm.findClass R_X = some _) (hts _ (List.mem_of_getElem? (i := 264) (by decide +kernel)))
    · exact kg_str (hKn0.2.1 : s.vm.findClass R_X = some _) (hts _ (List.mem_of_getElem? (i := 367) (by decide +kernel)))
    · exact kg_str (hKn0.2.1 : s.vm.findClass R_X = some _) (hts _ (List.mem_of_getElem? (i := 430) (by decide +kernel)))
    · exact kg_str (hKn0.2.1 : s.vm.findClass R_X = some _) (hts _ (List.mem_of_getElem? (i := 180) (by decide +kernel)))
    · exact kg_str (hKn0.2.1 : s.vm.findClass R_X = some _) (hts _ (List.mem_of_getElem? (i := 324) (by decide +kernel)))
    · exact kg_str (hKn0.2.1 : s.vm.findClass R_X = some _) (hts _ (List.mem_of_getElem? (i := 356) (by decide +kernel)))
    · exact kg_str (hKn0.2.1 : s.vm.findClass R_X = some _) (hts _ (List.mem_of_getElem? (i := 397) (by decide +kernel)))
    · exact kg_str (hKn1.2.1 : s.vm.findClass R_D = some _) (hts _ (List.mem_of_getElem? (i := 280) (by decide +kernel)))
  · simp only [ncs, List.mem_cons, List.mem_nil_iff, or_false] at hq
    rcases hq with rfl | rfl | rfl | rfl | rfl | rfl | rfl | rfl | rfl
    · exact va_Nc.of (hs (.not (.castable eIA eIS)) (by decide +kernel))
    · exact va_Nc.of (hs (.not (.castable eUO eIS)) (by decide +kernel))
    · exact va_Nc.of (hs (.not (.castable eUO eIA)) (by decide +kernel))
    · exact va_Nc.of (hs (.not (.castable eNE eIS)) (by decide +kernel))
    · exact va_Nc.of (hs (.not (.castable eIO eIS)) (by decide +kernel))
    · exact va_Nc.of (hs (.not (.castable eIO eNE)) (by decide +kernel))
    · exact va_Nc.of (hs (.not (.castable eIA eNE)) (by decide +kernel))
    · exact va_Nc.of (hs (.not (.castable eIA eIO)) (by decide +kernel))
    · exact va_Nc.of (hs (.not (.castable eNE eIO)) (by decide +kernel))
  · exact vx_Zqof (hts (Jvm.Cond.laysStatic "java/lang/Throwable" "UNASSIGNED_STACK" "[Ljava/lang/StackTraceElement;") (List.mem_of_getElem? (i := 164) (by decide +kernel))) (hts (Jvm.Cond.initialized "java/lang/Throwable") (List.mem_of_getElem? (i := 39) (by decide +kernel))) (hs _ (by decide +kernel)) (fun a ha => Nat.not_le.mpr ha)
  · exact vx_Zqof (hts (Jvm.Cond.laysStatic "java/lang/Throwable" "SUPPRESSED_SENTINEL" "Ljava/util/List;") (List.mem_of_getElem? (i := 166) (by decide +kernel))) (hts (Jvm.Cond.initialized "java/lang/Throwable") (List.mem_of_getElem? (i := 39) (by decide +kernel))) (hs _ (by decide +kernel)) (fun a ha => Nat.not_le.mpr ha)
  · exact va_Nw.of rfl (hts (Jvm.Cond.methodLinkNest "RootedWords" (11 : Nat) ({ cls := "RootedWords$Disk", name := "<init>", desc := "()V" } : Jvm.MethodName) "RootedWords") (List.mem_of_getElem? (i := 58) (by decide +kernel)))
