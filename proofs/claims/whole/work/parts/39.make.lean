/-! ===== the makers: printed by a program ===== -/
theorem arr_sameI {D : va_G} {cl : List vw_C} {tys : List (ClassId × FieldType)} {s : State} {cA cI : ClassId} (hK : va_K D cl tys s) (i j : Nat) (h1 : tys[i]? = some (cA, .int)) (h2 : tys[j]? = some (cI, .int)) : cA = cI := by
  have a := (hK.2 i _ h1).2
  have b := (hK.2 j _ h2).2
  exact Option.some.inj (a.symm.trans b)
theorem arr_sameB {D : va_G} {cl : List vw_C} {tys : List (ClassId × FieldType)} {s : State} {cA cI : ClassId} (hK : va_K D cl tys s) (i j : Nat) (h1 : tys[i]? = some (cA, .boolean)) (h2 : tys[j]? = some (cI, .boolean)) : cA = cI := by
  have a := (hK.2 i _ h1).2
  have b := (hK.2 j _ h2).2
  exact Option.some.inj (a.symm.trans b)
def wsI0 (y : MethodName) (b : ByteArray) : List Jvm.Cond := .code y b 1 none :: gtbl
theorem i_MG : ∀ w ∈ u_ws R_M F_M 13, w ∈ gtbl := c_inG (ci := 2) (by decide)
def y_M_init : MethodName := ⟨"RootedWordsModel", "<init>", "()V"⟩
abbrev b_M_init : ByteArray := prog_4_method_1_code
def mdWM (cI cB : ClassId) (h0 : Nat) (u : Nat × Nat × Nat × Nat × Nat × Nat × Nat) : va_W := match u with | (q12, q20, q28, q36, q44, q53, q61) => [(h0, .inr (2, [.int 0, .int 1, .ref q12, .ref q20, .ref q28, .ref q36, .ref q44, .ref q53, .ref q61, .int 0, .int (-1), .int 0, .int 0])), (q12, .inl (cI, 86, .inl (upd (fun _ => 0) 0 (1)))), (q20, .inl (cI, 86, .inl (upd (fun _ => 0) 0 (nI 256)))), (q28, .inl (cB, 86, .inl (fun _ => 0))), (q36, .inl (cI, 86, .inl (fun _ => 0))), (q44, .inl (cB, 86, .inl (fun _ => 0))), (q53, .inl (cI, 257, .inl (fun _ => 0))), (q61, .inl (cI, 8, .inl (fun _ => 0)))]
def mdW0M (h0 : Nat) : va_W := [(h0, .inr (2, [.int 0, .int 0, .null, .null, .null, .null, .null, .null, .null, .int 0, .int 0, .int 0, .int 0]))]
set_option maxHeartbeats 4000000 in
set_option maxRecDepth 100000 in
theorem c_M_init (l : Launch) (D : va_G) (cI cB : ClassId) (h0 sz : Nat) : Met l y_M_init (wsI0 y_M_init b_M_init) ({ frames := 1, cells := 7, slots := 695, locals := 12 }) (va_Pc [.ref h0] (fun U => U.heap.size = sz ∧ va_P D classes (mdW0M h0) U.heap ∧ va_K D classes [(cI, .int), (cB, .boolean)] U ∧ va_D (fun _ => True) (mdW0M h0))) (va_Qv (fun _ : Nat × Nat × Nat × Nat × Nat × Nat × Nat => True) (fun u t => va_P D classes (mdWM cI cB h0 u) t.heap ∧ va_D (va_A (mdW0M h0) sz) (mdWM cI cB h0 u)) (va_A (mdW0M h0) sz)) 7 695 (va_A (mdW0M h0) sz) := by
  refine Met.ofW (cc := b_M_init) (maxL := 1) (ret := none) (by decide) rfl ?_
  intro p e s m args below meth c s₁ B hml hv
  obtain ⟨rfl, hsz, hP, hK, hD0⟩ := hv
  have hx := B.exec
  have hb := B.bytes
  have hr := B.returns
  have hts0 := atoms_spec (ws := wsI0 y_M_init b_M_init) B.pre
  have hts : ∀ w ∈ gtbl, w.before _ s = true := fun w hw => hts0 w (List.mem_cons_of_mem _ hw)
  have hown : s.vm.findClass R_M = some m.cls := findClass_of_methodNamed B.named
  have hlocks := B.notSynchronized
  have hin : meth.name = "<init>" := (name_of_methodNamed B.named B.method).1
  subst hsz
  have hD := hD0.self (sz := s.heap.size)
  generalize hAe : va_A (mdW0M h0) s.heap.size = A at hD ⊢
  have hA : ∀ q : Nat, s.heap.size ≤ q → A q := fun q h => by rw [← hAe]; exact Or.inr h
  have hS : va_S A s.heap s.heap [] := va_S.rf
  have hP : va_P D classes [(h0, .inr (2, [.int 0, .int 0, .null, .null, .null, .null, .null, .null, .null, .int 0, .int 0, .int 0, .int 0]))] s.heap := hP
  have hD : va_D A [(h0, .inr (2, [.int 0, .int 0, .null, .null, .null, .null, .null, .null, .null, .int 0, .int 0, .int 0, .int 0]))] := hD
  have hl := lv_entry ([.ref h0]) (n := 1) (Nat.le_of_ble_eq_true rfl)
  rw [lg_entry_eq]
  generalize (lg_sl ([.ref h0]) ++ List.replicate (1 - (lg_sl ([.ref h0])).length) Slot.unset).toArray = ls at hl ⊢
  have hl : lv_has ls 1 [(0, .ref h0)] := hl
  refine lv_aload_n hx hb (show decode b_M_init 0 = .ok (.aload_n 0, 1) by decide +kernel) rfl (lv_at hl 0 rfl) ?_
  refine W.objInit hx hb hown (hts (Jvm.Cond.methodLink "RootedWordsModel" (1 : Nat) ({ cls := "java/lang/Object", name := "<init>", desc := "()V" } : Jvm.MethodName)) (gw 479 (by decide +kernel) rfl)) (hts (Jvm.Cond.instanceMethod ({ cls := "java/lang/Object", name := "<init>", desc := "()V" } : Jvm.MethodName)) (gw 54 (by decide +kernel) rfl)) (hts (Jvm.Cond.code ({ cls := "java/lang/Object", name := "<init>", desc := "()V" } : Jvm.MethodName) object_method_1_code (1 : Nat) (Option.none : Option Jvm.ClassFile.FieldType)) (gw 55 (by decide +kernel) rfl)) rfl (by rw [hml]; exact hl.1) rfl (show decode b_M_init 1 = .ok (.invokespecial 1, 3) by decide +kernel) (Nat.le_of_ble_eq_true rfl) (Nat.le_of_ble_eq_true rfl) ?_
  refine W.eq (g2 := F0 m 4 ls []) rfl ?_
  refine lv_aload_n hx hb (show decode b_M_init 4 = .ok (.aload_n 0, 1) by decide +kernel) rfl (lv_at hl 0 rfl) ?_
  refine lv_iconst (v := 1) hx hb (show decode b_M_init 5 = .ok (.iconst 1, 1) by decide +kernel) (by decide) ?_
  refine va_put (D := D) (ci := 2) (v := .int 1) (ty := .int) (C := R_M) (T := F_M) (N := 13) hx hb hts i_MG t_M t_M_ok n_M hown hK hP hD hS 0 rfl rfl 1 (by decide) (hts (Jvm.Cond.fieldLink "RootedWordsModel" (7 : Nat) "RootedWordsModel" "extents" "I") (gw 481 (by decide +kernel) rfl)) (fun _ h9 => h9) rfl (by decide +kernel) rfl rfl (Nat.le_of_ble_eq_true rfl) (show decode b_M_init 6 = .ok (.putfield 7, 3) by decide +kernel) (fun H locs hP hD hS => ?_)
  have hP : va_P D classes [(h0, .inr (2, [.int 0, .int 1, .null, .null, .null, .null, .null, .null, .null, .int 0, .int 0, .int 0, .int 0]))] H := hP
  have hD : va_D A [(h0, .inr (2, [.int 0, .int 1, .null, .null, .null, .null, .null, .null, .null, .int 0, .int 0, .int 0, .int 0]))] := hD
  refine lv_aload_n hx hb (show decode b_M_init 9 = .ok (.aload_n 0, 1) by decide +kernel) rfl (lv_at hl 0 rfl) ?_
  refine lv_bipush (v := nI 86) hx hb (show decode b_M_init 10 = .ok (.bipush 86, 2) by decide +kernel) (by decide) ?_
  refine va_newa (atype := .int) (ty := .int) (N' := 86) (a0 := (86, .inl (fun _ => 0))) hx hb (hts (Jvm.Cond.arrayClass Jvm.ClassFile.FieldType.int) (gw 78 (by decide +kernel) rfl)) rfl hK hP hD hS hA (fun _ => rfl) (by decide) (nI_clamp (by decide)) (Nat.le_of_ble_eq_true rfl) (by show _ ≤ 7; decide) (by show _ ≤ 695; decide) (show decode b_M_init 12 = .ok (.newarray .int, 2) by decide +kernel) (fun q12 cA H hK9 hP hD hS => ?_)
  obtain rfl : cI = cA := (arr_sameI hK9 2 0 rfl rfl).symm
  have hP : va_P D classes [(h0, .inr (2, [.int 0, .int 1, .null, .null, .null, .null, .null, .null, .null, .int 0, .int 0, .int 0, .int 0])), (q12, .inl (cI, 86, .inl (fun _ => 0)))] H := hP
  have hD : va_D A [(h0, .inr (2, [.int 0, .int 1, .null, .null, .null, .null, .null, .null, .null, .int 0, .int 0, .int 0, .int 0])), (q12, .inl (cI, 86, .inl (fun _ => 0)))] := hD
  refine va_putF (D := D) (ci := 2) (v := .ref q12) (ty := .array .int) (C := R_M) (T := F_M) (N := 13) hx hb hts i_MG t_M t_M_ok n_M hown hK hP hD hS 0 rfl rfl 2 (by decide) (hts (Jvm.Cond.fieldLink "RootedWordsModel" (13 : Nat) "RootedWordsModel" "starts" "[I") (gw 482 (by decide +kernel) rfl)) (fun _ h9 => h9) rfl hin rfl (by decide +kernel) rfl rfl (Nat.le_of_ble_eq_true rfl) (show decode b_M_init 14 = .ok (.putfield 13, 3) by decide +kernel) (fun H locs hP hD hS => ?_)
  have hP : va_P D classes [(h0, .inr (2, [.int 0, .int 1, .ref q12, .null, .null, .null, .null, .null, .null, .int 0, .int 0, .int 0, .int 0])), (q12, .inl (cI, 86, .inl (fun _ => 0)))] H := hP
  have hD : va_D A [(h0, .inr (2, [.int 0, .int 1, .ref q12, .null, .null, .null, .null, .null, .null, .int 0, .int 0, .int 0, .int 0])), (q12, .inl (cI, 86, .inl (fun _ => 0)))] := hD
  refine lv_aload_n hx hb (show decode b_M_init 17 = .ok (.aload_n 0, 1) by decide +kernel) rfl (lv_at hl 0 rfl) ?_
  refine lv_bipush (v := nI 86) hx hb (show decode b_M_init 18 = .ok (.bipush 86, 2) by decide +kernel) (by decide) ?_
  refine va_newa (atype := .int) (ty := .int) (N' := 86) (a0 := (86, .inl (fun _ => 0))) hx hb (hts (Jvm.Cond.arrayClass Jvm.ClassFile.FieldType.int) (gw 78 (by decide +kernel) rfl)) rfl hK hP hD hS hA (fun _ => rfl) (by decide) (nI_clamp (by decide)) (Nat.le_of_ble_eq_true rfl) (by show _ ≤ 7; decide) (by show _ ≤ 695; decide) (show decode b_M_init 20 = .ok (.newarray .int, 2) by decide +kernel) (fun q20 cA H hK9 hP hD hS => ?_)
  obtain rfl : cI = cA := (arr_sameI hK9 2 0 rfl rfl).symm
  have hP : va_P D classes [(h0, .inr (2, [.int 0, .int 1, .ref q12, .null, .null, .null, .null, .null, .null, .int 0, .int 0, .int 0, .int 0])), (q12, .inl (cI, 86, .inl (fun _ => 0))), (q20, .inl (cI, 86, .inl (fun _ => 0)))] H := hP
  have hD : va_D A [(h0, .inr (2, [.int 0, .int 1, .ref q12, .null, .null, .null, .null, .null, .null, .int 0, .int 0, .int 0, .int 0])), (q12, .inl (cI, 86, .inl (fun _ => 0))), (q20, .inl (cI, 86, .inl (fun _ => 0)))] := hD
  refine va_putF (D := D) (ci := 2) (v := .ref q20) (ty := .array .int) (C := R_M) (T := F_M) (N := 13) hx hb hts i_MG t_M t_M_ok n_M hown hK hP hD hS 0 rfl rfl 3 (by decide) (hts (Jvm.Cond.fieldLink "RootedWordsModel" (17 : Nat) "RootedWordsModel" "lengths" "[I") (gw 483 (by decide +kernel) rfl)) (fun _ h9 => h9) rfl hin rfl (by decide +kernel) rfl rfl (Nat.le_of_ble_eq_true rfl) (show decode b_M_init 22 = .ok (.putfield 17, 3) by decide +kernel) (fun H locs hP hD hS => ?_)
  have hP : va_P D classes [(h0, .inr (2, [.int 0, .int 1, .ref q12, .ref q20, .null, .null, .null, .null, .null, .int 0, .int 0, .int 0, .int 0])), (q12, .inl (cI, 86, .inl (fun _ => 0))), (q20, .inl (cI, 86, .inl (fun _ => 0)))] H := hP
  have hD : va_D A [(h0, .inr (2, [.int 0, .int 1, .ref q12, .ref q20, .null, .null, .null, .null, .null, .int 0, .int 0, .int 0, .int 0])), (q12, .inl (cI, 86, .inl (fun _ => 0))), (q20, .inl (cI, 86, .inl (fun _ => 0)))] := hD
  refine lv_aload_n hx hb (show decode b_M_init 25 = .ok (.aload_n 0, 1) by decide +kernel) rfl (lv_at hl 0 rfl) ?_
  refine lv_bipush (v := nI 86) hx hb (show decode b_M_init 26 = .ok (.bipush 86, 2) by decide +kernel) (by decide) ?_
  refine va_newa (atype := .boolean) (ty := .boolean) (N' := 86) (a0 := (86, .inl (fun _ => 0))) hx hb (hts (Jvm.Cond.arrayClass Jvm.ClassFile.FieldType.boolean) (gw 520 (by decide +kernel) rfl)) rfl hK hP hD hS hA (fun _ => rfl) (by decide) (nI_clamp (by decide)) (Nat.le_of_ble_eq_true rfl) (by show _ ≤ 7; decide) (by show _ ≤ 695; decide) (show decode b_M_init 28 = .ok (.newarray .boolean, 2) by decide +kernel) (fun q28 cA H hK9 hP hD hS => ?_)
  obtain rfl : cB = cA := (arr_sameB hK9 2 1 rfl rfl).symm
  have hP : va_P D classes [(h0, .inr (2, [.int 0, .int 1, .ref q12, .ref q20, .null, .null, .null, .null, .null, .int 0, .int 0, .int 0, .int 0])), (q12, .inl (cI, 86, .inl (fun _ => 0))), (q20, .inl (cI, 86, .inl (fun _ => 0))), (q28, .inl (cB, 86, .inl (fun _ => 0)))] H := hP
  have hD : va_D A [(h0, .inr (2, [.int 0, .int 1, .ref q12, .ref q20, .null, .null, .null, .null, .null, .int 0, .int 0, .int 0, .int 0])), (q12, .inl (cI, 86, .inl (fun _ => 0))), (q20, .inl (cI, 86, .inl (fun _ => 0))), (q28, .inl (cB, 86, .inl (fun _ => 0)))] := hD
  refine va_putF (D := D) (ci := 2) (v := .ref q28) (ty := .array .boolean) (C := R_M) (T := F_M) (N := 13) hx hb hts i_MG t_M t_M_ok n_M hown hK hP hD hS 0 rfl rfl 4 (by decide) (hts (Jvm.Cond.fieldLink "RootedWordsModel" (20 : Nat) "RootedWordsModel" "used" "[Z") (gw 484 (by decide +kernel) rfl)) (fun _ h9 => h9) rfl hin rfl (by decide +kernel) rfl rfl (Nat.le_of_ble_eq_true rfl) (show decode b_M_init 30 = .ok (.putfield 20, 3) by decide +kernel) (fun H locs hP hD hS => ?_)
  have hP : va_P D classes [(h0, .inr (2, [.int 0, .int 1, .ref q12, .ref q20, .ref q28, .null, .null, .null, .null, .int 0, .int 0, .int 0, .int 0])), (q12, .inl (cI, 86, .inl (fun _ => 0))), (q20, .inl (cI, 86, .inl (fun _ => 0))), (q28, .inl (cB, 86, .inl (fun _ => 0)))] H := hP
  have hD : va_D A [(h0, .inr (2, [.int 0, .int 1, .ref q12, .ref q20, .ref q28, .null, .null, .null, .null, .int 0, .int 0, .int 0, .int 0])), (q12, .inl (cI, 86, .inl (fun _ => 0))), (q20, .inl (cI, 86, .inl (fun _ => 0))), (q28, .inl (cB, 86, .inl (fun _ => 0)))] := hD
  refine lv_aload_n hx hb (show decode b_M_init 33 = .ok (.aload_n 0, 1) by decide +kernel) rfl (lv_at hl 0 rfl) ?_
  refine lv_bipush (v := nI 86) hx hb (show decode b_M_init 34 = .ok (.bipush 86, 2) by decide +kernel) (by decide) ?_
  refine va_newa (atype := .int) (ty := .int) (N' := 86) (a0 := (86, .inl (fun _ => 0))) hx hb (hts (Jvm.Cond.arrayClass Jvm.ClassFile.FieldType.int) (gw 78 (by decide +kernel) rfl)) rfl hK hP hD hS hA (fun _ => rfl) (by decide) (nI_clamp (by decide)) (Nat.le_of_ble_eq_true rfl) (by show _ ≤ 7; decide) (by show _ ≤ 695; decide) (show decode b_M_init 36 = .ok (.newarray .int, 2) by decide +kernel) (fun q36 cA H hK9 hP hD hS => ?_)
  obtain rfl : cI = cA := (arr_sameI hK9 2 0 rfl rfl).symm
  have hP : va_P D classes [(h0, .inr (2, [.int 0, .int 1, .ref q12, .ref q20, .ref q28, .null, .null, .null, .null, .int 0, .int 0, .int 0, .int 0])), (q12, .inl (cI, 86, .inl (fun _ => 0))), (q20, .inl (cI, 86, .inl (fun _ => 0))), (q28, .inl (cB, 86, .inl (fun _ => 0))), (q36, .inl (cI, 86, .inl (fun _ => 0)))] H := hP
  have hD : va_D A [(h0, .inr (2, [.int 0, .int 1, .ref q12, .ref q20, .ref q28, .null, .null, .null, .null, .int 0, .int 0, .int 0, .int 0])), (q12, .inl (cI, 86, .inl (fun _ => 0))), (q20, .inl (cI, 86, .inl (fun _ => 0))), (q28, .inl (cB, 86, .inl (fun _ => 0))), (q36, .inl (cI, 86, .inl (fun _ => 0)))] := hD
  refine va_putF (D := D) (ci := 2) (v := .ref q36) (ty := .array .int) (C := R_M) (T := F_M) (N := 13) hx hb hts i_MG t_M t_M_ok n_M hown hK hP hD hS 0 rfl rfl 5 (by decide) (hts (Jvm.Cond.fieldLink "RootedWordsModel" (24 : Nat) "RootedWordsModel" "pointers" "[I") (gw 485 (by decide +kernel) rfl)) (fun _ h9 => h9) rfl hin rfl (by decide +kernel) rfl rfl (Nat.le_of_ble_eq_true rfl) (show decode b_M_init 38 = .ok (.putfield 24, 3) by decide +kernel) (fun H locs hP hD hS => ?_)
  have hP : va_P D classes [(h0, .inr (2, [.int 0, .int 1, .ref q12, .ref q20, .ref q28, .ref q36, .null, .null, .null, .int 0, .int 0, .int 0, .int 0])), (q12, .inl (cI, 86, .inl (fun _ => 0))), (q20, .inl (cI, 86, .inl (fun _ => 0))), (q28, .inl (cB, 86, .inl (fun _ => 0))), (q36, .inl (cI, 86, .inl (fun _ => 0)))] H := hP
  have hD : va_D A [(h0, .inr (2, [.int 0, .int 1, .ref q12, .ref q20, .ref q28, .ref q36, .null, .null, .null, .int 0, .int 0, .int 0, .int 0])), (q12, .inl (cI, 86, .inl (fun _ => 0))), (q20, .inl (cI, 86, .inl (fun _ => 0))), (q28, .inl (cB, 86, .inl (fun _ => 0))), (q36, .inl (cI, 86, .inl (fun _ => 0)))] := hD
  refine lv_aload_n hx hb (show decode b_M_init 41 = .ok (.aload_n 0, 1) by decide +kernel) rfl (lv_at hl 0 rfl) ?_
  refine lv_bipush (v := nI 86) hx hb (show decode b_M_init 42 = .ok (.bipush 86, 2) by decide +kernel) (by decide) ?_
  refine va_newa (atype := .boolean) (ty := .boolean) (N' := 86) (a0 := (86, .inl (fun _ => 0))) hx hb (hts (Jvm.Cond.arrayClass Jvm.ClassFile.FieldType.boolean) (gw 520 (by decide +kernel) rfl)) rfl hK hP hD hS hA (fun _ => rfl) (by decide) (nI_clamp (by decide)) (Nat.le_of_ble_eq_true rfl) (by show _ ≤ 7; decide) (by show _ ≤ 695; decide) (show decode b_M_init 44 = .ok (.newarray .boolean, 2) by decide +kernel) (fun q44 cA H hK9 hP hD hS => ?_)
  obtain rfl : cB = cA := (arr_sameB hK9 2 1 rfl rfl).symm
  have hP : va_P D classes [(h0, .inr (2, [.int 0, .int 1, .ref q12, .ref q20, .ref q28, .ref q36, .null, .null, .null, .int 0, .int 0, .int 0, .int 0])), (q12, .inl (cI, 86, .inl (fun _ => 0))), (q20, .inl (cI, 86, .inl (fun _ => 0))), (q28, .inl (cB, 86, .inl (fun _ => 0))), (q36, .inl (cI, 86, .inl (fun _ => 0))), (q44, .inl (cB, 86, .inl (fun _ => 0)))] H := hP
  have hD : va_D A [(h0, .inr (2, [.int 0, .int 1, .ref q12, .ref q20, .ref q28, .ref q36, .null, .null, .null, .int 0, .int 0, .int 0, .int 0])), (q12, .inl (cI, 86, .inl (fun _ => 0))), (q20, .inl (cI, 86, .inl (fun _ => 0))), (q28, .inl (cB, 86, .inl (fun _ => 0))), (q36, .inl (cI, 86, .inl (fun _ => 0))), (q44, .inl (cB, 86, .inl (fun _ => 0)))] := hD
  refine va_putF (D := D) (ci := 2) (v := .ref q44) (ty := .array .boolean) (C := R_M) (T := F_M) (N := 13) hx hb hts i_MG t_M t_M_ok n_M hown hK hP hD hS 0 rfl rfl 6 (by decide) (hts (Jvm.Cond.fieldLink "RootedWordsModel" (27 : Nat) "RootedWordsModel" "marked" "[Z") (gw 486 (by decide +kernel) rfl)) (fun _ h9 => h9) rfl hin rfl (by decide +kernel) rfl rfl (Nat.le_of_ble_eq_true rfl) (show decode b_M_init 46 = .ok (.putfield 27, 3) by decide +kernel) (fun H locs hP hD hS => ?_)
  have hP : va_P D classes [(h0, .inr (2, [.int 0, .int 1, .ref q12, .ref q20, .ref q28, .ref q36, .ref q44, .null, .null, .int 0, .int 0, .int 0, .int 0])), (q12, .inl (cI, 86, .inl (fun _ => 0))), (q20, .inl (cI, 86, .inl (fun _ => 0))), (q28, .inl (cB, 86, .inl (fun _ => 0))), (q36, .inl (cI, 86, .inl (fun _ => 0))), (q44, .inl (cB, 86, .inl (fun _ => 0)))] H := hP
  have hD : va_D A [(h0, .inr (2, [.int 0, .int 1, .ref q12, .ref q20, .ref q28, .ref q36, .ref q44, .null, .null, .int 0, .int 0, .int 0, .int 0])), (q12, .inl (cI, 86, .inl (fun _ => 0))), (q20, .inl (cI, 86, .inl (fun _ => 0))), (q28, .inl (cB, 86, .inl (fun _ => 0))), (q36, .inl (cI, 86, .inl (fun _ => 0))), (q44, .inl (cB, 86, .inl (fun _ => 0)))] := hD
  refine lv_aload_n hx hb (show decode b_M_init 49 = .ok (.aload_n 0, 1) by decide +kernel) rfl (lv_at hl 0 rfl) ?_
  refine lv_sipush (v := nI 257) hx hb (show decode b_M_init 50 = .ok (.sipush 257, 3) by decide +kernel) (by decide) ?_
  refine va_newa (atype := .int) (ty := .int) (N' := 257) (a0 := (257, .inl (fun _ => 0))) hx hb (hts (Jvm.Cond.arrayClass Jvm.ClassFile.FieldType.int) (gw 78 (by decide +kernel) rfl)) rfl hK hP hD hS hA (fun _ => rfl) (by decide) (nI_clamp (by decide)) (Nat.le_of_ble_eq_true rfl) (by show _ ≤ 7; decide) (by show _ ≤ 695; decide) (show decode b_M_init 53 = .ok (.newarray .int, 2) by decide +kernel) (fun q53 cA H hK9 hP hD hS => ?_)
  obtain rfl : cI = cA := (arr_sameI hK9 2 0 rfl rfl).symm
  have hP : va_P D classes [(h0, .inr (2, [.int 0, .int 1, .ref q12, .ref q20, .ref q28, .ref q36, .ref q44, .null, .null, .int 0, .int 0, .int 0, .int 0])), (q12, .inl (cI, 86, .inl (fun _ => 0))), (q20, .inl (cI, 86, .inl (fun _ => 0))), (q28, .inl (cB, 86, .inl (fun _ => 0))), (q36, .inl (cI, 86, .inl (fun _ => 0))), (q44, .inl (cB, 86, .inl (fun _ => 0))), (q53, .inl (cI, 257, .inl (fun _ => 0)))] H := hP
  have hD : va_D A [(h0, .inr (2, [.int 0, .int 1, .ref q12, .ref q20, .ref q28, .ref q36, .ref q44, .null, .null, .int 0, .int 0, .int 0, .int 0])), (q12, .inl (cI, 86, .inl (fun _ => 0))), (q20, .inl (cI, 86, .inl (fun _ => 0))), (q28, .inl (cB, 86, .inl (fun _ => 0))), (q36, .inl (cI, 86, .inl (fun _ => 0))), (q44, .inl (cB, 86, .inl (fun _ => 0))), (q53, .inl (cI, 257, .inl (fun _ => 0)))] := hD
  refine va_putF (D := D) (ci := 2) (v := .ref q53) (ty := .array .int) (C := R_M) (T := F_M) (N := 13) hx hb hts i_MG t_M t_M_ok n_M hown hK hP hD hS 0 rfl rfl 7 (by decide) (hts (Jvm.Cond.fieldLink "RootedWordsModel" (30 : Nat) "RootedWordsModel" "words" "[I") (gw 487 (by decide +kernel) rfl)) (fun _ h9 => h9) rfl hin rfl (by decide +kernel) rfl rfl (Nat.le_of_ble_eq_true rfl) (show decode b_M_init 55 = .ok (.putfield 30, 3) by decide +kernel) (fun H locs hP hD hS => ?_)
  have hP : va_P D classes [(h0, .inr (2, [.int 0, .int 1, .ref q12, .ref q20, .ref q28, .ref q36, .ref q44, .ref q53, .null, .int 0, .int 0, .int 0, .int 0])), (q12, .inl (cI, 86, .inl (fun _ => 0))), (q20, .inl (cI, 86, .inl (fun _ => 0))), (q28, .inl (cB, 86, .inl (fun _ => 0))), (q36, .inl (cI, 86, .inl (fun _ => 0))), (q44, .inl (cB, 86, .inl (fun _ => 0))), (q53, .inl (cI, 257, .inl (fun _ => 0)))] H := hP
  have hD : va_D A [(h0, .inr (2, [.int 0, .int 1, .ref q12, .ref q20, .ref q28, .ref q36, .ref q44, .ref q53, .null, .int 0, .int 0, .int 0, .int 0])), (q12, .inl (cI, 86, .inl (fun _ => 0))), (q20, .inl (cI, 86, .inl (fun _ => 0))), (q28, .inl (cB, 86, .inl (fun _ => 0))), (q36, .inl (cI, 86, .inl (fun _ => 0))), (q44, .inl (cB, 86, .inl (fun _ => 0))), (q53, .inl (cI, 257, .inl (fun _ => 0)))] := hD
  refine lv_aload_n hx hb (show decode b_M_init 58 = .ok (.aload_n 0, 1) by decide +kernel) rfl (lv_at hl 0 rfl) ?_
  refine lv_bipush (v := nI 8) hx hb (show decode b_M_init 59 = .ok (.bipush 8, 2) by decide +kernel) (by decide) ?_
  refine va_newa (atype := .int) (ty := .int) (N' := 8) (a0 := (8, .inl (fun _ => 0))) hx hb (hts (Jvm.Cond.arrayClass Jvm.ClassFile.FieldType.int) (gw 78 (by decide +kernel) rfl)) rfl hK hP hD hS hA (fun _ => rfl) (by decide) (nI_clamp (by decide)) (Nat.le_of_ble_eq_true rfl) (by show _ ≤ 7; decide) (by show _ ≤ 695; decide) (show decode b_M_init 61 = .ok (.newarray .int, 2) by decide +kernel) (fun q61 cA H hK9 hP hD hS => ?_)
  obtain rfl : cI = cA := (arr_sameI hK9 2 0 rfl rfl).symm
  have hP : va_P D classes [(h0, .inr (2, [.int 0, .int 1, .ref q12, .ref q20, .ref q28, .ref q36, .ref q44, .ref q53, .null, .int 0, .int 0, .int 0, .int 0])), (q12, .inl (cI, 86, .inl (fun _ => 0))), (q20, .inl (cI, 86, .inl (fun _ => 0))), (q28, .inl (cB, 86, .inl (fun _ => 0))), (q36, .inl (cI, 86, .inl (fun _ => 0))), (q44, .inl (cB, 86, .inl (fun _ => 0))), (q53, .inl (cI, 257, .inl (fun _ => 0))), (q61, .inl (cI, 8, .inl (fun _ => 0)))] H := hP
  have hD : va_D A [(h0, .inr (2, [.int 0, .int 1, .ref q12, .ref q20, .ref q28, .ref q36, .ref q44, .ref q53, .null, .int 0, .int 0, .int 0, .int 0])), (q12, .inl (cI, 86, .inl (fun _ => 0))), (q20, .inl (cI, 86, .inl (fun _ => 0))), (q28, .inl (cB, 86, .inl (fun _ => 0))), (q36, .inl (cI, 86, .inl (fun _ => 0))), (q44, .inl (cB, 86, .inl (fun _ => 0))), (q53, .inl (cI, 257, .inl (fun _ => 0))), (q61, .inl (cI, 8, .inl (fun _ => 0)))] := hD
  refine va_putF (D := D) (ci := 2) (v := .ref q61) (ty := .array .int) (C := R_M) (T := F_M) (N := 13) hx hb hts i_MG t_M t_M_ok n_M hown hK hP hD hS 0 rfl rfl 8 (by decide) (hts (Jvm.Cond.fieldLink "RootedWordsModel" (33 : Nat) "RootedWordsModel" "roots" "[I") (gw 488 (by decide +kernel) rfl)) (fun _ h9 => h9) rfl hin rfl (by decide +kernel) rfl rfl (Nat.le_of_ble_eq_true rfl) (show decode b_M_init 63 = .ok (.putfield 33, 3) by decide +kernel) (fun H locs hP hD hS => ?_)
  have hP : va_P D classes [(h0, .inr (2, [.int 0, .int 1, .ref q12, .ref q20, .ref q28, .ref q36, .ref q44, .ref q53, .ref q61, .int 0, .int 0, .int 0, .int 0])), (q12, .inl (cI, 86, .inl (fun _ => 0))), (q20, .inl (cI, 86, .inl (fun _ => 0))), (q28, .inl (cB, 86, .inl (fun _ => 0))), (q36, .inl (cI, 86, .inl (fun _ => 0))), (q44, .inl (cB, 86, .inl (fun _ => 0))), (q53, .inl (cI, 257, .inl (fun _ => 0))), (q61, .inl (cI, 8, .inl (fun _ => 0)))] H := hP
  have hD : va_D A [(h0, .inr (2, [.int 0, .int 1, .ref q12, .ref q20, .ref q28, .ref q36, .ref q44, .ref q53, .ref q61, .int 0, .int 0, .int 0, .int 0])), (q12, .inl (cI, 86, .inl (fun _ => 0))), (q20, .inl (cI, 86, .inl (fun _ => 0))), (q28, .inl (cB, 86, .inl (fun _ => 0))), (q36, .inl (cI, 86, .inl (fun _ => 0))), (q44, .inl (cB, 86, .inl (fun _ => 0))), (q53, .inl (cI, 257, .inl (fun _ => 0))), (q61, .inl (cI, 8, .inl (fun _ => 0)))] := hD
  refine lv_aload_n hx hb (show decode b_M_init 66 = .ok (.aload_n 0, 1) by decide +kernel) rfl (lv_at hl 0 rfl) ?_
  refine lv_iconst (v := -1) hx hb (show decode b_M_init 67 = .ok (.iconst (-1), 1) by decide +kernel) (by decide) ?_
  refine va_put (D := D) (ci := 2) (v := .int (-1)) (ty := .int) (C := R_M) (T := F_M) (N := 13) hx hb hts i_MG t_M t_M_ok n_M hown hK hP hD hS 0 rfl rfl 10 (by decide) (hts (Jvm.Cond.fieldLink "RootedWordsModel" (36 : Nat) "RootedWordsModel" "left" "I") (gw 490 (by decide +kernel) rfl)) (fun _ h9 => h9) rfl (by decide +kernel) rfl rfl (Nat.le_of_ble_eq_true rfl) (show decode b_M_init 68 = .ok (.putfield 36, 3) by decide +kernel) (fun H locs hP hD hS => ?_)
  have hP : va_P D classes [(h0, .inr (2, [.int 0, .int 1, .ref q12, .ref q20, .ref q28, .ref q36, .ref q44, .ref q53, .ref q61, .int 0, .int (-1), .int 0, .int 0])), (q12, .inl (cI, 86, .inl (fun _ => 0))), (q20, .inl (cI, 86, .inl (fun _ => 0))), (q28, .inl (cB, 86, .inl (fun _ => 0))), (q36, .inl (cI, 86, .inl (fun _ => 0))), (q44, .inl (cB, 86, .inl (fun _ => 0))), (q53, .inl (cI, 257, .inl (fun _ => 0))), (q61, .inl (cI, 8, .inl (fun _ => 0)))] H := hP
  have hD : va_D A [(h0, .inr (2, [.int 0, .int 1, .ref q12, .ref q20, .ref q28, .ref q36, .ref q44, .ref q53, .ref q61, .int 0, .int (-1), .int 0, .int 0])), (q12, .inl (cI, 86, .inl (fun _ => 0))), (q20, .inl (cI, 86, .inl (fun _ => 0))), (q28, .inl (cB, 86, .inl (fun _ => 0))), (q36, .inl (cI, 86, .inl (fun _ => 0))), (q44, .inl (cB, 86, .inl (fun _ => 0))), (q53, .inl (cI, 257, .inl (fun _ => 0))), (q61, .inl (cI, 8, .inl (fun _ => 0)))] := hD
  refine lv_aload_n hx hb (show decode b_M_init 71 = .ok (.aload_n 0, 1) by decide +kernel) rfl (lv_at hl 0 rfl) ?_
  refine va_get (D := D) (ci := 2) (v := .ref q12) (C := R_M) (T := F_M) (N := 13) hx hb hts i_MG hown hK hP 0 rfl rfl 2 (by decide) (hts (Jvm.Cond.fieldLink "RootedWordsModel" (13 : Nat) "RootedWordsModel" "starts" "[I") (gw 482 (by decide +kernel) rfl)) (fun _ h9 => h9) rfl (show decode b_M_init 72 = .ok (.getfield 13, 3) by decide +kernel) ?_
  refine lv_iconst (v := 0) hx hb (show decode b_M_init 75 = .ok (.iconst 0, 1) by decide +kernel) (by decide) ?_
  refine lv_iconst (v := 1) hx hb (show decode b_M_init 76 = .ok (.iconst 1, 1) by decide +kernel) (by decide) ?_
  refine va_iast hx hb hK hP hD hS 1 0 rfl rfl (i := 0) (vp_in_nI (n := 0) (N := 86) (by decide) (by decide)) (show decode b_M_init 77 = .ok (.iastore, 1) by decide +kernel) (fun H locs hP hD hS => ?_)
  have hP : va_P D classes [(h0, .inr (2, [.int 0, .int 1, .ref q12, .ref q20, .ref q28, .ref q36, .ref q44, .ref q53, .ref q61, .int 0, .int (-1), .int 0, .int 0])), (q12, .inl (cI, 86, .inl (upd (fun _ => 0) 0 (1)))), (q20, .inl (cI, 86, .inl (fun _ => 0))), (q28, .inl (cB, 86, .inl (fun _ => 0))), (q36, .inl (cI, 86, .inl (fun _ => 0))), (q44, .inl (cB, 86, .inl (fun _ => 0))), (q53, .inl (cI, 257, .inl (fun _ => 0))), (q61, .inl (cI, 8, .inl (fun _ => 0)))] H := hP
  have hD : va_D A [(h0, .inr (2, [.int 0, .int 1, .ref q12, .ref q20, .ref q28, .ref q36, .ref q44, .ref q53, .ref q61, .int 0, .int (-1), .int 0, .int 0])), (q12, .inl (cI, 86, .inl (upd (fun _ => 0) 0 (1)))), (q20, .inl (cI, 86, .inl (fun _ => 0))), (q28, .inl (cB, 86, .inl (fun _ => 0))), (q36, .inl (cI, 86, .inl (fun _ => 0))), (q44, .inl (cB, 86, .inl (fun _ => 0))), (q53, .inl (cI, 257, .inl (fun _ => 0))), (q61, .inl (cI, 8, .inl (fun _ => 0)))] := hD
  refine lv_aload_n hx hb (show decode b_M_init 78 = .ok (.aload_n 0, 1) by decide +kernel) rfl (lv_at hl 0 rfl) ?_
  refine va_get (D := D) (ci := 2) (v := .ref q20) (C := R_M) (T := F_M) (N := 13) hx hb hts i_MG hown hK hP 0 rfl rfl 3 (by decide) (hts (Jvm.Cond.fieldLink "RootedWordsModel" (17 : Nat) "RootedWordsModel" "lengths" "[I") (gw 483 (by decide +kernel) rfl)) (fun _ h9 => h9) rfl (show decode b_M_init 79 = .ok (.getfield 17, 3) by decide +kernel) ?_
  refine lv_iconst (v := 0) hx hb (show decode b_M_init 82 = .ok (.iconst 0, 1) by decide +kernel) (by decide) ?_
  refine lv_sipush (v := nI 256) hx hb (show decode b_M_init 83 = .ok (.sipush 256, 3) by decide +kernel) (by decide) ?_
  refine va_iast hx hb hK hP hD hS 2 0 rfl rfl (i := 0) (vp_in_nI (n := 0) (N := 86) (by decide) (by decide)) (show decode b_M_init 86 = .ok (.iastore, 1) by decide +kernel) (fun H locs hP hD hS => ?_)
  have hP : va_P D classes [(h0, .inr (2, [.int 0, .int 1, .ref q12, .ref q20, .ref q28, .ref q36, .ref q44, .ref q53, .ref q61, .int 0, .int (-1), .int 0, .int 0])), (q12, .inl (cI, 86, .inl (upd (fun _ => 0) 0 (1)))), (q20, .inl (cI, 86, .inl (upd (fun _ => 0) 0 (nI 256)))), (q28, .inl (cB, 86, .inl (fun _ => 0))), (q36, .inl (cI, 86, .inl (fun _ => 0))), (q44, .inl (cB, 86, .inl (fun _ => 0))), (q53, .inl (cI, 257, .inl (fun _ => 0))), (q61, .inl (cI, 8, .inl (fun _ => 0)))] H := hP
  have hD : va_D A [(h0, .inr (2, [.int 0, .int 1, .ref q12, .ref q20, .ref q28, .ref q36, .ref q44, .ref q53, .ref q61, .int 0, .int (-1), .int 0, .int 0])), (q12, .inl (cI, 86, .inl (upd (fun _ => 0) 0 (1)))), (q20, .inl (cI, 86, .inl (upd (fun _ => 0) 0 (nI 256)))), (q28, .inl (cB, 86, .inl (fun _ => 0))), (q36, .inl (cI, 86, .inl (fun _ => 0))), (q44, .inl (cB, 86, .inl (fun _ => 0))), (q53, .inl (cI, 257, .inl (fun _ => 0))), (q61, .inl (cI, 8, .inl (fun _ => 0)))] := hD
  refine W.widen (k := 7) (n := 695) (by decide) (by decide) ?_
  exact W.vret hx hb hr (fun t ht hW => ⟨⟨⟨q12, q20, q28, q36, q44, q53, q61⟩, rfl, trivial, by rw [ht]; exact hP, hD⟩, hS.F ht⟩) hS.2.2 (show decode b_M_init 87 = .ok (.return_, 1) by decide +kernel)
theorem i_DG : ∀ w ∈ u_ws R_D F_D 5, w ∈ gtbl := c_inG (ci := 1) (by decide)
def y_D_init : MethodName := ⟨"RootedWords$Disk", "<init>", "()V"⟩
abbrev b_D_init : ByteArray := prog_2_method_1_code
def mdWD (cI cB : ClassId) (h0 : Nat) (u : Nat × Nat) : va_W := match u with | (q8, q16) => [(h0, .inr (1, [.ref q8, .ref q16, .int 0, .int (-1), .int 0])), (q8, .inl (cI, 274, .inl (fun _ => 0))), (q16, .inl (cI, 8, .inl (fun _ => 0)))]
def mdW0D (h0 : Nat) : va_W := [(h0, .inr (1, [.null, .null, .int 0, .int 0, .int 0]))]
set_option maxHeartbeats 4000000 in
set_option maxRecDepth 100000 in
theorem c_D_init (l : Launch) (D : va_G) (cI cB : ClassId) (h0 sz : Nat) : Met l y_D_init (wsI0 y_D_init b_D_init) ({ frames := 1, cells := 2, slots := 282, locals := 12 }) (va_Pc [.ref h0] (fun U => U.heap.size = sz ∧ va_P D classes (mdW0D h0) U.heap ∧ va_K D classes [(cI, .int), (cB, .boolean)] U ∧ va_D (fun _ => True) (mdW0D h0))) (va_Qv (fun _ : Nat × Nat => True) (fun u t => va_P D classes (mdWD cI cB h0 u) t.heap ∧ va_D (va_A (mdW0D h0) sz) (mdWD cI cB h0 u)) (va_A (mdW0D h0) sz)) 2 282 (va_A (mdW0D h0) sz) := by
  refine Met.ofW (cc := b_D_init) (maxL := 1) (ret := none) (by decide) rfl ?_
  intro p e s m args below meth c s₁ B hml hv
  obtain ⟨rfl, hsz, hP, hK, hD0⟩ := hv
  have hx := B.exec
  have hb := B.bytes
  have hr := B.returns
  have hts0 := atoms_spec (ws := wsI0 y_D_init b_D_init) B.pre
  have hts : ∀ w ∈ gtbl, w.before _ s = true := fun w hw => hts0 w (List.mem_cons_of_mem _ hw)
  have hown : s.vm.findClass R_D = some m.cls := findClass_of_methodNamed B.named
  have hlocks := B.notSynchronized
  have hin : meth.name = "<init>" := (name_of_methodNamed B.named B.method).1
  subst hsz
  have hD := hD0.self (sz := s.heap.size)
  generalize hAe : va_A (mdW0D h0) s.heap.size = A at hD ⊢
  have hA : ∀ q : Nat, s.heap.size ≤ q → A q := fun q h => by rw [← hAe]; exact Or.inr h
  have hS : va_S A s.heap s.heap [] := va_S.rf
  have hP : va_P D classes [(h0, .inr (1, [.null, .null, .int 0, .int 0, .int 0]))] s.heap := hP
  have hD : va_D A [(h0, .inr (1, [.null, .null, .int 0, .int 0, .int 0]))] := hD
  have hl := lv_entry ([.ref h0]) (n := 1) (Nat.le_of_ble_eq_true rfl)
  rw [lg_entry_eq]
  generalize (lg_sl ([.ref h0]) ++ List.replicate (1 - (lg_sl ([.ref h0])).length) Slot.unset).toArray = ls at hl ⊢
  have hl : lv_has ls 1 [(0, .ref h0)] := hl
  refine lv_aload_n hx hb (show decode b_D_init 0 = .ok (.aload_n 0, 1) by decide +kernel) rfl (lv_at hl 0 rfl) ?_
  refine W.objInit hx hb hown (hts (Jvm.Cond.methodLink "RootedWords$Disk" (5 : Nat) ({ cls := "java/lang/Object", name := "<init>", desc := "()V" } : Jvm.MethodName)) (gw 61 (by decide +kernel) rfl)) (hts (Jvm.Cond.instanceMethod ({ cls := "java/lang/Object", name := "<init>", desc := "()V" } : Jvm.MethodName)) (gw 54 (by decide +kernel) rfl)) (hts (Jvm.Cond.code ({ cls := "java/lang/Object", name := "<init>", desc := "()V" } : Jvm.MethodName) object_method_1_code (1 : Nat) (Option.none : Option Jvm.ClassFile.FieldType)) (gw 55 (by decide +kernel) rfl)) rfl (by rw [hml]; exact hl.1) rfl (show decode b_D_init 1 = .ok (.invokespecial 5, 3) by decide +kernel) (Nat.le_of_ble_eq_true rfl) (Nat.le_of_ble_eq_true rfl) ?_
  refine W.eq (g2 := F0 m 4 ls []) rfl ?_
  refine lv_aload_n hx hb (show decode b_D_init 4 = .ok (.aload_n 0, 1) by decide +kernel) rfl (lv_at hl 0 rfl) ?_
  refine lv_sipush (v := nI 274) hx hb (show decode b_D_init 5 = .ok (.sipush 274, 3) by decide +kernel) (by decide) ?_
  refine va_newa (atype := .int) (ty := .int) (N' := 274) (a0 := (274, .inl (fun _ => 0))) hx hb (hts (Jvm.Cond.arrayClass Jvm.ClassFile.FieldType.int) (gw 78 (by decide +kernel) rfl)) rfl hK hP hD hS hA (fun _ => rfl) (by decide) (nI_clamp (by decide)) (Nat.le_of_ble_eq_true rfl) (by show _ ≤ 2; decide) (by show _ ≤ 282; decide) (show decode b_D_init 8 = .ok (.newarray .int, 2) by decide +kernel) (fun q8 cA H hK9 hP hD hS => ?_)
  obtain rfl : cI = cA := (arr_sameI hK9 2 0 rfl rfl).symm
  have hP : va_P D classes [(h0, .inr (1, [.null, .null, .int 0, .int 0, .int 0])), (q8, .inl (cI, 274, .inl (fun _ => 0)))] H := hP
  have hD : va_D A [(h0, .inr (1, [.null, .null, .int 0, .int 0, .int 0])), (q8, .inl (cI, 274, .inl (fun _ => 0)))] := hD
  refine va_putF (D := D) (ci := 1) (v := .ref q8) (ty := .array .int) (C := R_D) (T := F_D) (N := 5) hx hb hts i_DG t_D t_D_ok n_D hown hK hP hD hS 0 rfl rfl 0 (by decide) (hts (Jvm.Cond.fieldLink "RootedWords$Disk" (11 : Nat) "RootedWords$Disk" "words" "[I") (gw 62 (by decide +kernel) rfl)) (fun _ h9 => h9) rfl hin rfl (by decide +kernel) rfl rfl (Nat.le_of_ble_eq_true rfl) (show decode b_D_init 10 = .ok (.putfield 11, 3) by decide +kernel) (fun H locs hP hD hS => ?_)
  have hP : va_P D classes [(h0, .inr (1, [.ref q8, .null, .int 0, .int 0, .int 0])), (q8, .inl (cI, 274, .inl (fun _ => 0)))] H := hP
  have hD : va_D A [(h0, .inr (1, [.ref q8, .null, .int 0, .int 0, .int 0])), (q8, .inl (cI, 274, .inl (fun _ => 0)))] := hD
  refine lv_aload_n hx hb (show decode b_D_init 13 = .ok (.aload_n 0, 1) by decide +kernel) rfl (lv_at hl 0 rfl) ?_
  refine lv_bipush (v := nI 8) hx hb (show decode b_D_init 14 = .ok (.bipush 8, 2) by decide +kernel) (by decide) ?_
  refine va_newa (atype := .int) (ty := .int) (N' := 8) (a0 := (8, .inl (fun _ => 0))) hx hb (hts (Jvm.Cond.arrayClass Jvm.ClassFile.FieldType.int) (gw 78 (by decide +kernel) rfl)) rfl hK hP hD hS hA (fun _ => rfl) (by decide) (nI_clamp (by decide)) (Nat.le_of_ble_eq_true rfl) (by show _ ≤ 2; decide) (by show _ ≤ 282; decide) (show decode b_D_init 16 = .ok (.newarray .int, 2) by decide +kernel) (fun q16 cA H hK9 hP hD hS => ?_)
  obtain rfl : cI = cA := (arr_sameI hK9 2 0 rfl rfl).symm
  have hP : va_P D classes [(h0, .inr (1, [.ref q8, .null, .int 0, .int 0, .int 0])), (q8, .inl (cI, 274, .inl (fun _ => 0))), (q16, .inl (cI, 8, .inl (fun _ => 0)))] H := hP
  have hD : va_D A [(h0, .inr (1, [.ref q8, .null, .int 0, .int 0, .int 0])), (q8, .inl (cI, 274, .inl (fun _ => 0))), (q16, .inl (cI, 8, .inl (fun _ => 0)))] := hD
  refine va_putF (D := D) (ci := 1) (v := .ref q16) (ty := .array .int) (C := R_D) (T := F_D) (N := 5) hx hb hts i_DG t_D t_D_ok n_D hown hK hP hD hS 0 rfl rfl 1 (by decide) (hts (Jvm.Cond.fieldLink "RootedWords$Disk" (15 : Nat) "RootedWords$Disk" "planned" "[I") (gw 63 (by decide +kernel) rfl)) (fun _ h9 => h9) rfl hin rfl (by decide +kernel) rfl rfl (Nat.le_of_ble_eq_true rfl) (show decode b_D_init 18 = .ok (.putfield 15, 3) by decide +kernel) (fun H locs hP hD hS => ?_)
  have hP : va_P D classes [(h0, .inr (1, [.ref q8, .ref q16, .int 0, .int 0, .int 0])), (q8, .inl (cI, 274, .inl (fun _ => 0))), (q16, .inl (cI, 8, .inl (fun _ => 0)))] H := hP
  have hD : va_D A [(h0, .inr (1, [.ref q8, .ref q16, .int 0, .int 0, .int 0])), (q8, .inl (cI, 274, .inl (fun _ => 0))), (q16, .inl (cI, 8, .inl (fun _ => 0)))] := hD
  refine lv_aload_n hx hb (show decode b_D_init 21 = .ok (.aload_n 0, 1) by decide +kernel) rfl (lv_at hl 0 rfl) ?_
  refine lv_iconst (v := 0) hx hb (show decode b_D_init 22 = .ok (.iconst 0, 1) by decide +kernel) (by decide) ?_
  refine va_put (D := D) (ci := 1) (v := .int 0) (ty := .int) (C := R_D) (T := F_D) (N := 5) hx hb hts i_DG t_D t_D_ok n_D hown hK hP hD hS 0 rfl rfl 2 (by decide) (hts (Jvm.Cond.fieldLink "RootedWords$Disk" (18 : Nat) "RootedWords$Disk" "count" "I") (gw 64 (by decide +kernel) rfl)) (fun _ h9 => h9) rfl (by decide +kernel) rfl rfl (Nat.le_of_ble_eq_true rfl) (show decode b_D_init 23 = .ok (.putfield 18, 3) by decide +kernel) (fun H locs hP hD hS => ?_)
  have hP : va_P D classes [(h0, .inr (1, [.ref q8, .ref q16, .int 0, .int 0, .int 0])), (q8, .inl (cI, 274, .inl (fun _ => 0))), (q16, .inl (cI, 8, .inl (fun _ => 0)))] H := hP
  have hD : va_D A [(h0, .inr (1, [.ref q8, .ref q16, .int 0, .int 0, .int 0])), (q8, .inl (cI, 274, .inl (fun _ => 0))), (q16, .inl (cI, 8, .inl (fun _ => 0)))] := hD
  refine lv_aload_n hx hb (show decode b_D_init 26 = .ok (.aload_n 0, 1) by decide +kernel) rfl (lv_at hl 0 rfl) ?_
  refine lv_iconst (v := -1) hx hb (show decode b_D_init 27 = .ok (.iconst (-1), 1) by decide +kernel) (by decide) ?_
  refine va_put (D := D) (ci := 1) (v := .int (-1)) (ty := .int) (C := R_D) (T := F_D) (N := 5) hx hb hts i_DG t_D t_D_ok n_D hown hK hP hD hS 0 rfl rfl 3 (by decide) (hts (Jvm.Cond.fieldLink "RootedWords$Disk" (22 : Nat) "RootedWords$Disk" "writesUntilFailure" "I") (gw 65 (by decide +kernel) rfl)) (fun _ h9 => h9) rfl (by decide +kernel) rfl rfl (Nat.le_of_ble_eq_true rfl) (show decode b_D_init 28 = .ok (.putfield 22, 3) by decide +kernel) (fun H locs hP hD hS => ?_)
  have hP : va_P D classes [(h0, .inr (1, [.ref q8, .ref q16, .int 0, .int (-1), .int 0])), (q8, .inl (cI, 274, .inl (fun _ => 0))), (q16, .inl (cI, 8, .inl (fun _ => 0)))] H := hP
  have hD : va_D A [(h0, .inr (1, [.ref q8, .ref q16, .int 0, .int (-1), .int 0])), (q8, .inl (cI, 274, .inl (fun _ => 0))), (q16, .inl (cI, 8, .inl (fun _ => 0)))] := hD
  refine lv_aload_n hx hb (show decode b_D_init 31 = .ok (.aload_n 0, 1) by decide +kernel) rfl (lv_at hl 0 rfl) ?_
  refine lv_iconst (v := 0) hx hb (show decode b_D_init 32 = .ok (.iconst 0, 1) by decide +kernel) (by decide) ?_
  refine va_put (D := D) (ci := 1) (v := .int 0) (ty := .boolean) (C := R_D) (T := F_D) (N := 5) hx hb hts i_DG t_D t_D_ok n_D hown hK hP hD hS 0 rfl rfl 4 (by decide) (hts (Jvm.Cond.fieldLink "RootedWords$Disk" (25 : Nat) "RootedWords$Disk" "failed" "Z") (gw 66 (by decide +kernel) rfl)) (fun _ h9 => h9) rfl (by decide +kernel) rfl rfl (Nat.le_of_ble_eq_true rfl) (show decode b_D_init 33 = .ok (.putfield 25, 3) by decide +kernel) (fun H locs hP hD hS => ?_)
  have hP : va_P D classes [(h0, .inr (1, [.ref q8, .ref q16, .int 0, .int (-1), .int 0])), (q8, .inl (cI, 274, .inl (fun _ => 0))), (q16, .inl (cI, 8, .inl (fun _ => 0)))] H := hP
  have hD : va_D A [(h0, .inr (1, [.ref q8, .ref q16, .int 0, .int (-1), .int 0])), (q8, .inl (cI, 274, .inl (fun _ => 0))), (q16, .inl (cI, 8, .inl (fun _ => 0)))] := hD
  refine W.widen (k := 2) (n := 282) (by decide) (by decide) ?_
  exact W.vret hx hb hr (fun t ht hW => ⟨⟨⟨q8, q16⟩, rfl, trivial, by rw [ht]; exact hP, hD⟩, hS.F ht⟩) hS.2.2 (show decode b_D_init 36 = .ok (.return_, 1) by decide +kernel)
