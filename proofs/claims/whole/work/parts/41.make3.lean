/-! ===== the maker of RootedWords: printed by a program ===== -/
theorem i_XG : ∀ w ∈ u_ws R_X F_X 4, w ∈ gtbl := c_inG (ci := 0) (by decide)
def y_X_init : MethodName := ⟨"RootedWords", "<init>", "()V"⟩
abbrev b_X_init : ByteArray := prog_1_method_1_code
theorem gi_D_init : GoodIn gtbl (wsI0 y_D_init b_D_init) := good_in (by
  intro w hw
  rcases List.mem_cons.mp hw with rfl | h
  · exact gw 60 (by decide +kernel) rfl
  · exact h)
theorem gs_tag : GoodIn gtbl (wsS R_X 26 y_X_tag (.code y_X_tag b_X_tag 2 (some .int) :: gtbl)) := good_in (by
  intro w hw
  rcases List.mem_append.mp hw with h | h
  · simp only [List.mem_cons, List.mem_nil_iff, or_false] at h
    rcases h with rfl | rfl | rfl
    · exact gw 79 (by decide +kernel) rfl
    · exact gw 80 (by decide +kernel) rfl
    · exact gw 36 (by decide +kernel) rfl
  · rcases List.mem_cons.mp h with rfl | h
    · exact gw 81 (by decide +kernel) rfl
    · exact h)
theorem gv_preset : GoodIn gtbl (wsV R_X 30 R_D y_D_preset (.code y_D_preset b_D_preset 3 none :: gtbl)) := good_in (by
  intro w hw
  rcases List.mem_append.mp hw with h | h
  · simp only [List.mem_cons, List.mem_nil_iff, or_false] at h
    rcases h with rfl | rfl | rfl | rfl
    · exact gw 82 (by decide +kernel) rfl
    · exact gw 83 (by decide +kernel) rfl
    · exact gw 84 (by decide +kernel) rfl
    · exact gw 37 (by decide +kernel) rfl
  · rcases List.mem_cons.mp h with rfl | h
    · exact gw 85 (by decide +kernel) rfl
    · exact h)
def mdWX (cI : ClassId) (h0 : Nat) (u : Nat × Nat × Nat × Nat × Nat × Nat) : va_W := match u with | (q5, qa, qb, qf, qm, qn) => [(h0, .inr (0, [.ref q5, .ref qf, .ref qm, .ref qn])), (qb, .inl (cI, 8, .inl (fun _ => 0))), (qf, .inl (cI, 86, .inl (fun _ => 0))), (qm, .inl (cI, 258, .inl (fun _ => 0))), (qn, .inl (cI, 257, .inl (fun _ => 0))), (q5, .inr (1, [.ref qa, .ref qb, .int 0, .int (-1), .int 0])), (qa, .inl (cI, 274, .inl (upd (upd (fun _ => 0) 1 (nI 256 * nI 256 + 0)) 256 (nI 256 * nI 256 + 0))))]
def mdW0X (h0 : Nat) : va_W := [(h0, .inr (0, [.null, .null, .null, .null]))]
set_option maxHeartbeats 4000000 in
set_option maxRecDepth 100000 in
theorem c_X_init (l : Launch) (D : va_G) (cI cB : ClassId) (h0 sz : Nat) : Met l y_X_init (wsI0 y_X_init b_X_init) ({ frames := 2, cells := 6, slots := 888, locals := 32 }) (va_Pc [.ref h0] (fun U => U.heap.size = sz ∧ va_P D classes (mdW0X h0) U.heap ∧ (va_K D classes [(cI, .int), (cB, .boolean)] U ∧ va_Nw (.methodLinkNest R_X 11 y_D_init "RootedWords") U) ∧ va_D (fun _ => True) (mdW0X h0))) (va_Qv (fun _ : Nat × Nat × Nat × Nat × Nat × Nat => True) (fun u t => va_P D classes (mdWX cI h0 u) t.heap ∧ va_D (va_A (mdW0X h0) sz) (mdWX cI h0 u)) (va_A (mdW0X h0) sz)) 6 888 (va_A (mdW0X h0) sz) := by
  refine Met.ofW (cc := b_X_init) (maxL := 1) (ret := none) (by decide) rfl ?_
  intro p e s m args below meth c s₁ B hml hv
  obtain ⟨rfl, hsz, hP, ⟨hK, hNw⟩, hD0⟩ := hv
  have hx := B.exec
  have hb := B.bytes
  have hr := B.returns
  have hts0 := atoms_spec (ws := wsI0 y_X_init b_X_init) B.pre
  have hts : ∀ w ∈ gtbl, w.before _ s = true := fun w hw => hts0 w (List.mem_cons_of_mem _ hw)
  have hown : s.vm.findClass R_X = some m.cls := findClass_of_methodNamed B.named
  have hlocks := B.notSynchronized
  have hin : meth.name = "<init>" := (name_of_methodNamed B.named B.method).1
  subst hsz
  have hD := hD0.self (sz := s.heap.size)
  generalize hAe : va_A (mdW0X h0) s.heap.size = A at hD ⊢
  have hA : ∀ q : Nat, s.heap.size ≤ q → A q := fun q h => by rw [← hAe]; exact Or.inr h
  have hS : va_S A s.heap s.heap [] := va_S.rf
  have hP : va_P D classes [(h0, .inr (0, [.null, .null, .null, .null]))] s.heap := hP
  have hD : va_D A [(h0, .inr (0, [.null, .null, .null, .null]))] := hD
  have hl := lv_entry ([.ref h0]) (n := 1) (Nat.le_of_ble_eq_true rfl)
  rw [lg_entry_eq]
  generalize (lg_sl ([.ref h0]) ++ List.replicate (1 - (lg_sl ([.ref h0])).length) Slot.unset).toArray = ls at hl ⊢
  have hl : lv_has ls 1 [(0, .ref h0)] := hl
  refine lv_aload_n hx hb (show decode b_X_init 0 = .ok (.aload_n 0, 1) by decide +kernel) rfl (lv_at hl 0 rfl) ?_
  refine W.objInit hx hb hown (hts (Jvm.Cond.methodLink "RootedWords" (3 : Nat) ({ cls := "java/lang/Object", name := "<init>", desc := "()V" } : Jvm.MethodName)) (gw 53 (by decide +kernel) rfl)) (hts (Jvm.Cond.instanceMethod ({ cls := "java/lang/Object", name := "<init>", desc := "()V" } : Jvm.MethodName)) (gw 54 (by decide +kernel) rfl)) (hts (Jvm.Cond.code ({ cls := "java/lang/Object", name := "<init>", desc := "()V" } : Jvm.MethodName) object_method_1_code (1 : Nat) (Option.none : Option Jvm.ClassFile.FieldType)) (gw 55 (by decide +kernel) rfl)) rfl (by rw [hml]; exact hl.1) rfl (show decode b_X_init 1 = .ok (.invokespecial 3, 3) by decide +kernel) (Nat.le_of_ble_eq_true rfl) (Nat.le_of_ble_eq_true rfl) ?_
  refine W.eq (g2 := F0 m 4 ls []) rfl ?_
  refine lv_aload_n hx hb (show decode b_X_init 4 = .ok (.aload_n 0, 1) by decide +kernel) rfl (lv_at hl 0 rfl) ?_
  refine va_new (ci := 1) (fs := [.null, .null, .int 0, .int 0, .int 0]) (C := R_D) (T := F_D) (N := 5) hx hb hts i_DG t_D t_D_ok hown (hts (Jvm.Cond.classLink "RootedWords" (9 : Nat) "RootedWords$Disk") (gw 56 (by decide +kernel) rfl)) (hts (Jvm.Cond.instantiable "RootedWords$Disk" (5 : Nat)) (gw 57 (by decide +kernel) rfl)) (hts (Jvm.Cond.initialized "RootedWords$Disk") (gw 37 (by decide +kernel) rfl)) hK hP hD hS hA rfl (fun j hj => by rcases (show j = 0 ∨ j = 1 ∨ j = 2 ∨ j = 3 ∨ j = 4 by omega) with rfl | rfl | rfl | rfl | rfl <;> rfl) (by show _ ≤ 6; decide) (by show _ ≤ 888; decide) (show decode b_X_init 5 = .ok (.new 9, 3) by decide +kernel) (fun q5 H hP hD hS => ?_)
  have hP : va_P D classes [(h0, .inr (0, [.null, .null, .null, .null])), (q5, .inr (1, [.null, .null, .int 0, .int 0, .int 0]))] H := hP
  have hD : va_D A [(h0, .inr (0, [.null, .null, .null, .null])), (q5, .inr (1, [.null, .null, .int 0, .int 0, .int 0]))] := hD
  refine lv_dup hx hb (show decode b_X_init 8 = .ok (.dup, 1) by decide +kernel) rfl ?_
  have hPc := hP.sub (ws' := mdW0D q5) [1] rfl
  have hDc := hD.sub (ws' := mdW0D q5) [1] (by decide) rfl
  have hFc := va_free (wc := mdW0D q5) hD hS hA [1] rfl
  refine va_callv (va_runIN (As := []) (rest := [.ref q5, .ref h0]) (host := "RootedWords") ⟨hx, hb, hml, hown, hts⟩ (c_D_init l D cI cB q5 H.size) ⟨va_cnB 0 hts gi_D_init rfl rfl rfl hNw (hts (Jvm.Cond.initialized "RootedWords$Disk") (gw 37 (by decide +kernel) rfl)) (by decide +kernel) ⟨Nat.le_of_ble_eq_true rfl, Nat.le_of_ble_eq_true rfl⟩, rfl, hts (Jvm.Cond.instanceMethod ({ cls := "RootedWords$Disk", name := "<init>", desc := "()V" } : Jvm.MethodName)) (gw 59 (by decide +kernel) rfl)⟩ ⟨fun a U g mk q => by obtain ⟨q0, q1, qP, qK, qD⟩ := q; exact ⟨q0, q1, qP, va_K.moved (u := U) (U := U.calling g mk a) (Vm.Alike.refl U.vm) qK, qD⟩, fun U hU hW => ⟨rfl, by rw [hU], by rw [hU]; exact hPc, va_K.moved hW.alike hK, hDc.weaken (fun _ _ _ _ => trivial)⟩⟩ rfl rfl hl.1 rfl (lv_room (Nat.le_of_ble_eq_true rfl)) (show decode b_X_init 9 = .ok (.invokespecial 11, 3) by decide +kernel) ⟨by show _ ≤ 6; decide, by show _ ≤ 888; decide⟩) hS (fun q _ h => hFc q h) hFc (fun u t H1 locs ht hvm hw hB hz1 hk1 hS => ?_)
  obtain ⟨qa, qb⟩ := u
  obtain ⟨hP1, hD1⟩ := hB
  rw [ht] at hP1
  obtain ⟨hP, hD⟩ := va_join (wr := [(h0, .inr (0, [.null, .null, .null, .null]))]) (w1 := mdWD cI cB q5 (qa, qb)) hP hD [1] [0] rfl rfl (by decide) (by decide) hk1 hFc hP1 hD1
  generalize H1 = H at hP hS ⊢
  have hP : va_P D classes [(h0, .inr (0, [.null, .null, .null, .null])), (q5, .inr (1, [.ref qa, .ref qb, .int 0, .int (-1), .int 0])), (qa, .inl (cI, 274, .inl (fun _ => 0))), (qb, .inl (cI, 8, .inl (fun _ => 0)))] H := hP
  have hD : va_D A [(h0, .inr (0, [.null, .null, .null, .null])), (q5, .inr (1, [.ref qa, .ref qb, .int 0, .int (-1), .int 0])), (qa, .inl (cI, 274, .inl (fun _ => 0))), (qb, .inl (cI, 8, .inl (fun _ => 0)))] := hD
  refine va_putF (D := D) (ci := 0) (v := .ref q5) (ty := .object "RootedWords$Disk") (C := R_X) (T := F_X) (N := 4) hx hb hts i_XG t_X t_X_ok n_X hown hK hP hD hS 0 rfl rfl 0 (by decide) (hts (Jvm.Cond.fieldLink "RootedWords" (12 : Nat) "RootedWords" "disk" "LRootedWords$Disk;") (gw 86 (by decide +kernel) rfl)) (fun _ h9 => h9) rfl hin rfl (by decide +kernel) rfl rfl (Nat.le_of_ble_eq_true rfl) (show decode b_X_init 12 = .ok (.putfield 12, 3) by decide +kernel) (fun H locs hP hD hS => ?_)
  have hP : va_P D classes [(h0, .inr (0, [.ref q5, .null, .null, .null])), (q5, .inr (1, [.ref qa, .ref qb, .int 0, .int (-1), .int 0])), (qa, .inl (cI, 274, .inl (fun _ => 0))), (qb, .inl (cI, 8, .inl (fun _ => 0)))] H := hP
  have hD : va_D A [(h0, .inr (0, [.ref q5, .null, .null, .null])), (q5, .inr (1, [.ref qa, .ref qb, .int 0, .int (-1), .int 0])), (qa, .inl (cI, 274, .inl (fun _ => 0))), (qb, .inl (cI, 8, .inl (fun _ => 0)))] := hD
  refine lv_aload_n hx hb (show decode b_X_init 15 = .ok (.aload_n 0, 1) by decide +kernel) rfl (lv_at hl 0 rfl) ?_
  refine lv_bipush (v := nI 86) hx hb (show decode b_X_init 16 = .ok (.bipush 86, 2) by decide +kernel) (by decide) ?_
  refine va_newa (atype := .int) (ty := .int) (N' := 86) (a0 := (86, .inl (fun _ => 0))) hx hb (hts (Jvm.Cond.arrayClass Jvm.ClassFile.FieldType.int) (gw 78 (by decide +kernel) rfl)) rfl hK hP hD hS hA (fun _ => rfl) (by decide) (nI_clamp (by decide)) (Nat.le_of_ble_eq_true rfl) (by show _ ≤ 6; decide) (by show _ ≤ 888; decide) (show decode b_X_init 18 = .ok (.newarray .int, 2) by decide +kernel) (fun qf cA H hK9 hP hD hS => ?_)
  obtain rfl : cI = cA := (arr_sameI hK9 2 0 rfl rfl).symm
  have hP : va_P D classes [(h0, .inr (0, [.ref q5, .null, .null, .null])), (q5, .inr (1, [.ref qa, .ref qb, .int 0, .int (-1), .int 0])), (qa, .inl (cI, 274, .inl (fun _ => 0))), (qb, .inl (cI, 8, .inl (fun _ => 0))), (qf, .inl (cI, 86, .inl (fun _ => 0)))] H := hP
  have hD : va_D A [(h0, .inr (0, [.ref q5, .null, .null, .null])), (q5, .inr (1, [.ref qa, .ref qb, .int 0, .int (-1), .int 0])), (qa, .inl (cI, 274, .inl (fun _ => 0))), (qb, .inl (cI, 8, .inl (fun _ => 0))), (qf, .inl (cI, 86, .inl (fun _ => 0)))] := hD
  refine va_putF (D := D) (ci := 0) (v := .ref qf) (ty := .array .int) (C := R_X) (T := F_X) (N := 4) hx hb hts i_XG t_X t_X_ok n_X hown hK hP hD hS 0 rfl rfl 1 (by decide) (hts (Jvm.Cond.fieldLink "RootedWords" (16 : Nat) "RootedWords" "firsts" "[I") (gw 87 (by decide +kernel) rfl)) (fun _ h9 => h9) rfl hin rfl (by decide +kernel) rfl rfl (Nat.le_of_ble_eq_true rfl) (show decode b_X_init 20 = .ok (.putfield 16, 3) by decide +kernel) (fun H locs hP hD hS => ?_)
  have hP : va_P D classes [(h0, .inr (0, [.ref q5, .ref qf, .null, .null])), (q5, .inr (1, [.ref qa, .ref qb, .int 0, .int (-1), .int 0])), (qa, .inl (cI, 274, .inl (fun _ => 0))), (qb, .inl (cI, 8, .inl (fun _ => 0))), (qf, .inl (cI, 86, .inl (fun _ => 0)))] H := hP
  have hD : va_D A [(h0, .inr (0, [.ref q5, .ref qf, .null, .null])), (q5, .inr (1, [.ref qa, .ref qb, .int 0, .int (-1), .int 0])), (qa, .inl (cI, 274, .inl (fun _ => 0))), (qb, .inl (cI, 8, .inl (fun _ => 0))), (qf, .inl (cI, 86, .inl (fun _ => 0)))] := hD
  refine lv_aload_n hx hb (show decode b_X_init 23 = .ok (.aload_n 0, 1) by decide +kernel) rfl (lv_at hl 0 rfl) ?_
  refine lv_sipush (v := nI 258) hx hb (show decode b_X_init 24 = .ok (.sipush 258, 3) by decide +kernel) (by decide) ?_
  refine va_newa (atype := .int) (ty := .int) (N' := 258) (a0 := (258, .inl (fun _ => 0))) hx hb (hts (Jvm.Cond.arrayClass Jvm.ClassFile.FieldType.int) (gw 78 (by decide +kernel) rfl)) rfl hK hP hD hS hA (fun _ => rfl) (by decide) (nI_clamp (by decide)) (Nat.le_of_ble_eq_true rfl) (by show _ ≤ 6; decide) (by show _ ≤ 888; decide) (show decode b_X_init 27 = .ok (.newarray .int, 2) by decide +kernel) (fun qm cA H hK9 hP hD hS => ?_)
  obtain rfl : cI = cA := (arr_sameI hK9 2 0 rfl rfl).symm
  have hP : va_P D classes [(h0, .inr (0, [.ref q5, .ref qf, .null, .null])), (q5, .inr (1, [.ref qa, .ref qb, .int 0, .int (-1), .int 0])), (qa, .inl (cI, 274, .inl (fun _ => 0))), (qb, .inl (cI, 8, .inl (fun _ => 0))), (qf, .inl (cI, 86, .inl (fun _ => 0))), (qm, .inl (cI, 258, .inl (fun _ => 0)))] H := hP
  have hD : va_D A [(h0, .inr (0, [.ref q5, .ref qf, .null, .null])), (q5, .inr (1, [.ref qa, .ref qb, .int 0, .int (-1), .int 0])), (qa, .inl (cI, 274, .inl (fun _ => 0))), (qb, .inl (cI, 8, .inl (fun _ => 0))), (qf, .inl (cI, 86, .inl (fun _ => 0))), (qm, .inl (cI, 258, .inl (fun _ => 0)))] := hD
  refine va_putF (D := D) (ci := 0) (v := .ref qm) (ty := .array .int) (C := R_X) (T := F_X) (N := 4) hx hb hts i_XG t_X t_X_ok n_X hown hK hP hD hS 0 rfl rfl 2 (by decide) (hts (Jvm.Cond.fieldLink "RootedWords" (20 : Nat) "RootedWords" "marks" "[I") (gw 88 (by decide +kernel) rfl)) (fun _ h9 => h9) rfl hin rfl (by decide +kernel) rfl rfl (Nat.le_of_ble_eq_true rfl) (show decode b_X_init 29 = .ok (.putfield 20, 3) by decide +kernel) (fun H locs hP hD hS => ?_)
  have hP : va_P D classes [(h0, .inr (0, [.ref q5, .ref qf, .ref qm, .null])), (q5, .inr (1, [.ref qa, .ref qb, .int 0, .int (-1), .int 0])), (qa, .inl (cI, 274, .inl (fun _ => 0))), (qb, .inl (cI, 8, .inl (fun _ => 0))), (qf, .inl (cI, 86, .inl (fun _ => 0))), (qm, .inl (cI, 258, .inl (fun _ => 0)))] H := hP
  have hD : va_D A [(h0, .inr (0, [.ref q5, .ref qf, .ref qm, .null])), (q5, .inr (1, [.ref qa, .ref qb, .int 0, .int (-1), .int 0])), (qa, .inl (cI, 274, .inl (fun _ => 0))), (qb, .inl (cI, 8, .inl (fun _ => 0))), (qf, .inl (cI, 86, .inl (fun _ => 0))), (qm, .inl (cI, 258, .inl (fun _ => 0)))] := hD
  refine lv_aload_n hx hb (show decode b_X_init 32 = .ok (.aload_n 0, 1) by decide +kernel) rfl (lv_at hl 0 rfl) ?_
  refine lv_sipush (v := nI 257) hx hb (show decode b_X_init 33 = .ok (.sipush 257, 3) by decide +kernel) (by decide) ?_
  refine va_newa (atype := .int) (ty := .int) (N' := 257) (a0 := (257, .inl (fun _ => 0))) hx hb (hts (Jvm.Cond.arrayClass Jvm.ClassFile.FieldType.int) (gw 78 (by decide +kernel) rfl)) rfl hK hP hD hS hA (fun _ => rfl) (by decide) (nI_clamp (by decide)) (Nat.le_of_ble_eq_true rfl) (by show _ ≤ 6; decide) (by show _ ≤ 888; decide) (show decode b_X_init 36 = .ok (.newarray .int, 2) by decide +kernel) (fun qn cA H hK9 hP hD hS => ?_)
  obtain rfl : cI = cA := (arr_sameI hK9 2 0 rfl rfl).symm
  have hP : va_P D classes [(h0, .inr (0, [.ref q5, .ref qf, .ref qm, .null])), (q5, .inr (1, [.ref qa, .ref qb, .int 0, .int (-1), .int 0])), (qa, .inl (cI, 274, .inl (fun _ => 0))), (qb, .inl (cI, 8, .inl (fun _ => 0))), (qf, .inl (cI, 86, .inl (fun _ => 0))), (qm, .inl (cI, 258, .inl (fun _ => 0))), (qn, .inl (cI, 257, .inl (fun _ => 0)))] H := hP
  have hD : va_D A [(h0, .inr (0, [.ref q5, .ref qf, .ref qm, .null])), (q5, .inr (1, [.ref qa, .ref qb, .int 0, .int (-1), .int 0])), (qa, .inl (cI, 274, .inl (fun _ => 0))), (qb, .inl (cI, 8, .inl (fun _ => 0))), (qf, .inl (cI, 86, .inl (fun _ => 0))), (qm, .inl (cI, 258, .inl (fun _ => 0))), (qn, .inl (cI, 257, .inl (fun _ => 0)))] := hD
  refine va_putF (D := D) (ci := 0) (v := .ref qn) (ty := .array .int) (C := R_X) (T := F_X) (N := 4) hx hb hts i_XG t_X t_X_ok n_X hown hK hP hD hS 0 rfl rfl 3 (by decide) (hts (Jvm.Cond.fieldLink "RootedWords" (23 : Nat) "RootedWords" "found" "[I") (gw 89 (by decide +kernel) rfl)) (fun _ h9 => h9) rfl hin rfl (by decide +kernel) rfl rfl (Nat.le_of_ble_eq_true rfl) (show decode b_X_init 38 = .ok (.putfield 23, 3) by decide +kernel) (fun H locs hP hD hS => ?_)
  have hP : va_P D classes [(h0, .inr (0, [.ref q5, .ref qf, .ref qm, .ref qn])), (q5, .inr (1, [.ref qa, .ref qb, .int 0, .int (-1), .int 0])), (qa, .inl (cI, 274, .inl (fun _ => 0))), (qb, .inl (cI, 8, .inl (fun _ => 0))), (qf, .inl (cI, 86, .inl (fun _ => 0))), (qm, .inl (cI, 258, .inl (fun _ => 0))), (qn, .inl (cI, 257, .inl (fun _ => 0)))] H := hP
  have hD : va_D A [(h0, .inr (0, [.ref q5, .ref qf, .ref qm, .ref qn])), (q5, .inr (1, [.ref qa, .ref qb, .int 0, .int (-1), .int 0])), (qa, .inl (cI, 274, .inl (fun _ => 0))), (qb, .inl (cI, 8, .inl (fun _ => 0))), (qf, .inl (cI, 86, .inl (fun _ => 0))), (qm, .inl (cI, 258, .inl (fun _ => 0))), (qn, .inl (cI, 257, .inl (fun _ => 0)))] := hD
  refine lv_aload_n hx hb (show decode b_X_init 41 = .ok (.aload_n 0, 1) by decide +kernel) rfl (lv_at hl 0 rfl) ?_
  refine va_get (D := D) (ci := 0) (v := .ref q5) (C := R_X) (T := F_X) (N := 4) hx hb hts i_XG hown hK hP 0 rfl rfl 0 (by decide) (hts (Jvm.Cond.fieldLink "RootedWords" (12 : Nat) "RootedWords" "disk" "LRootedWords$Disk;") (gw 86 (by decide +kernel) rfl)) (fun _ h9 => h9) rfl (show decode b_X_init 42 = .ok (.getfield 12, 3) by decide +kernel) ?_
  refine lv_iconst (v := 1) hx hb (show decode b_X_init 45 = .ok (.iconst 1, 1) by decide +kernel) (by decide) ?_
  refine lv_sipush (v := nI 256) hx hb (show decode b_X_init 46 = .ok (.sipush 256, 3) by decide +kernel) (by decide) ?_
  refine lv_iconst (v := 0) hx hb (show decode b_X_init 49 = .ok (.iconst 0, 1) by decide +kernel) (by decide) ?_
  have hFc := va_free (wc := []) hD hS hA [] rfl
  refine va_calli (va_runS (As := [.int (nI 256), .int 0]) (rest := [.int (1), .ref q5]) ⟨hx, hb, hml, hown, hts⟩ (c_tag0 l (nI 256) 0 H.size) (cwS 2 hts gs_tag rfl rfl rfl ⟨rfl, by decide, by decide, by decide +kernel⟩ ⟨Nat.le_of_ble_eq_true rfl, Nat.le_of_ble_eq_true rfl⟩) ⟨fun a U g mk q => ⟨q.1, q.2⟩, fun U hU hW => ⟨rfl, congrArg Array.size hU⟩⟩ rfl rfl hl.1 rfl (lv_room (Nat.le_of_ble_eq_true rfl)) (show decode b_X_init 50 = .ok (.invokestatic 26, 3) by decide +kernel) ⟨by show _ ≤ 6; decide, by show _ ≤ 888; decide⟩) hS (fun q _ h => hFc q h) hFc (fun r u t H1 locs ht hvm hw hB hz1 hk1 hS => ?_)
  obtain ⟨hP, hD⟩ := va_join (wr := [(h0, .inr (0, [.ref q5, .ref qf, .ref qm, .ref qn])), (q5, .inr (1, [.ref qa, .ref qb, .int 0, .int (-1), .int 0])), (qa, .inl (cI, 274, .inl (fun _ => 0))), (qb, .inl (cI, 8, .inl (fun _ => 0))), (qf, .inl (cI, 86, .inl (fun _ => 0))), (qm, .inl (cI, 258, .inl (fun _ => 0))), (qn, .inl (cI, 257, .inl (fun _ => 0)))]) (w1 := []) hP hD [] [0, 1, 2, 3, 4, 5, 6] rfl rfl (by decide) (by decide) hk1 hFc (fun k q h => by simp at h) ⟨fun i j p q h => by simp at h, fun k q h => by simp at h⟩
  subst hw
  generalize H1 = H at hP hS ⊢
  have hP : va_P D classes [(h0, .inr (0, [.ref q5, .ref qf, .ref qm, .ref qn])), (q5, .inr (1, [.ref qa, .ref qb, .int 0, .int (-1), .int 0])), (qa, .inl (cI, 274, .inl (fun _ => 0))), (qb, .inl (cI, 8, .inl (fun _ => 0))), (qf, .inl (cI, 86, .inl (fun _ => 0))), (qm, .inl (cI, 258, .inl (fun _ => 0))), (qn, .inl (cI, 257, .inl (fun _ => 0)))] H := hP
  have hD : va_D A [(h0, .inr (0, [.ref q5, .ref qf, .ref qm, .ref qn])), (q5, .inr (1, [.ref qa, .ref qb, .int 0, .int (-1), .int 0])), (qa, .inl (cI, 274, .inl (fun _ => 0))), (qb, .inl (cI, 8, .inl (fun _ => 0))), (qf, .inl (cI, 86, .inl (fun _ => 0))), (qm, .inl (cI, 258, .inl (fun _ => 0))), (qn, .inl (cI, 257, .inl (fun _ => 0)))] := hD
  have hPc := hP.sub (ws' := pW cI q5 qa qb (fun _ => 0)) [1, 2] rfl
  have hDc := hD.sub (ws' := pW cI q5 qa qb (fun _ => 0)) [1, 2] (by decide) rfl
  have hFc := va_free (wc := pW cI q5 qa qb (fun _ => 0)) hD hS hA [1, 2] rfl
  refine va_callv (va_runV (C := R_D) (As := [.int (nI 1), .int (nI 256 * nI 256 + 0)]) (rest := []) ⟨hx, hb, hml, hown, hts⟩ (c_preset0 l D cI cB q5 qa qb H.size (fun _ => 0) 1 (by decide) (nI 256 * nI 256 + 0)) (cwV 2 hts gv_preset rfl rfl rfl ⟨rfl, by decide, by decide, by decide +kernel⟩ ⟨Nat.le_of_ble_eq_true rfl, Nat.le_of_ble_eq_true rfl⟩) ⟨fun a U g mk q => by obtain ⟨q0, q1, qP, qK, qD⟩ := q; exact ⟨q0, q1, qP, va_K.moved (u := U) (U := U.calling g mk a) (Vm.Alike.refl U.vm) qK, qD⟩, va_recv hK hP (ci := 1) (q0 := 1) rfl rfl, fun U hU hW => ⟨rfl, by rw [hU], by rw [hU]; exact hPc, va_K.moved hW.alike hK, hDc.weaken (fun _ _ _ _ => trivial)⟩⟩ rfl rfl hl.1 rfl (lv_room (Nat.le_of_ble_eq_true rfl)) (show decode b_X_init 53 = .ok (.invokevirtual 30, 3) by decide +kernel) ⟨by show _ ≤ 6; decide, by show _ ≤ 888; decide⟩) hS (fun q _ h => hFc q h) hFc (fun u t H1 locs ht hvm hw hB hz1 hk1 hS => ?_)
  obtain ⟨hP1, hD1⟩ := hB
  rw [ht] at hP1
  obtain ⟨hP, hD⟩ := va_join (wr := [(h0, .inr (0, [.ref q5, .ref qf, .ref qm, .ref qn])), (qb, .inl (cI, 8, .inl (fun _ => 0))), (qf, .inl (cI, 86, .inl (fun _ => 0))), (qm, .inl (cI, 258, .inl (fun _ => 0))), (qn, .inl (cI, 257, .inl (fun _ => 0)))]) (w1 := pW cI q5 qa qb (upd (fun _ => 0) 1 (nI 256 * nI 256 + 0))) hP hD [1, 2] [0, 3, 4, 5, 6] rfl rfl (by decide) (by decide) hk1 hFc hP1 hD1
  generalize H1 = H at hP hS ⊢
  have hP : va_P D classes [(h0, .inr (0, [.ref q5, .ref qf, .ref qm, .ref qn])), (qb, .inl (cI, 8, .inl (fun _ => 0))), (qf, .inl (cI, 86, .inl (fun _ => 0))), (qm, .inl (cI, 258, .inl (fun _ => 0))), (qn, .inl (cI, 257, .inl (fun _ => 0))), (q5, .inr (1, [.ref qa, .ref qb, .int 0, .int (-1), .int 0])), (qa, .inl (cI, 274, .inl (upd (fun _ => 0) 1 (nI 256 * nI 256 + 0))))] H := hP
  have hD : va_D A [(h0, .inr (0, [.ref q5, .ref qf, .ref qm, .ref qn])), (qb, .inl (cI, 8, .inl (fun _ => 0))), (qf, .inl (cI, 86, .inl (fun _ => 0))), (qm, .inl (cI, 258, .inl (fun _ => 0))), (qn, .inl (cI, 257, .inl (fun _ => 0))), (q5, .inr (1, [.ref qa, .ref qb, .int 0, .int (-1), .int 0])), (qa, .inl (cI, 274, .inl (upd (fun _ => 0) 1 (nI 256 * nI 256 + 0))))] := hD
  refine lv_aload_n hx hb (show decode b_X_init 56 = .ok (.aload_n 0, 1) by decide +kernel) rfl (lv_at hl 0 rfl) ?_
  refine va_get (D := D) (ci := 0) (v := .ref q5) (C := R_X) (T := F_X) (N := 4) hx hb hts i_XG hown hK hP 0 rfl rfl 0 (by decide) (hts (Jvm.Cond.fieldLink "RootedWords" (12 : Nat) "RootedWords" "disk" "LRootedWords$Disk;") (gw 86 (by decide +kernel) rfl)) (fun _ h9 => h9) rfl (show decode b_X_init 57 = .ok (.getfield 12, 3) by decide +kernel) ?_
  refine lv_sipush (v := nI 256) hx hb (show decode b_X_init 60 = .ok (.sipush 256, 3) by decide +kernel) (by decide) ?_
  refine lv_sipush (v := nI 256) hx hb (show decode b_X_init 63 = .ok (.sipush 256, 3) by decide +kernel) (by decide) ?_
  refine lv_iconst (v := 0) hx hb (show decode b_X_init 66 = .ok (.iconst 0, 1) by decide +kernel) (by decide) ?_
  have hFc := va_free (wc := []) hD hS hA [] rfl
  refine va_calli (va_runS (As := [.int (nI 256), .int 0]) (rest := [.int (nI 256), .ref q5]) ⟨hx, hb, hml, hown, hts⟩ (c_tag0 l (nI 256) 0 H.size) (cwS 2 hts gs_tag rfl rfl rfl ⟨rfl, by decide, by decide, by decide +kernel⟩ ⟨Nat.le_of_ble_eq_true rfl, Nat.le_of_ble_eq_true rfl⟩) ⟨fun a U g mk q => ⟨q.1, q.2⟩, fun U hU hW => ⟨rfl, congrArg Array.size hU⟩⟩ rfl rfl hl.1 rfl (lv_room (Nat.le_of_ble_eq_true rfl)) (show decode b_X_init 67 = .ok (.invokestatic 26, 3) by decide +kernel) ⟨by show _ ≤ 6; decide, by show _ ≤ 888; decide⟩) hS (fun q _ h => hFc q h) hFc (fun r u t H1 locs ht hvm hw hB hz1 hk1 hS => ?_)
  obtain ⟨hP, hD⟩ := va_join (wr := [(h0, .inr (0, [.ref q5, .ref qf, .ref qm, .ref qn])), (qb, .inl (cI, 8, .inl (fun _ => 0))), (qf, .inl (cI, 86, .inl (fun _ => 0))), (qm, .inl (cI, 258, .inl (fun _ => 0))), (qn, .inl (cI, 257, .inl (fun _ => 0))), (q5, .inr (1, [.ref qa, .ref qb, .int 0, .int (-1), .int 0])), (qa, .inl (cI, 274, .inl (upd (fun _ => 0) 1 (nI 256 * nI 256 + 0))))]) (w1 := []) hP hD [] [0, 1, 2, 3, 4, 5, 6] rfl rfl (by decide) (by decide) hk1 hFc (fun k q h => by simp at h) ⟨fun i j p q h => by simp at h, fun k q h => by simp at h⟩
  subst hw
  generalize H1 = H at hP hS ⊢
  have hP : va_P D classes [(h0, .inr (0, [.ref q5, .ref qf, .ref qm, .ref qn])), (qb, .inl (cI, 8, .inl (fun _ => 0))), (qf, .inl (cI, 86, .inl (fun _ => 0))), (qm, .inl (cI, 258, .inl (fun _ => 0))), (qn, .inl (cI, 257, .inl (fun _ => 0))), (q5, .inr (1, [.ref qa, .ref qb, .int 0, .int (-1), .int 0])), (qa, .inl (cI, 274, .inl (upd (fun _ => 0) 1 (nI 256 * nI 256 + 0))))] H := hP
  have hD : va_D A [(h0, .inr (0, [.ref q5, .ref qf, .ref qm, .ref qn])), (qb, .inl (cI, 8, .inl (fun _ => 0))), (qf, .inl (cI, 86, .inl (fun _ => 0))), (qm, .inl (cI, 258, .inl (fun _ => 0))), (qn, .inl (cI, 257, .inl (fun _ => 0))), (q5, .inr (1, [.ref qa, .ref qb, .int 0, .int (-1), .int 0])), (qa, .inl (cI, 274, .inl (upd (fun _ => 0) 1 (nI 256 * nI 256 + 0))))] := hD
  have hPc := hP.sub (ws' := pW cI q5 qa qb (upd (fun _ => 0) 1 (nI 256 * nI 256 + 0))) [5, 6] rfl
  have hDc := hD.sub (ws' := pW cI q5 qa qb (upd (fun _ => 0) 1 (nI 256 * nI 256 + 0))) [5, 6] (by decide) rfl
  have hFc := va_free (wc := pW cI q5 qa qb (upd (fun _ => 0) 1 (nI 256 * nI 256 + 0))) hD hS hA [5, 6] rfl
  refine va_callv (va_runV (C := R_D) (As := [.int (nI 256), .int (nI 256 * nI 256 + 0)]) (rest := []) ⟨hx, hb, hml, hown, hts⟩ (c_preset0 l D cI cB q5 qa qb H.size (upd (fun _ => 0) 1 (nI 256 * nI 256 + 0)) 256 (by decide) (nI 256 * nI 256 + 0)) (cwV 2 hts gv_preset rfl rfl rfl ⟨rfl, by decide, by decide, by decide +kernel⟩ ⟨Nat.le_of_ble_eq_true rfl, Nat.le_of_ble_eq_true rfl⟩) ⟨fun a U g mk q => by obtain ⟨q0, q1, qP, qK, qD⟩ := q; exact ⟨q0, q1, qP, va_K.moved (u := U) (U := U.calling g mk a) (Vm.Alike.refl U.vm) qK, qD⟩, va_recv hK hP (ci := 1) (q0 := 5) rfl rfl, fun U hU hW => ⟨rfl, by rw [hU], by rw [hU]; exact hPc, va_K.moved hW.alike hK, hDc.weaken (fun _ _ _ _ => trivial)⟩⟩ rfl rfl hl.1 rfl (lv_room (Nat.le_of_ble_eq_true rfl)) (show decode b_X_init 70 = .ok (.invokevirtual 30, 3) by decide +kernel) ⟨by show _ ≤ 6; decide, by show _ ≤ 888; decide⟩) hS (fun q _ h => hFc q h) hFc (fun u t H1 locs ht hvm hw hB hz1 hk1 hS => ?_)
  obtain ⟨hP1, hD1⟩ := hB
  rw [ht] at hP1
  obtain ⟨hP, hD⟩ := va_join (wr := [(h0, .inr (0, [.ref q5, .ref qf, .ref qm, .ref qn])), (qb, .inl (cI, 8, .inl (fun _ => 0))), (qf, .inl (cI, 86, .inl (fun _ => 0))), (qm, .inl (cI, 258, .inl (fun _ => 0))), (qn, .inl (cI, 257, .inl (fun _ => 0)))]) (w1 := pW cI q5 qa qb (upd (upd (fun _ => 0) 1 (nI 256 * nI 256 + 0)) 256 (nI 256 * nI 256 + 0))) hP hD [5, 6] [0, 1, 2, 3, 4] rfl rfl (by decide) (by decide) hk1 hFc hP1 hD1
  generalize H1 = H at hP hS ⊢
  have hP : va_P D classes [(h0, .inr (0, [.ref q5, .ref qf, .ref qm, .ref qn])), (qb, .inl (cI, 8, .inl (fun _ => 0))), (qf, .inl (cI, 86, .inl (fun _ => 0))), (qm, .inl (cI, 258, .inl (fun _ => 0))), (qn, .inl (cI, 257, .inl (fun _ => 0))), (q5, .inr (1, [.ref qa, .ref qb, .int 0, .int (-1), .int 0])), (qa, .inl (cI, 274, .inl (upd (upd (fun _ => 0) 1 (nI 256 * nI 256 + 0)) 256 (nI 256 * nI 256 + 0))))] H := hP
  have hD : va_D A [(h0, .inr (0, [.ref q5, .ref qf, .ref qm, .ref qn])), (qb, .inl (cI, 8, .inl (fun _ => 0))), (qf, .inl (cI, 86, .inl (fun _ => 0))), (qm, .inl (cI, 258, .inl (fun _ => 0))), (qn, .inl (cI, 257, .inl (fun _ => 0))), (q5, .inr (1, [.ref qa, .ref qb, .int 0, .int (-1), .int 0])), (qa, .inl (cI, 274, .inl (upd (upd (fun _ => 0) 1 (nI 256 * nI 256 + 0)) 256 (nI 256 * nI 256 + 0))))] := hD
  refine W.widen (k := 6) (n := 888) (by decide) (by decide) ?_
  exact W.vret hx hb hr (fun t ht hW => ⟨⟨(q5, qa, qb, qf, qm, qn), rfl, trivial, by rw [ht]; exact hP, hD⟩, hS.F ht⟩) hS.2.2 (show decode b_X_init 73 = .ok (.return_, 1) by decide +kernel)
