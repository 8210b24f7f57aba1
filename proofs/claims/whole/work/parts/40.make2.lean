/-! ===== tag and preset where the world isn't whole yet ===== -/
set_option maxHeartbeats 4000000 in
set_option maxRecDepth 100000 in
theorem c_tag0 (l : Launch) (a b : Int32) (sz : Nat) : Met l y_X_tag (.code y_X_tag b_X_tag 2 (some .int) :: gtbl) ({ frames := 0, cells := 0, slots := 0, locals := 0 }) (va_Pc [.int a, .int b] (fun U => U.heap.size = sz)) (va_Qi (fun r (_ : Unit) => r = a * nI 256 + b) (fun _ _ => True) (va_A [] sz)) 0 0 (va_A [] sz) := by
  refine Met.ofW (cc := b_X_tag) (maxL := 2) (ret := some .int) (by decide) rfl ?_
  intro p e s m args below meth c s₁ B hml hv
  obtain ⟨rfl, hsz⟩ := hv
  have hx := B.exec
  have hb := B.bytes
  have hr := B.returns
  have hlocks := B.notSynchronized
  subst hsz
  have hS : va_S (va_A [] s.heap.size) s.heap s.heap [] := va_S.rf
  have hl := lv_entry ([.int a, .int b]) (n := 2) (Nat.le_of_ble_eq_true rfl)
  rw [lg_entry_eq]
  generalize (lg_sl ([.int a, .int b]) ++ List.replicate (2 - (lg_sl ([.int a, .int b])).length) Slot.unset).toArray = ls at hl ⊢
  have hl : lv_has ls 2 [(0, .int a), (1, .int b)] := hl
  refine lv_iload_n hx hb (show decode b_X_tag 0 = .ok (.iload_n 0, 1) by decide +kernel) rfl (lv_at hl 0 rfl) ?_
  refine lv_sipush (v := nI 256) hx hb (show decode b_X_tag 1 = .ok (.sipush 256, 3) by decide +kernel) (by decide) ?_
  refine lv_imul hx hb (show decode b_X_tag 4 = .ok (.imul, 1) by decide +kernel) ?_
  refine lv_iload_n hx hb (show decode b_X_tag 5 = .ok (.iload_n 1, 1) by decide +kernel) rfl (lv_at hl 1 rfl) ?_
  refine lv_iadd hx hb (show decode b_X_tag 6 = .ok (.iadd, 1) by decide +kernel) ?_
  exact W.iret hx hb hr (fun t ht hW => ⟨⟨_, (), rfl, rfl, trivial⟩, hS.F ht⟩) hS.2.2 (show decode b_X_tag 7 = .ok (.ireturn, 1) by decide +kernel)
def pW (cI : ClassId) (h1 q2 q3 : Nat) (f : Nat → Int32) : va_W := [(h1, .inr (1, [.ref q2, .ref q3, .int 0, .int (-1), .int 0])), (q2, .inl (cI, 274, .inl f))]
set_option maxHeartbeats 4000000 in
set_option maxRecDepth 100000 in
theorem c_preset0 (l : Launch) (D : va_G) (cI cB : ClassId) (h1 q2 q3 sz : Nat) (f : Nat → Int32) (i : Nat) (hi : i < 274) (v : Int32) : Met l y_D_preset (.code y_D_preset b_D_preset 3 none :: gtbl) ({ frames := 0, cells := 0, slots := 0, locals := 0 })
    (va_Pc [.ref h1, .int (nI i), .int v] (fun U => U.heap.size = sz ∧ va_P D classes (pW cI h1 q2 q3 f) U.heap ∧ va_K D classes [(cI, .int), (cB, .boolean)] U ∧ va_D (fun _ => True) (pW cI h1 q2 q3 f)))
    (va_Qv (fun _ : Unit => True) (fun _ t => va_P D classes (pW cI h1 q2 q3 (upd f i v)) t.heap ∧ va_D (va_A (pW cI h1 q2 q3 f) sz) (pW cI h1 q2 q3 (upd f i v))) (va_A (pW cI h1 q2 q3 f) sz)) 0 0 (va_A (pW cI h1 q2 q3 f) sz) := by
  refine Met.ofW (cc := b_D_preset) (maxL := 3) (ret := none) (by decide) rfl ?_
  intro p e s m args below meth c s₁ B hml hv
  obtain ⟨rfl, hsz, hP, hK, hD0⟩ := hv
  have hx := B.exec
  have hb := B.bytes
  have hr := B.returns
  have hts0 := atoms_spec (ws := .code y_D_preset b_D_preset 3 none :: gtbl) B.pre
  have hts : ∀ w ∈ gtbl, w.before _ s = true := fun w hw => hts0 w (List.mem_cons_of_mem _ hw)
  have hown : s.vm.findClass R_D = some m.cls := findClass_of_methodNamed B.named
  have hlocks := B.notSynchronized
  subst hsz
  have hD := hD0.self (sz := s.heap.size)
  generalize hAe : va_A (pW cI h1 q2 q3 f) s.heap.size = A at hD ⊢
  have hS : va_S A s.heap s.heap [] := va_S.rf
  have hP : va_P D classes [(h1, .inr (1, [.ref q2, .ref q3, .int 0, .int (-1), .int 0])), (q2, .inl (cI, 274, .inl f))] s.heap := hP
  have hD : va_D A [(h1, .inr (1, [.ref q2, .ref q3, .int 0, .int (-1), .int 0])), (q2, .inl (cI, 274, .inl f))] := hD
  have hl := lv_entry ([.ref h1, .int (nI i), .int v]) (n := 3) (Nat.le_of_ble_eq_true rfl)
  rw [lg_entry_eq]
  generalize (lg_sl ([.ref h1, .int (nI i), .int v]) ++ List.replicate (3 - (lg_sl ([.ref h1, .int (nI i), .int v])).length) Slot.unset).toArray = ls at hl ⊢
  have hl : lv_has ls 3 [(0, .ref h1), (1, .int (nI i)), (2, .int v)] := hl
  refine lv_aload_n hx hb (show decode b_D_preset 0 = .ok (.aload_n 0, 1) by decide +kernel) rfl (lv_at hl 0 rfl) ?_
  refine va_get (D := D) (ci := 1) (v := .ref q2) (C := R_D) (T := F_D) (N := 5) hx hb hts i_DG hown hK hP 0 rfl rfl 0 (by decide) (hts (Jvm.Cond.fieldLink "RootedWords$Disk" (11 : Nat) "RootedWords$Disk" "words" "[I") (gw 62 (by decide +kernel) rfl)) (fun _ h9 => h9) rfl (show decode b_D_preset 1 = .ok (.getfield 11, 3) by decide +kernel) ?_
  refine lv_iload_n hx hb (show decode b_D_preset 4 = .ok (.iload_n 1, 1) by decide +kernel) rfl (lv_at hl 1 rfl) ?_
  refine lv_iload_n hx hb (show decode b_D_preset 5 = .ok (.iload_n 2, 1) by decide +kernel) rfl (lv_at hl 2 rfl) ?_
  refine va_iast hx hb hK hP hD hS 1 0 rfl rfl (vp_in_nI hi (by decide)) (show decode b_D_preset 6 = .ok (.iastore, 1) by decide +kernel) (fun H locs hP hD hS => ?_)
  rw [nI_clamp (by omega)] at hP hD
  exact W.vret hx hb hr (fun t ht hW => ⟨⟨(), rfl, trivial, by rw [ht]; exact hP, hD⟩, hS.F ht⟩) hS.2.2 (show decode b_D_preset 7 = .ok (.return_, 1) by decide +kernel)
