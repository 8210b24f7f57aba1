/-! ===== the law from its entry ===== -/
def mem0 : Mem := fun a => match a with
  | 1 => fun k => match k with | 3 => -1 | _ => 0
  | 2 => upd (upd (fun _ => 0) 1 (nI 256 * nI 256 + 0)) 256 (nI 256 * nI 256 + 0)
  | 7 => fun k => match k with | 1 => 1 | 10 => -1 | _ => 0
  | 8 => upd (fun _ => 0) 0 1
  | 9 => upd (fun _ => 0) 0 (nI 256)
  | _ => fun _ => 0
theorem tag0 : nI 256 * nI 256 + 0 = nI (256 * 256 + 0) := by decide
theorem J0 : J mem0 := by
  refine ⟨⟨Or.inl rfl, Or.inl rfl, rfl, rfl, rfl, fun _ => Or.inl rfl⟩, 1, fun _ => 256, fun _ => 0, 0, ⟨⟨rfl, fun i _ => ⟨by show 3 ≤ 256; decide, by show 0 + 1 ≤ 256; decide⟩⟩, rfl, fun i hi => ?_⟩, rfl, ⟨?_, by decide, fun i hi => absurd hi (Nat.not_lt_zero i)⟩, fun _ => rfl, ⟨⟨rfl, fun i hi => ?_⟩, fun r hr => ?_, fun e he hk => absurd rfl hk⟩⟩
  · obtain rfl : i = 0 := by omega
    exact ⟨rfl, rfl, rfl, fun z => absurd rfl z⟩
  · show upd (upd (fun _ => 0) 1 (nI 256 * nI 256 + 0)) 256 (nI 256 * nI 256 + 0) 265 = nI 0
    rw [upd_n _ _ (by decide), upd_n _ _ (by decide)]; rfl
  · obtain rfl : i = 0 := by omega
    refine ⟨by show 3 ≤ 256; decide, by show 0 + 1 ≤ 256; decide, ?_, ?_⟩
    · show upd (upd (fun _ => 0) 1 (nI 256 * nI 256 + 0)) 256 (nI 256 * nI 256 + 0) 1 = nI (256 * 256 + 0)
      rw [upd_n _ _ (by decide), upd_s, tag0]
    · show upd (upd (fun _ => 0) 1 (nI 256 * nI 256 + 0)) 256 (nI 256 * nI 256 + 0) 256 = nI (256 * 256 + 0)
      rw [upd_s, tag0]
  · show upd (upd (fun _ => 0) 1 (nI 256 * nI 256 + 0)) 256 (nI 256 * nI 256 + 0) (257 + r) = 0
    rw [upd_n _ _ (by omega), upd_n _ _ (by omega)]
theorem mw_at (g : GT) (σ : Mem) {k : Nat} (h : k < 16) : (mw g σ)[k]? = some (gad g k, ew g σ k) := by
  match k, h with
  | 0, _ | 1, _ | 2, _ | 3, _ | 4, _ | 5, _ | 6, _ | 7, _ | 8, _ | 9, _ | 10, _ | 11, _ | 12, _ | 13, _ | 14, _ | 15, _ => rfl
  | z + 16, hz => exact absurd hz (by omega)
theorem mw_lt (g : GT) (σ : Mem) {k : Nat} {p : Nat × va_E} (h : (mw g σ)[k]? = some p) : k < 16 := (List.getElem?_eq_some_iff.mp h).1
theorem mw_D {A : Nat → Prop} {g : GT} {σ : Mem} (h : va_D A (mw g σ)) (τ : Mem) : va_D A (mw g τ) := by
  have key : ∀ k p, (mw g τ)[k]? = some p → p.1 = gad g k ∧ k < 16 := fun k p hp => by
    have hk := mw_lt g τ hp
    rw [mw_at g τ hk] at hp
    cases hp
    exact ⟨rfl, hk⟩
  refine ⟨fun i j p q hp hq e => ?_, fun k q hq => ?_⟩
  · obtain ⟨e1, h1⟩ := key i p hp
    obtain ⟨e2, h2⟩ := key j q hq
    exact h.1 i j _ _ (mw_at g σ h1) (mw_at g σ h2) (by rw [← e1, ← e2]; exact e)
  · obtain ⟨e1, h1⟩ := key k q hq
    rw [e1]
    exact h.2 k _ (mw_at g σ h1)
theorem gi_X_init : GoodIn gtbl (wsI0 y_X_init b_X_init) := good_in (by
  intro w hw
  rcases List.mem_cons.mp hw with rfl | h
  · exact gw 52 (by decide +kernel) rfl
  · exact h)
theorem gi_M_init : GoodIn gtbl (wsI0 y_M_init b_M_init) := good_in (by
  intro w hw
  rcases List.mem_cons.mp hw with rfl | h
  · exact gw 478 (by decide +kernel) rfl
  · exact h)
set_option maxHeartbeats 4000000 in
set_option maxRecDepth 100000 in
theorem whole_start {p : Program} {e : Env} {s : State} {m : MethodId} {below : List Frame} {meth : Method} {c : Code} (l : Launch) (hflags : l.flags = flags0) {b L : Nat} {xs : Nat → Int32} (hL : L ≤ 2048) (C0 : lw_At p s m meth c b L xs) : W p l e room_1 s m #[Value.ref b] below meth c s.heap [] 0 0 (lw_Z below #[Value.ref b] s) (entryFrame m ([Value.ref b] : List Value).toArray 7) := by
  obtain ⟨hx, hb, hr, hml, hown, hts, hX, hbl, hlocks, hgv⟩ := id C0
  obtain ⟨D, cI, cB, cL, hK, hdt, hstr, hnc, hzA, hzB, hNw⟩ := kg0 C0
  have hK2 : va_K D classes [(cI, .int), (cB, .boolean)] s := hK.sub [0, 1] rfl
  have htsG : ∀ w ∈ gtbl, w.before #[Value.ref b] s = true := fun w hw => hts w (lw_gt hw)
  have hA : ∀ q : Nat, s.heap.size ≤ q → (fun q : Nat => s.heap.size ≤ q) q := fun _ h => h
  have hS : va_S (fun q : Nat => s.heap.size ≤ q) s.heap s.heap [] := va_S.rf
  have hP : va_P D classes [] s.heap := fun k q h => by simp at h
  have hD : va_D (fun q : Nat => s.heap.size ≤ q) [] := ⟨fun i j p q h => by simp at h, fun k q h => by simp at h⟩
  have hl := lv_entry ([.ref b]) (n := 7) (Nat.le_of_ble_eq_true rfl)
  rw [lg_entry_eq]
  generalize (lg_sl ([.ref b]) ++ List.replicate (7 - (lg_sl ([.ref b])).length) Slot.unset).toArray = ls at hl ⊢
  have hl : lv_has ls 7 [(0, .ref b)] := hl
  refine va_new (ci := 0) (fs := [.null, .null, .null, .null]) (C := R_X) (T := F_X) (N := 4) hx hb htsG i_XG t_X t_X_ok hown (hts (Jvm.Cond.classLink "RootedWordsLaw" (8 : Nat) "RootedWords") (lw_gt (gw 48 (by decide +kernel) rfl))) (hts (Jvm.Cond.instantiable "RootedWords" (4 : Nat)) (lw_gt (gw 49 (by decide +kernel) rfl))) (hts (Jvm.Cond.initialized "RootedWords") (lw_gt (gw 36 (by decide +kernel) rfl))) hK hP hD hS hA rfl (fun j hj => by rcases (show j = 0 ∨ j = 1 ∨ j = 2 ∨ j = 3 by omega) with rfl | rfl | rfl | rfl <;> rfl) (Nat.le_of_ble_eq_true rfl) (Nat.le_of_ble_eq_true rfl) (show decode code 0 = .ok (.new 8, 3) by decide +kernel) (fun q0 H hP hD hS => ?_)
  have hP : va_P D classes [(q0, .inr (0, [.null, .null, .null, .null]))] H := hP
  have hD : va_D (fun q : Nat => s.heap.size ≤ q) [(q0, .inr (0, [.null, .null, .null, .null]))] := hD
  refine lv_dup hx hb (show decode code 3 = .ok (.dup, 1) by decide +kernel) rfl ?_
  have hPc := hP.sub (ws' := mdW0X q0) [0] rfl
  have hDc := hD.sub (ws' := mdW0X q0) [0] (by decide) rfl
  have hFc := va_free (wc := mdW0X q0) hD hS hA [0] rfl
  refine va_callv (va_runI (As := []) (rest := [.ref q0]) ⟨hx, hb, hml, hown, htsG⟩ (c_X_init l D cI cB q0 H.size) (cwI 0 htsG gi_X_init rfl rfl rfl (hts (Jvm.Cond.initialized "RootedWords") (lw_gt (gw 36 (by decide +kernel) rfl))) (hts (Jvm.Cond.methodLink "RootedWordsLaw" (59 : Nat) ({ cls := "RootedWords", name := "<init>", desc := "()V" } : Jvm.MethodName)) (lw_gt (gw 50 (by decide +kernel) rfl))) (hts (Jvm.Cond.instanceMethod ({ cls := "RootedWords", name := "<init>", desc := "()V" } : Jvm.MethodName)) (lw_gt (gw 51 (by decide +kernel) rfl))) rfl (by decide +kernel) ⟨Nat.le_of_ble_eq_true rfl, Nat.le_of_ble_eq_true rfl⟩) ⟨fun a U g mk q => by obtain ⟨z0, z1, qP, ⟨qK, qN⟩, qD⟩ := q; exact ⟨z0, z1, qP, ⟨va_K.moved (u := U) (U := U.calling g mk a) (Vm.Alike.refl U.vm) qK, va_Nw.same (u := U) (U := U.calling g mk a) rfl rfl qN⟩, qD⟩, fun U hU hW => ⟨rfl, by rw [hU], by rw [hU]; exact hPc, ⟨va_K.moved hW.alike hK2, va_Nw.warmM hW hNw⟩, hDc.weaken (fun _ _ _ _ => trivial)⟩⟩ rfl rfl hl.1 rfl (lv_room (Nat.le_of_ble_eq_true rfl)) (show decode code 4 = .ok (.invokespecial 59, 3) by decide +kernel) ⟨Nat.le_of_ble_eq_true rfl, Nat.le_of_ble_eq_true rfl⟩) hS (fun q _ h => hFc q h) hFc (fun u t H1 locs ht hvm hw hB hz1 hk1 hS => ?_)
  obtain ⟨q5, qa, qb, qf, qm, qn⟩ := u
  obtain ⟨hP1, hD1⟩ := hB
  rw [ht] at hP1
  obtain ⟨hP, hD⟩ := va_join (wr := []) (w1 := mdWX cI q0 (q5, qa, qb, qf, qm, qn)) hP hD [0] [] rfl rfl (by decide) (by decide) hk1 hFc hP1 hD1
  generalize H1 = H at hP hS ⊢
  have hP : va_P D classes [(q0, .inr (0, [.ref q5, .ref qf, .ref qm, .ref qn])), (qb, .inl (cI, 8, .inl (fun _ => 0))), (qf, .inl (cI, 86, .inl (fun _ => 0))), (qm, .inl (cI, 258, .inl (fun _ => 0))), (qn, .inl (cI, 257, .inl (fun _ => 0))), (q5, .inr (1, [.ref qa, .ref qb, .int 0, .int (-1), .int 0])), (qa, .inl (cI, 274, .inl (upd (upd (fun _ => 0) 1 (nI 256 * nI 256 + 0)) 256 (nI 256 * nI 256 + 0))))] H := hP
  have hD : va_D (fun q : Nat => s.heap.size ≤ q) [(q0, .inr (0, [.ref q5, .ref qf, .ref qm, .ref qn])), (qb, .inl (cI, 8, .inl (fun _ => 0))), (qf, .inl (cI, 86, .inl (fun _ => 0))), (qm, .inl (cI, 258, .inl (fun _ => 0))), (qn, .inl (cI, 257, .inl (fun _ => 0))), (q5, .inr (1, [.ref qa, .ref qb, .int 0, .int (-1), .int 0])), (qa, .inl (cI, 274, .inl (upd (upd (fun _ => 0) 1 (nI 256 * nI 256 + 0)) 256 (nI 256 * nI 256 + 0))))] := hD
  refine lv_astore_n (lv' := [(1, .ref q0), (0, .ref b)]) hx hb (show decode code 7 = .ok (.astore_n 1, 1) by decide +kernel) rfl hl (by decide) rfl (fun ls hl => ?_)
  refine va_new (ci := 2) (fs := [.int 0, .int 0, .null, .null, .null, .null, .null, .null, .null, .int 0, .int 0, .int 0, .int 0]) (C := R_M) (T := F_M) (N := 13) hx hb htsG i_MG t_M t_M_ok hown (hts (Jvm.Cond.classLink "RootedWordsLaw" (60 : Nat) "RootedWordsModel") (lw_gt (gw 474 (by decide +kernel) rfl))) (hts (Jvm.Cond.instantiable "RootedWordsModel" (13 : Nat)) (lw_gt (gw 475 (by decide +kernel) rfl))) (hts (Jvm.Cond.initialized "RootedWordsModel") (lw_gt (gw 38 (by decide +kernel) rfl))) hK hP hD hS hA rfl (fun j hj => by rcases (show j = 0 ∨ j = 1 ∨ j = 2 ∨ j = 3 ∨ j = 4 ∨ j = 5 ∨ j = 6 ∨ j = 7 ∨ j = 8 ∨ j = 9 ∨ j = 10 ∨ j = 11 ∨ j = 12 by omega) with rfl | rfl | rfl | rfl | rfl | rfl | rfl | rfl | rfl | rfl | rfl | rfl | rfl <;> rfl) (Nat.le_of_ble_eq_true rfl) (Nat.le_of_ble_eq_true rfl) (show decode code 8 = .ok (.new 60, 3) by decide +kernel) (fun q7 H hP hD hS => ?_)
  have hP : va_P D classes [(q0, .inr (0, [.ref q5, .ref qf, .ref qm, .ref qn])), (qb, .inl (cI, 8, .inl (fun _ => 0))), (qf, .inl (cI, 86, .inl (fun _ => 0))), (qm, .inl (cI, 258, .inl (fun _ => 0))), (qn, .inl (cI, 257, .inl (fun _ => 0))), (q5, .inr (1, [.ref qa, .ref qb, .int 0, .int (-1), .int 0])), (qa, .inl (cI, 274, .inl (upd (upd (fun _ => 0) 1 (nI 256 * nI 256 + 0)) 256 (nI 256 * nI 256 + 0)))), (q7, .inr (2, [.int 0, .int 0, .null, .null, .null, .null, .null, .null, .null, .int 0, .int 0, .int 0, .int 0]))] H := hP
  have hD : va_D (fun q : Nat => s.heap.size ≤ q) [(q0, .inr (0, [.ref q5, .ref qf, .ref qm, .ref qn])), (qb, .inl (cI, 8, .inl (fun _ => 0))), (qf, .inl (cI, 86, .inl (fun _ => 0))), (qm, .inl (cI, 258, .inl (fun _ => 0))), (qn, .inl (cI, 257, .inl (fun _ => 0))), (q5, .inr (1, [.ref qa, .ref qb, .int 0, .int (-1), .int 0])), (qa, .inl (cI, 274, .inl (upd (upd (fun _ => 0) 1 (nI 256 * nI 256 + 0)) 256 (nI 256 * nI 256 + 0)))), (q7, .inr (2, [.int 0, .int 0, .null, .null, .null, .null, .null, .null, .null, .int 0, .int 0, .int 0, .int 0]))] := hD
  refine lv_dup hx hb (show decode code 11 = .ok (.dup, 1) by decide +kernel) rfl ?_
  have hPc := hP.sub (ws' := mdW0M q7) [7] rfl
  have hDc := hD.sub (ws' := mdW0M q7) [7] (by decide) rfl
  have hFc := va_free (wc := mdW0M q7) hD hS hA [7] rfl
  refine va_callv (va_runI (As := []) (rest := [.ref q7]) ⟨hx, hb, hml, hown, htsG⟩ (c_M_init l D cI cB q7 H.size) (cwI 0 htsG gi_M_init rfl rfl rfl (hts (Jvm.Cond.initialized "RootedWordsModel") (lw_gt (gw 38 (by decide +kernel) rfl))) (hts (Jvm.Cond.methodLink "RootedWordsLaw" (62 : Nat) ({ cls := "RootedWordsModel", name := "<init>", desc := "()V" } : Jvm.MethodName)) (lw_gt (gw 476 (by decide +kernel) rfl))) (hts (Jvm.Cond.instanceMethod ({ cls := "RootedWordsModel", name := "<init>", desc := "()V" } : Jvm.MethodName)) (lw_gt (gw 477 (by decide +kernel) rfl))) rfl (by decide +kernel) ⟨Nat.le_of_ble_eq_true rfl, Nat.le_of_ble_eq_true rfl⟩) ⟨fun a U g mk q => by obtain ⟨z0, z1, qP, qK, qD⟩ := q; exact ⟨z0, z1, qP, va_K.moved (u := U) (U := U.calling g mk a) (Vm.Alike.refl U.vm) qK, qD⟩, fun U hU hW => ⟨rfl, by rw [hU], by rw [hU]; exact hPc, va_K.moved hW.alike hK2, hDc.weaken (fun _ _ _ _ => trivial)⟩⟩ rfl rfl hl.1 rfl (lv_room (Nat.le_of_ble_eq_true rfl)) (show decode code 12 = .ok (.invokespecial 62, 3) by decide +kernel) ⟨Nat.le_of_ble_eq_true rfl, Nat.le_of_ble_eq_true rfl⟩) hS (fun q _ h => hFc q h) hFc (fun u t H1 locs ht hvm hw hB hz3 hk1 hS => ?_)
  obtain ⟨r8, r9, r10, r11, r12, r13, r14⟩ := u
  obtain ⟨hP1, hD1⟩ := hB
  rw [ht] at hP1
  obtain ⟨hP, hD⟩ := va_join (wr := [(q0, .inr (0, [.ref q5, .ref qf, .ref qm, .ref qn])), (qb, .inl (cI, 8, .inl (fun _ => 0))), (qf, .inl (cI, 86, .inl (fun _ => 0))), (qm, .inl (cI, 258, .inl (fun _ => 0))), (qn, .inl (cI, 257, .inl (fun _ => 0))), (q5, .inr (1, [.ref qa, .ref qb, .int 0, .int (-1), .int 0])), (qa, .inl (cI, 274, .inl (upd (upd (fun _ => 0) 1 (nI 256 * nI 256 + 0)) 256 (nI 256 * nI 256 + 0))))]) (w1 := mdWM cI cB q7 (r8, r9, r10, r11, r12, r13, r14)) hP hD [7] [0, 1, 2, 3, 4, 5, 6] rfl rfl (by decide) (by decide) hk1 hFc hP1 hD1
  generalize H1 = H at hP hS ⊢
  have hP : va_P D classes [(q0, .inr (0, [.ref q5, .ref qf, .ref qm, .ref qn])), (qb, .inl (cI, 8, .inl (fun _ => 0))), (qf, .inl (cI, 86, .inl (fun _ => 0))), (qm, .inl (cI, 258, .inl (fun _ => 0))), (qn, .inl (cI, 257, .inl (fun _ => 0))), (q5, .inr (1, [.ref qa, .ref qb, .int 0, .int (-1), .int 0])), (qa, .inl (cI, 274, .inl (upd (upd (fun _ => 0) 1 (nI 256 * nI 256 + 0)) 256 (nI 256 * nI 256 + 0)))), (q7, .inr (2, [.int 0, .int 1, .ref r8, .ref r9, .ref r10, .ref r11, .ref r12, .ref r13, .ref r14, .int 0, .int (-1), .int 0, .int 0])), (r8, .inl (cI, 86, .inl (upd (fun _ => 0) 0 (1)))), (r9, .inl (cI, 86, .inl (upd (fun _ => 0) 0 (nI 256)))), (r10, .inl (cB, 86, .inl (fun _ => 0))), (r11, .inl (cI, 86, .inl (fun _ => 0))), (r12, .inl (cB, 86, .inl (fun _ => 0))), (r13, .inl (cI, 257, .inl (fun _ => 0))), (r14, .inl (cI, 8, .inl (fun _ => 0)))] H := hP
  have hD : va_D (fun q : Nat => s.heap.size ≤ q) [(q0, .inr (0, [.ref q5, .ref qf, .ref qm, .ref qn])), (qb, .inl (cI, 8, .inl (fun _ => 0))), (qf, .inl (cI, 86, .inl (fun _ => 0))), (qm, .inl (cI, 258, .inl (fun _ => 0))), (qn, .inl (cI, 257, .inl (fun _ => 0))), (q5, .inr (1, [.ref qa, .ref qb, .int 0, .int (-1), .int 0])), (qa, .inl (cI, 274, .inl (upd (upd (fun _ => 0) 1 (nI 256 * nI 256 + 0)) 256 (nI 256 * nI 256 + 0)))), (q7, .inr (2, [.int 0, .int 1, .ref r8, .ref r9, .ref r10, .ref r11, .ref r12, .ref r13, .ref r14, .int 0, .int (-1), .int 0, .int 0])), (r8, .inl (cI, 86, .inl (upd (fun _ => 0) 0 (1)))), (r9, .inl (cI, 86, .inl (upd (fun _ => 0) 0 (nI 256)))), (r10, .inl (cB, 86, .inl (fun _ => 0))), (r11, .inl (cI, 86, .inl (fun _ => 0))), (r12, .inl (cB, 86, .inl (fun _ => 0))), (r13, .inl (cI, 257, .inl (fun _ => 0))), (r14, .inl (cI, 8, .inl (fun _ => 0)))] := hD
  refine lv_astore_n (lv' := [(2, .ref q7), (1, .ref q0), (0, .ref b)]) hx hb (show decode code 15 = .ok (.astore_n 2, 1) by decide +kernel) rfl hl (by decide) rfl (fun ls hl => ?_)
  refine lv_iconst (v := 1) hx hb (show decode code 16 = .ok (.iconst 1, 1) by decide +kernel) (by decide) ?_
  refine va_newa (atype := .long) (ty := .long) (N' := 1) (a0 := (1, .inr (.inl (fun _ => Int32.toInt64 0)))) hx hb (hts (Jvm.Cond.arrayClass Jvm.ClassFile.FieldType.long) (lw_gt (gw 636 (by decide +kernel) rfl))) rfl hK hP hD hS hA (fun _ => rfl) (by decide) rfl (Nat.le_of_ble_eq_true rfl) (Nat.le_of_ble_eq_true rfl) (Nat.le_of_ble_eq_true rfl) (show decode code 17 = .ok (.newarray .long, 2) by decide +kernel) (fun qo cA H hK9 hP hD hS => ?_)
  obtain rfl : cL = cA := by
    have a := (hK9.2 3 _ rfl).2
    have b := (hK9.2 2 _ rfl).2
    exact (Option.some.inj (a.symm.trans b)).symm
  refine lv_astore_n (lv' := [(3, .ref qo), (2, .ref q7), (1, .ref q0), (0, .ref b)]) hx hb (show decode code 19 = .ok (.astore_n 3, 1) by decide +kernel) rfl hl (by decide) rfl (fun ls hl => ?_)
  refine lv_iconst (v := 0) hx hb (show decode code 20 = .ok (.iconst 0, 1) by decide +kernel) (by decide) ?_
  refine lv_istore (lv' := [(4, .int 0), (3, .ref qo), (2, .ref q7), (1, .ref q0), (0, .ref b)]) hx hb (show decode code 21 = .ok (.istore 4, 2) by decide +kernel) hl (by decide) rfl (fun ls hl => ?_)
  obtain ⟨gf, hgf⟩ : ∃ gf : Nat → Nat, gf = fun k => match k with | 0 => q0 | 1 => q5 | 2 => qa | 3 => qb | 4 => qf | 5 => qm | 6 => qn | 7 => q7 | 8 => r8 | 9 => r9 | 10 => r10 | 11 => r11 | 12 => r12 | 13 => r13 | 14 => r14 | 15 => qo | _ => b := ⟨_, rfl⟩
  have hP9 : va_P D classes (mw (s.heap.size, D, gf, cI, cB, cL, Int32.toInt64) mem0) H := by
    subst hgf
    exact hP.sub [0, 5, 6, 1, 2, 3, 4, 7, 8, 9, 10, 11, 12, 13, 14, 15] rfl
  have hD9 : va_D (fun q : Nat => s.heap.size ≤ q) (mw (s.heap.size, D, gf, cI, cB, cL, Int32.toInt64) mem0) := by
    subst hgf
    exact hD.sub [0, 5, 6, 1, 2, 3, 4, 7, 8, 9, 10, 11, 12, 13, 14, 15] (by decide) rfl
  have htr : l.stackTraces = false := by
    unfold Launch.stackTraces
    rw [hflags]; decide
  have hLC : LC (p, l, e, s, m, below, meth, c, (s.heap.size, D, gf, cI, cB, cL, Int32.toInt64), b, L, xs) := ⟨C0, hL, htr, ⟨hK, hdt, hstr, hnc, hzA, hzB, fun σ => mw_D hD9 σ, rfl⟩, rfl, by subst hgf; rfl⟩
  refine W.widen (k := 100) (n := 3000) (Nat.le_of_ble_eq_true rfl) (Nat.le_of_ble_eq_true rfl) ?_
  exact law_loop hLC (L + 1) 0 100 3000 mem0 none none (by show L < 0 + (L + 1); omega) (Nat.zero_le _) (by decide) (by decide) J0 H _ ls hP9 hS ⟨⟨hl.1, hl.2.1, fun q hq => by cases hq⟩, fun i v hv => by
    subst hgf
    match i, hv with
    | 0, hv => cases hv; exact ⟨hl.2.2 (0, .ref b) (by simp), trivial⟩
    | 1, hv => cases hv; exact ⟨hl.2.2 (1, .ref q0) (by simp), trivial⟩
    | 2, hv => cases hv; exact ⟨hl.2.2 (2, .ref q7) (by simp), trivial⟩
    | 3, hv => cases hv; exact ⟨hl.2.2 (3, .ref qo) (by simp), trivial⟩
    | 4, hv => cases hv; exact ⟨hl.2.2 (4, .int 0) (by simp), trivial⟩
    | 5, hv => cases hv
    | 6, hv => cases hv
    | j + 7, hv => cases hv⟩
