theorem lk_L_68 : Jvm.Cond.methodLink "RootedWordsLaw" 68 y_M_take ∈ gtbl := gw 525 (by decide +kernel) rfl
theorem lk_L_69 : Jvm.Cond.methodLink "RootedWordsLaw" 69 y_M_thrown ∈ gtbl := gw 521 (by decide +kernel) rfl
theorem lk_L_75 : Jvm.Cond.methodLink "RootedWordsLaw" 75 y_M_give ∈ gtbl := gw 545 (by decide +kernel) rfl
theorem lk_L_79 : Jvm.Cond.methodLink "RootedWordsLaw" 79 y_M_store ∈ gtbl := gw 557 (by decide +kernel) rfl
theorem lk_L_82 : Jvm.Cond.methodLink "RootedWordsLaw" 82 y_M_load ∈ gtbl := gw 565 (by decide +kernel) rfl
theorem lk_L_85 : Jvm.Cond.methodLink "RootedWordsLaw" 85 y_M_size ∈ gtbl := gw 569 (by decide +kernel) rfl
theorem lk_L_88 : Jvm.Cond.methodLink "RootedWordsLaw" 88 y_M_setRoot ∈ gtbl := gw 573 (by decide +kernel) rfl
theorem lk_L_91 : Jvm.Cond.methodLink "RootedWordsLaw" 91 y_M_root ∈ gtbl := gw 584 (by decide +kernel) rfl
theorem lk_L_95 : Jvm.Cond.methodLink "RootedWordsLaw" 95 y_M_freeWords ∈ gtbl := gw 588 (by decide +kernel) rfl
theorem lk_L_98 : Jvm.Cond.methodLink "RootedWordsLaw" 98 y_M_largestFree ∈ gtbl := gw 592 (by decide +kernel) rfl
theorem lk_L_101 : Jvm.Cond.methodLink "RootedWordsLaw" 101 y_M_extent ∈ gtbl := gw 596 (by decide +kernel) rfl
theorem lk_L_104 : Jvm.Cond.methodLink "RootedWordsLaw" 104 y_M_reached ∈ gtbl := gw 600 (by decide +kernel) rfl
theorem lk_L_105 : Jvm.Cond.methodLink "RootedWordsLaw" 105 y_X_order ∈ gtbl := gw 99 (by decide +kernel) rfl
theorem lk_L_109 : Jvm.Cond.methodLink "RootedWordsLaw" 109 y_M_order ∈ gtbl := gw 616 (by decide +kernel) rfl
theorem lk_L_112 : Jvm.Cond.methodLink "RootedWordsLaw" 112 y_M_recover ∈ gtbl := gw 620 (by decide +kernel) rfl
theorem lk_L_113 : Jvm.Cond.methodLink "RootedWordsLaw" 113 y_X_writes ∈ gtbl := gw 107 (by decide +kernel) rfl
theorem lk_L_116 : Jvm.Cond.methodLink "RootedWordsLaw" 116 y_M_writes ∈ gtbl := gw 628 (by decide +kernel) rfl
theorem lk_L_117 : Jvm.Cond.methodLink "RootedWordsLaw" 117 y_X_down ∈ gtbl := gw 115 (by decide +kernel) rfl
theorem lk_L_121 : Jvm.Cond.methodLink "RootedWordsLaw" 121 y_M_down ∈ gtbl := gw 632 (by decide +kernel) rfl
def mi_law : MI := (code, 7, "RootedWordsLaw", some .boolean, 7, tbl_of 867 f_law, [], [(68, (7, 2, ct_any y_M_take mi_M_take 7)), (69, (7, 0, ct_any y_M_thrown mi_M_thrown 7)), (75, (7, 1, ct_any y_M_give mi_M_give 7)), (79, (7, 3, ct_any y_M_store mi_M_store 7)), (82, (7, 2, ct_any y_M_load mi_M_load 7)), (85, (7, 2, ct_any y_M_size mi_M_size 7)), (88, (7, 2, ct_any y_M_setRoot mi_M_setRoot 7)), (91, (7, 1, ct_any y_M_root mi_M_root 7)), (95, (7, 0, ct_any y_M_freeWords mi_M_freeWords 7)), (98, (7, 0, ct_any y_M_largestFree mi_M_largestFree 7)), (101, (7, 1, ct_any y_M_extent mi_M_extent 7)), (104, (7, 0, ct_any y_M_reached mi_M_reached 7)), (105, (0, 1, ct_any y_X_order mi_X_order 0)), (109, (7, 1, ct_any y_M_order mi_M_order 7)), (112, (7, 0, ct_any y_M_recover mi_M_recover 7)), (113, (0, 0, ct_any y_X_writes mi_X_writes 0)), (116, (7, 0, ct_any y_M_writes mi_M_writes 7)), (117, (0, 0, ct_any y_X_down mi_X_down 0)), (121, (7, 0, ct_any y_M_down mi_M_down 7))], [])
theorem ok_law : MOK mi_law := ⟨tbl_ok k_law, (fun _ h => absurd h List.not_mem_nil), List.forall_mem_cons.mpr ⟨okV 2 (by decide) (s_any _ _ _ _) rfl (Nat.le_of_ble_eq_true rfl) (Nat.le_of_ble_eq_true rfl) (by decide +kernel) lk_L_68 vv_M_take, List.forall_mem_cons.mpr ⟨okV 2 (by decide) (s_any _ _ _ _) rfl (Nat.le_of_ble_eq_true rfl) (Nat.le_of_ble_eq_true rfl) (by decide +kernel) lk_L_69 vv_M_thrown, List.forall_mem_cons.mpr ⟨okV 2 (by decide) (s_any _ _ _ _) rfl (Nat.le_of_ble_eq_true rfl) (Nat.le_of_ble_eq_true rfl) (by decide +kernel) lk_L_75 vv_M_give, List.forall_mem_cons.mpr ⟨okV 2 (by decide) (s_any _ _ _ _) rfl (Nat.le_of_ble_eq_true rfl) (Nat.le_of_ble_eq_true rfl) (by decide +kernel) lk_L_79 vv_M_store, List.forall_mem_cons.mpr ⟨okV 2 (by decide) (s_any _ _ _ _) rfl (Nat.le_of_ble_eq_true rfl) (Nat.le_of_ble_eq_true rfl) (by decide +kernel) lk_L_82 vv_M_load, List.forall_mem_cons.mpr ⟨okV 2 (by decide) (s_any _ _ _ _) rfl (Nat.le_of_ble_eq_true rfl) (Nat.le_of_ble_eq_true rfl) (by decide +kernel) lk_L_85 vv_M_size, List.forall_mem_cons.mpr ⟨okV 2 (by decide) (s_any _ _ _ _) rfl (Nat.le_of_ble_eq_true rfl) (Nat.le_of_ble_eq_true rfl) (by decide +kernel) lk_L_88 vv_M_setRoot, List.forall_mem_cons.mpr ⟨okV 2 (by decide) (s_any _ _ _ _) rfl (Nat.le_of_ble_eq_true rfl) (Nat.le_of_ble_eq_true rfl) (by decide +kernel) lk_L_91 vv_M_root, List.forall_mem_cons.mpr ⟨okV 2 (by decide) (s_any _ _ _ _) rfl (Nat.le_of_ble_eq_true rfl) (Nat.le_of_ble_eq_true rfl) (by decide +kernel) lk_L_95 vv_M_freeWords, List.forall_mem_cons.mpr ⟨okV 2 (by decide) (s_any _ _ _ _) rfl (Nat.le_of_ble_eq_true rfl) (Nat.le_of_ble_eq_true rfl) (by decide +kernel) lk_L_98 vv_M_largestFree, List.forall_mem_cons.mpr ⟨okV 2 (by decide) (s_any _ _ _ _) rfl (Nat.le_of_ble_eq_true rfl) (Nat.le_of_ble_eq_true rfl) (by decide +kernel) lk_L_101 vv_M_extent, List.forall_mem_cons.mpr ⟨okV 2 (by decide) (s_any _ _ _ _) rfl (Nat.le_of_ble_eq_true rfl) (Nat.le_of_ble_eq_true rfl) (by decide +kernel) lk_L_104 vv_M_reached, List.forall_mem_cons.mpr ⟨okV 0 (by decide) (s_any _ _ _ _) rfl (Nat.le_of_ble_eq_true rfl) (Nat.le_of_ble_eq_true rfl) (by decide +kernel) lk_L_105 vv_X_order, List.forall_mem_cons.mpr ⟨okV 2 (by decide) (s_any _ _ _ _) rfl (Nat.le_of_ble_eq_true rfl) (Nat.le_of_ble_eq_true rfl) (by decide +kernel) lk_L_109 vv_M_order, List.forall_mem_cons.mpr ⟨okV 2 (by decide) (s_any _ _ _ _) rfl (Nat.le_of_ble_eq_true rfl) (Nat.le_of_ble_eq_true rfl) (by decide +kernel) lk_L_112 vv_M_recover, List.forall_mem_cons.mpr ⟨okV 0 (by decide) (s_any _ _ _ _) rfl (Nat.le_of_ble_eq_true rfl) (Nat.le_of_ble_eq_true rfl) (by decide +kernel) lk_L_113 vv_X_writes, List.forall_mem_cons.mpr ⟨okV 2 (by decide) (s_any _ _ _ _) rfl (Nat.le_of_ble_eq_true rfl) (Nat.le_of_ble_eq_true rfl) (by decide +kernel) lk_L_116 vv_M_writes, List.forall_mem_cons.mpr ⟨okV 0 (by decide) (s_any _ _ _ _) rfl (Nat.le_of_ble_eq_true rfl) (Nat.le_of_ble_eq_true rfl) (by decide +kernel) lk_L_117 vv_X_down, List.forall_mem_cons.mpr ⟨okV 2 (by decide) (s_any _ _ _ _) rfl (Nat.le_of_ble_eq_true rfl) (Nat.le_of_ble_eq_true rfl) (by decide +kernel) lk_L_121 vv_M_down, (fun _ h => absurd h List.not_mem_nil)⟩⟩⟩⟩⟩⟩⟩⟩⟩⟩⟩⟩⟩⟩⟩⟩⟩⟩⟩⟩
def RtL : Option AV → Mem → Prop := fun v _ => v = some (.inl 1)
def ThL : Nat → String → Mem → Prop := fun _ _ _ => False
theorem lw_gt {w : Jvm.Cond} (h : w ∈ gtbl) : w ∈ lw_tbl := (List.mem_filter.mp h).1
theorem LX_cx {E : EV} (h : LC E) {k n : Nat} (hk : k ≤ 1050) (hn : n ≤ 9853) : Cx (LX E k n) mi_law RtL ThL := by
  obtain ⟨⟨hx, hb, hr, hml, hown, hts, hX, hbl, hlocks, hgv⟩, hL, htr, hKG, hg, h16⟩ := h
  refine ⟨⟨hx, hb, hml, hown, fun w hw => hts w (lw_gt hw), hKG, Nat.le_of_eq hg⟩, ⟨Nat.le_of_ble_eq_true rfl, Nat.le_of_ble_eq_true rfl, hk, hn⟩, ?_, fun _ _ _ h => h.elim, fun _ _ _ _ h => h.elim, htr⟩
  intro v μ pc H locs ls he hP1 hS1 hd
  have he : v = some (.inl 1) := he
  subst he
  obtain ⟨x, ty, hv, h1, h2, h3⟩ := hd
  refine va_forget (fun q hq => Nat.le_trans (Nat.le_of_eq hg.symm) (hS1.2.2 q hq)) (W.widen hk hn ?_)
  exact lw_ret hx hb hr hlocks h3
theorem Go.widen {E : EV} {M : MI} {k n k' n' pc : Nat} {L : List (Option AV)} {S : List AV} {σ : Mem} (h1 : k ≤ k') (h2 : n ≤ n') (h : Go (LX E k' n') M pc L S σ) : Go (LX E k n) M pc L S σ := fun H locs ls hP hS hl => W.widen h1 h2 (h H locs ls hP hS hl)
theorem LC.nb {E : EV} (h : LC E) : ¬ gA (vg E) (vb E) := by
  obtain ⟨⟨_, _, _, _, _, _, _, hbl, _⟩, _, _, _, hg, _⟩ := h
  show ¬ (vg E).1 ≤ vb E
  omega
/-- an int of the script -/
theorem go_sld {E : EV} (h : LC E) {k n pc i : Nat} {L : List (Option AV)} {S : List AV} {σ : Mem} (hi : i < vL E) (hd : decode code pc = .ok (.iaload, 1)) (kk : Go (LX E k n) mi_law (pc + 1) L (.inl (vx E i) :: S) σ) : Go (LX E k n) mi_law pc L (.inl (nI i) :: .inr (.inl 16) :: S) σ := by
  have hnb := h.nb
  obtain ⟨⟨hx, hb, hr, hml, hown, hts, hX, hbl, hlocks, hgv⟩, hL, htr, hKG, hg, h16⟩ := h
  intro H locs ls hP hS hl
  show W _ _ _ _ _ _ _ _ _ _ _ _ _ _ _ (F0 _ pc ls (.int (nI i) :: .ref (gad (vg E) 16) :: S.map (cv (vg E))))
  rw [h16]
  refine va_sld (A := gA (vg E)) hx hb hX hbl hnb hS (vp_in_nI hi (by omega)) hd ?_
  rw [nI_clamp (by omega)]
  exact kk H locs ls hP hS hl
theorem go_sld' {E : EV} (h : LC E) {k n pc i j : Nat} {L : List (Option AV)} {S : List AV} {σ : Mem} (hi : i + j < vL E) (hd : decode code pc = .ok (.iaload, 1)) (kk : Go (LX E k n) mi_law (pc + 1) L (.inl (vx E (i + j)) :: S) σ) : Go (LX E k n) mi_law pc L (.inl (nI i + nI j) :: .inr (.inl 16) :: S) σ := by
  rw [nI_add]
  exact go_sld h hi hd kk
theorem go_slen {E : EV} (h : LC E) {k n pc : Nat} {L : List (Option AV)} {S : List AV} {σ : Mem} (hd : decode code pc = .ok (.arraylength, 1)) (kk : Go (LX E k n) mi_law (pc + 1) L (.inl (nI (vL E)) :: S) σ) : Go (LX E k n) mi_law pc L (.inr (.inl 16) :: S) σ := by
  have hnb := h.nb
  obtain ⟨⟨hx, hb, hr, hml, hown, hts, hX, hbl, hlocks, hgv⟩, hL, htr, hKG, hg, h16⟩ := h
  intro H locs ls hP hS hl
  show W _ _ _ _ _ _ _ _ _ _ _ _ _ _ _ (F0 _ pc ls (.ref (gad (vg E) 16) :: S.map (cv (vg E))))
  rw [h16]
  exact va_slen (A := gA (vg E)) hx hb hX hbl hnb hS hd (kk H locs ls hP hS hl)
/-- a call of a wrapper -/
theorem go_wrap {E : EV} (h : LC E) {y : MethodName} {M' : MI} {hh : List (Nat × Nat × Nat × Nat)} {as : List AV} {σ σ' : Mem} {r : Int32} (hmet : MetW y M' hh as σ r σ') {k n pc ix : Nat} {L : List (Option AV)} (hk : k + 1 ≤ 1050) (hn : n + 6 ≤ 9853)
    (hy : y.cls = "RootedWordsLaw") (hM : m_d M' + 1 ≤ 7) (hnL : m_nL M' ≤ 11)  (na : Nat) (hna : as.length = na) (hdesc : y.cls ≠ "java/lang/invoke/MethodHandle" ∧ y.cls ≠ "java/lang/invoke/VarHandle" ∧ (parseMethodDescriptor y.desc).map (fun d => d.parameters.length) = some na)
    (h1 : Jvm.Cond.methodLink "RootedWordsLaw" ix y ∈ gtbl) (h2 : Jvm.Cond.static y ∈ gtbl ∧ Jvm.Cond.initialized y.cls ∈ gtbl ∧ Jvm.Cond.codeWith y (m_cc M') (m_nL M') (m_ret M') hh ∈ gtbl) (hd : decode code pc = .ok (.invokestatic ix, 3))
    (kk : Go (LX E (k + 1) (n + 6)) mi_law (pc + 3) L [.inl r] σ') : Go (LX E k n) mi_law pc L as.reverse σ := by
  subst hna
  have hC := LX_cx h (k := k) (n := n) (by omega) (by omega)
  obtain ⟨⟨hx, hb, hr, hml, hown, hts, hX, hbl, hlocks, hgv⟩, hL, htr, hKG, hg, h16⟩ := h
  intro H locs ls hP hS hl
  have hG : GoodIn gtbl (va_wsS "RootedWordsLaw" ix y (wsW y M' hh)) := good_in (by
    intro w hw
    rcases List.mem_append.mp hw with q | q
    · simp only [List.mem_cons, List.mem_nil_iff, or_false] at q
      rcases q with rfl | rfl | rfl
      · exact h1
      · exact h2.1
      · exact h2.2.1
    · rcases List.mem_cons.mp q with rfl | q
      · exact h2.2.2
      · exact q)
  have hts' : ∀ w ∈ gtbl, w.before #[Value.ref (vb E)] (vs E) = true := fun w hw => hts w (lw_gt hw)
  have es : as.reverse.map (cv (vg E)) = (as.map (cv (vg E))).reverse ++ [] := by rw [List.map_reverse, List.append_nil]
  have run := vx_runSW (e := E.2.2.1) (below := E.2.2.2.2.2.1) (meth := E.2.2.2.2.2.2.1) (locs := locs) (R := room_1) (rest := []) (As := as.map (cv (vg E))) (g := F0 E.2.2.2.2.1 pc ls (as.reverse.map (cv (vg E)))) ⟨hx, hb, hml, hown, hts'⟩ (hmet E.2.1 (vg E) htr)
    (vx_cwSW as.length hts' hG rfl rfl rfl hdesc ⟨by show 8 + m_d M' + 1 ≤ 15; omega, by show 8 + (m_nL M' + 11) + (100 + 30 * m_d M') ≤ 558; omega⟩)
    ⟨PcG.blind, fun U hU hW => pre_of hC hP hS as U hU hW⟩ rfl (by rw [List.length_map]) hl.1.1 es (Nat.zero_le _) hd ⟨hk, hn⟩
  intro T hT X1
  obtain ⟨v, st₀, t, T', L1, e0, X2, hL1, e1, e2, ⟨hv, hP2, hF⟩, stp⟩ := run T hT X1
  obtain ⟨k1, k2, k3⟩ := vx_keep e0 e1 hS (fun q _ h => h) (fun q h => h) hL1 hF
  cases hv
  obtain ⟨t2, a1, b1⟩ := kk T'.heap (locs ++ L1) ls (by rw [e1]; exact hP2) k3 hl T' rfl X2
  exact ⟨t2, stp t2 a1, b1⟩
theorem lg_cmp_self (x : Int64) : lg_cmp x x = 0 := by
  unfold lg_cmp
  simp
