/-! ===== the law's wrappers: printed by a program, but the head ===== -/
def ct_any (y : MethodName) (M : MI) (o : Nat) : CTy := fun as σ KN KX => ∃ oc : OC, MetO y M (.inr (.inl o) :: as) σ oc ∧ (match oc with | .inl z => KN z.1 z.2 | .inr z => KX z.1 z.2)
theorem s_any (y : MethodName) (M : MI) (o n : Nat) : Snd y M o n (ct_any y M o) := fun _ _ _ _ _ ⟨oc, h1, h2⟩ => ⟨oc, h2, h1⟩
/-- a static method that catches all: what it returns, and the memory -/
def wsW (y : MethodName) (M : MI) (hh : List (Nat × Nat × Nat × Nat)) : List Jvm.Cond := .codeWith y (m_cc M) (m_nL M) (m_ret M) hh :: gtbl
def OW (g : GT) (r : Int32) (σ' : Mem) : Array Value → State → Outcome → State → Prop := fun _ s o t => o = .returned (some (.int r)) ∧ va_P g.2.1 classes (mw g σ') t.heap ∧ va_F (gA g) s t
def MetW (y : MethodName) (M : MI) (hh : List (Nat × Nat × Nat × Nat)) (as : List AV) (σ : Mem) (r : Int32) (σ' : Mem) : Prop := ∀ (l : Launch) (g : GT), l.stackTraces = false →
  Met l y (wsW y M hh) (rmm (m_d M) 1) (PcG g as σ) (OW g r σ') 1 6 (gA g)
/-- a handler that returns r -/
def HOK (M : MI) (hh : List (Nat × Nat × Nat × Nat)) (pc : Nat) (E : String) (r : Int32) : Prop := ∃ (pre : List ExceptionTableEntry) (x : ExceptionTableEntry) (suf : List ExceptionTableEntry) (nm : String) (a : Nat),
  tableOf hh = pre ++ x :: suf ∧ (∀ z ∈ pre, z.catchType ≠ 0 ∧ ∃ n2 : String, Jvm.Cond.classLink (m_own M) z.catchType n2 ∈ gtbl ∧ (E, n2) ∈ ncs) ∧ covers x pc = true ∧ x.catchType ≠ 0 ∧ Jvm.Cond.classLink (m_own M) x.catchType nm ∈ gtbl ∧ Jvm.Cond.castable E nm ∈ dtbl ∧ a < m_nL M ∧
  ∃ n : Int, Int32.ofInt n = r ∧ ((decode (m_cc M) x.handlerPc = .ok (.astore a, 2) ∧ decode (m_cc M) (x.handlerPc + 2) = .ok (.iconst n, 1) ∧ decode (m_cc M) (x.handlerPc + 2 + 1) = .ok (.ireturn, 1)) ∨
    (∃ k : Fin 4, (k : Nat) = a ∧ decode (m_cc M) x.handlerPc = .ok (.astore_n k, 1) ∧ decode (m_cc M) (x.handlerPc + 1) = .ok (.iconst n, 1) ∧ decode (m_cc M) (x.handlerPc + 1 + 1) = .ok (.ireturn, 1)))
theorem metW_of {y : MethodName} {M : MI} {hh : List (Nat × Nat × Nat × Nat)} {as : List AV} {σ : Mem} {r : Int32} {σ' : Mem} (hy : y.cls = m_own M ∧ plainName y.cls = true) (htr : m_tr M = []) (hret : m_ret M = some .int) (hlen : as.length ≤ m_nL M) (hno : ∀ v ∈ as, noL v)
    (h : ∀ X, Cx X M (fun v μ => v = some (.inl r) ∧ μ = σ') (fun pc E μ => μ = σ' ∧ HOK M hh pc E r) → Go X M 0 (as.map some ++ List.replicate (m_nL M - as.length) none) [] σ) : MetW y M hh as σ r σ' := by
  intro l g htrc
  refine va_MetW (cc := m_cc M) (maxL := m_nL M) (ret := m_ret M) (hh := hh) hy.2 rfl ?_
  intro p e s m args below meth c s₁ B hml hPc
  obtain ⟨rfl, hbase, hP, hKG⟩ := hPc
  have hts0 := atoms_spec (ws := wsW y M hh) B.pre
  have hts : ∀ w ∈ gtbl, w.before (as.map (cv g)).toArray s = true := fun w hw => hts0 w (List.mem_cons_of_mem _ hw)
  have hown : s.vm.findClass (m_own M) = some m.cls := hy.1 ▸ findClass_of_methodNamed B.named
  have hlocks := B.notSynchronized
  have hr := B.returns
  have htab : c.exceptionTable.toList = tableOf hh := vx_table (x := y) B (hts0 _ List.mem_cons_self)
  let X : CT := (p, l, e, rmm (m_d M) 1, s, m, (as.map (cv g)).toArray, below, meth, c, g, MQ below (OW g r σ') (as.map (cv g)).toArray s 1 6 (gA g), 0, 0)
  have hend : ∀ (pc k n : Nat) (H : Heap) (locs : List Loc) (ls : Array Slot), k ≤ 1 → n ≤ 6 → wo X σ' H → wS X H locs → decode (m_cc M) pc = .ok (.ireturn, 1) → W p l e (rmm (m_d M) 1) s m (as.map (cv g)).toArray below meth c H locs k n (xQ X) (F0 m pc ls [.int r]) := by
    intro pc k n H locs ls hk hn hP1 hS1 hd
    exact W.widen hk hn (W.zret B.exec B.bytes (hr.trans hret) rfl (fun t ht hW => ⟨rfl, by rw [ht]; exact hP1, hS1.F ht⟩) hS1.2.2 hd hlocks)
  have hX : Cx X M (fun v μ => v = some (.inl r) ∧ μ = σ') (fun pc E μ => μ = σ' ∧ HOK M hh pc E r) := by
    refine ⟨⟨B.exec, B.bytes, hml, hown, hts, hKG, hbase⟩, ⟨Nat.le_refl _, Nat.le_refl _, Nat.zero_le _, Nat.zero_le _⟩, ?_, ?_, ?_, htrc⟩
    · intro v μ pc H locs ls he hP1 hS1 hd
      obtain ⟨rfl, rfl⟩ := he
      obtain ⟨x, ty, hv, h1, h2, h3⟩ := hd
      exact hend pc 0 0 H locs ls (by omega) (by omega) hP1 hS1 h3
    · intro pc E μ he
      obtain ⟨rfl, pre, x, suf, nm, a, t1, t2, t3, t4, t5, t6, t7, n, hn, t8⟩ := he
      refine ⟨⟨Nat.le_refl _, Nat.le_refl _⟩, fun H locs ls rest q ce hP1 hS1 hl hce hcv hcl => ?_⟩
      refine vx_catch (own := m_own M) (name := nm) (E := E) (ce := ce) hown pre x suf (htab.trans t1) (fun z hz => Or.inr ⟨(t2 z hz).1, ?_⟩) t3 t4 (hts _ t5) (va_Nw.use (nw_tab (List.mem_filter.mp t6).2) (hKG.2.1 _ t6)) hce hcv hcl ?_
      · obtain ⟨n2, l1, l2⟩ := (t2 z hz).2
        exact ⟨n2, hts _ l1, hKG.2.2.2.1 _ l2⟩
      · rcases t8 with ⟨d1, d2, d3⟩ | ⟨k, hk, d1, d2, d3⟩
        · exact lv_astore B.exec B.bytes d1 hl t7 rfl (fun ls' _ => lv_iconst B.exec B.bytes d2 hn (hend _ _ _ H locs ls' (Nat.le_refl _) (Nat.le_refl _) hP1 hS1 d3))
        · exact lv_astore_n B.exec B.bytes d1 hk hl t7 rfl (fun ls' _ => lv_iconst B.exec B.bytes d2 hn (hend _ _ _ H locs ls' (Nat.le_refl _) (Nat.le_refl _) hP1 hS1 d3))
    · intro pc E μ hin
      rw [htr] at hin
      exact absurd hin List.not_mem_nil
  have hG := h X hX
  have hl := lv_entry (as.map (cv g)) (n := m_nL M) (by rw [sl_len g as hno]; exact hlen)
  have h9 := hG s.heap [] _ hP va_S.rf ⟨⟨hl.1, hl.2.1, fun q hq => by cases hq⟩, fun i v hv => by
    have h1 := args_in g as 0 i _ v hno hv
    rw [Nat.zero_add] at h1
    exact ⟨hl.2.2 _ h1.1, h1.2⟩⟩
  rw [lg_entry_eq]
  exact h9
theorem lc_L_13 : Jvm.Cond.classLink "RootedWordsLaw" 13 eIS ∈ gtbl := gw 126 (by decide +kernel) rfl
theorem lc_L_15 : Jvm.Cond.classLink "RootedWordsLaw" 15 eIA ∈ gtbl := gw 127 (by decide +kernel) rfl
theorem lc_L_17 : Jvm.Cond.classLink "RootedWordsLaw" 17 eUO ∈ gtbl := gw 128 (by decide +kernel) rfl
theorem lc_L_23 : Jvm.Cond.classLink "RootedWordsLaw" 23 eNE ∈ gtbl := gw 302 (by decide +kernel) rfl
theorem lc_L_29 : Jvm.Cond.classLink "RootedWordsLaw" 29 eIO ∈ gtbl := gw 338 (by decide +kernel) rfl
theorem dc_eIS : Jvm.Cond.castable eIS eIS ∈ dtbl := List.mem_filter.mpr ⟨List.mem_of_getElem? (i := 139) (by decide +kernel), rfl⟩
theorem dc_eIA : Jvm.Cond.castable eIA eIA ∈ dtbl := List.mem_filter.mpr ⟨List.mem_of_getElem? (i := 209) (by decide +kernel), rfl⟩
theorem dc_eUO : Jvm.Cond.castable eUO eUO ∈ dtbl := List.mem_filter.mpr ⟨List.mem_of_getElem? (i := 257) (by decide +kernel), rfl⟩
theorem dc_eNE : Jvm.Cond.castable eNE eNE ∈ dtbl := List.mem_filter.mpr ⟨List.mem_of_getElem? (i := 317) (by decide +kernel), rfl⟩
theorem dc_eIO : Jvm.Cond.castable eIO eIO ∈ dtbl := List.mem_filter.mpr ⟨List.mem_of_getElem? (i := 349) (by decide +kernel), rfl⟩
abbrev b_L_take : ByteArray := method_3_code
def y_L_take : MethodName := ⟨"RootedWordsLaw", "take", "(LRootedWords;II[J)I"⟩
def h_L_take : List (Nat × Nat × Nat × Nat) := [(0, 10, 13, 13), (0, 10, 17, 15), (0, 10, 21, 17)]
def f_L_take : Nat → Option TE := fun pc => cond (Nat.ble pc 13) (cond (Nat.ble pc 4) (cond (Nat.ble pc 1) (cond (Nat.ble pc 0) (cond (Nat.beq pc 0) (some (.aload_n 3, 1, 3, 0)) none) (cond (Nat.beq pc 1) (some (.iconst 0, 2, 0, nI 0)) none)) (cond (Nat.ble pc 2) (cond (Nat.beq pc 2) (some (.aload_n 0, 3, 0, 0)) none) (cond (Nat.ble pc 3) (cond (Nat.beq pc 3) (some (.iload_n 1, 4, 1, 0)) none) (cond (Nat.beq pc 4) (some (.iload_n 2, 5, 2, 0)) none)))) (cond (Nat.ble pc 8) (cond (Nat.ble pc 5) (cond (Nat.beq pc 5) (some (.invokevirtual 7, 8, 0, 0)) none) (cond (Nat.beq pc 8) (some (.i2l, 9, 0, 0)) none)) (cond (Nat.ble pc 9) (cond (Nat.beq pc 9) (some (.lastore, 10, 0, 0)) none) (cond (Nat.ble pc 10) (cond (Nat.beq pc 10) (some (.goto 15, 13, 25, 0)) none) (cond (Nat.beq pc 13) (some (.astore 4, 15, 4, 0)) none))))) (cond (Nat.ble pc 20) (cond (Nat.ble pc 16) (cond (Nat.ble pc 15) (cond (Nat.beq pc 15) (some (.iconst 1, 16, 0, nI 1)) none) (cond (Nat.beq pc 16) (some (.ireturn, 17, 0, 0)) none)) (cond (Nat.ble pc 17) (cond (Nat.beq pc 17) (some (.astore 4, 19, 4, 0)) none) (cond (Nat.ble pc 19) (cond (Nat.beq pc 19) (some (.iconst 2, 20, 0, nI 2)) none) (cond (Nat.beq pc 20) (some (.ireturn, 21, 0, 0)) none)))) (cond (Nat.ble pc 23) (cond (Nat.ble pc 21) (cond (Nat.beq pc 21) (some (.astore 4, 23, 4, 0)) none) (cond (Nat.beq pc 23) (some (.iconst 3, 24, 0, nI 3)) none)) (cond (Nat.ble pc 24) (cond (Nat.beq pc 24) (some (.ireturn, 25, 0, 0)) none) (cond (Nat.ble pc 25) (cond (Nat.beq pc 25) (some (.iconst 0, 26, 0, nI 0)) none) (cond (Nat.beq pc 26) (some (.ireturn, 27, 0, 0)) none)))))
set_option maxRecDepth 100000 in
theorem k_L_take : (List.range 27).all (fun pc => match f_L_take pc with | none => true | some q => chk b_L_take 5 pc q) = true := by decide +kernel
theorem vw_L_take : Jvm.Cond.static y_L_take ∈ gtbl ∧ Jvm.Cond.initialized (y_L_take).cls ∈ gtbl ∧ Jvm.Cond.codeWith y_L_take b_L_take 5 (some .int) h_L_take ∈ gtbl := ⟨gw 124 (by decide +kernel) rfl, gw 35 (by decide +kernel) rfl, gw 125 (by decide +kernel) rfl⟩
theorem lk_L_7 : Jvm.Cond.methodLink "RootedWordsLaw" 7 y_X_take ∈ gtbl := gw 129 (by decide +kernel) rfl
def mi_L_take : MI := (b_L_take, 5, "RootedWordsLaw", some .int, 5, tbl_of 27 f_L_take, [], [(7, (0, 2, ct_any y_X_take mi_X_take 0))], [])
theorem ok_L_take : MOK mi_L_take := ⟨tbl_ok k_L_take, (fun _ h => absurd h List.not_mem_nil), List.forall_mem_cons.mpr ⟨okV 0 (by decide) (s_any _ _ _ _) rfl (Nat.le_of_ble_eq_true rfl) (Nat.le_of_ble_eq_true rfl) (by decide +kernel) lk_L_7 vv_X_take, (fun _ h => absurd h List.not_mem_nil)⟩⟩
theorem ho_L_take_1 : HOK mi_L_take h_L_take 5 eIS (nI 1) := ⟨[], ⟨0, 10, 13, 13⟩, [⟨0, 10, 17, 15⟩, ⟨0, 10, 21, 17⟩], eIS, 4, rfl, (fun _ h => absurd h List.not_mem_nil), rfl, by decide, lc_L_13, dc_eIS, by decide, 1, by decide, Or.inl ⟨by decide +kernel, by decide +kernel, by decide +kernel⟩⟩
theorem ho_L_take_2 : HOK mi_L_take h_L_take 5 eIA (nI 2) := ⟨[⟨0, 10, 13, 13⟩], ⟨0, 10, 17, 15⟩, [⟨0, 10, 21, 17⟩], eIA, 4, rfl, List.forall_mem_cons.mpr ⟨⟨by decide, eIS, lc_L_13, by decide +kernel⟩, (fun _ h => absurd h List.not_mem_nil)⟩, rfl, by decide, lc_L_15, dc_eIA, by decide, 2, by decide, Or.inl ⟨by decide +kernel, by decide +kernel, by decide +kernel⟩⟩
theorem ho_L_take_3 : HOK mi_L_take h_L_take 5 eUO (nI 3) := ⟨[⟨0, 10, 13, 13⟩, ⟨0, 10, 17, 15⟩], ⟨0, 10, 21, 17⟩, [], eUO, 4, rfl, List.forall_mem_cons.mpr ⟨⟨by decide, eIS, lc_L_13, by decide +kernel⟩, List.forall_mem_cons.mpr ⟨⟨by decide, eIA, lc_L_15, by decide +kernel⟩, (fun _ h => absurd h List.not_mem_nil)⟩⟩, rfl, by decide, lc_L_17, dc_eUO, by decide, 3, by decide, Or.inl ⟨by decide +kernel, by decide +kernel, by decide +kernel⟩⟩
theorem w_L_take (a x : Int32) (σ σc : Mem) (v : Int32) (hX : MetO y_X_take mi_X_take [.inr (.inl 0), .inl a, .inl x] σ (.inl (some (.inl v), σc))) : MetW y_L_take mi_L_take h_L_take [.inr (.inl 0), .inl a, .inl x, .inr (.inl 15)] σ (nI 0) (st σc 15 0 v) := by
  refine metW_of ⟨rfl, rfl⟩ rfl rfl (Nat.le_of_ble_eq_true rfl) (nls ⟨trivial, trivial, trivial, trivial, trivial⟩) (fun X hC => ?_)
  refine Go_run ok_L_take hC [] 60 (fun K R1 T1 hK hR hT => ?_)
  conv => whnf
  refine ⟨.inl (_, _), hX, ?_⟩
  conv => whnf
  refine ⟨vp_in_nI (by decide) (by decide), ?_⟩
  conv => whnf
  exact hR _ _ ⟨rfl, rfl⟩
theorem wx_L_take (a x : Int32) (σ σc : Mem) {E : String} {k : Nat} (hin : (E, k) ∈ [(eIS, 1), (eIA, 2), (eUO, 3)]) (hX : MetO y_X_take mi_X_take [.inr (.inl 0), .inl a, .inl x] σ (.inr (E, σc))) : MetW y_L_take mi_L_take h_L_take [.inr (.inl 0), .inl a, .inl x, .inr (.inl 15)] σ (nI k) σc := by
  refine metW_of ⟨rfl, rfl⟩ rfl rfl (Nat.le_of_ble_eq_true rfl) (nls ⟨trivial, trivial, trivial, trivial, trivial⟩) (fun X hC => ?_)
  refine Go_run ok_L_take hC [] 60 (fun K R1 T1 hK hR hT => ?_)
  conv => whnf
  refine ⟨.inr (_, _), hX, ?_⟩
  refine hT _ _ _ ⟨rfl, ?_⟩
  simp only [List.mem_cons, List.mem_nil_iff, or_false, Prod.mk.injEq] at hin
  rcases hin with hin | hin | hin
  all_goals (obtain ⟨rfl, rfl⟩ := hin)
  · exact ho_L_take_1
  · exact ho_L_take_2
  · exact ho_L_take_3
abbrev b_L_give : ByteArray := method_4_code
def y_L_give : MethodName := ⟨"RootedWordsLaw", "give", "(LRootedWords;I[J)I"⟩
def h_L_give : List (Nat × Nat × Nat × Nat) := [(0, 9, 12, 13), (0, 9, 15, 23)]
def f_L_give : Nat → Option TE := fun pc => cond (Nat.ble pc 9) (cond (Nat.ble pc 3) (cond (Nat.ble pc 1) (cond (Nat.ble pc 0) (cond (Nat.beq pc 0) (some (.aload_n 2, 1, 2, 0)) none) (cond (Nat.beq pc 1) (some (.iconst 0, 2, 0, nI 0)) none)) (cond (Nat.ble pc 2) (cond (Nat.beq pc 2) (some (.aload_n 0, 3, 0, 0)) none) (cond (Nat.beq pc 3) (some (.iload_n 1, 4, 1, 0)) none))) (cond (Nat.ble pc 7) (cond (Nat.ble pc 4) (cond (Nat.beq pc 4) (some (.invokevirtual 19, 7, 0, 0)) none) (cond (Nat.beq pc 7) (some (.i2l, 8, 0, 0)) none)) (cond (Nat.ble pc 8) (cond (Nat.beq pc 8) (some (.lastore, 9, 0, 0)) none) (cond (Nat.beq pc 9) (some (.goto 9, 12, 18, 0)) none)))) (cond (Nat.ble pc 15) (cond (Nat.ble pc 13) (cond (Nat.ble pc 12) (cond (Nat.beq pc 12) (some (.astore_n 3, 13, 3, 0)) none) (cond (Nat.beq pc 13) (some (.iconst 1, 14, 0, nI 1)) none)) (cond (Nat.ble pc 14) (cond (Nat.beq pc 14) (some (.ireturn, 15, 0, 0)) none) (cond (Nat.beq pc 15) (some (.astore_n 3, 16, 3, 0)) none))) (cond (Nat.ble pc 17) (cond (Nat.ble pc 16) (cond (Nat.beq pc 16) (some (.iconst 2, 17, 0, nI 2)) none) (cond (Nat.beq pc 17) (some (.ireturn, 18, 0, 0)) none)) (cond (Nat.ble pc 18) (cond (Nat.beq pc 18) (some (.iconst 0, 19, 0, nI 0)) none) (cond (Nat.beq pc 19) (some (.ireturn, 20, 0, 0)) none))))
set_option maxRecDepth 100000 in
theorem k_L_give : (List.range 20).all (fun pc => match f_L_give pc with | none => true | some q => chk b_L_give 4 pc q) = true := by decide +kernel
theorem vw_L_give : Jvm.Cond.static y_L_give ∈ gtbl ∧ Jvm.Cond.initialized (y_L_give).cls ∈ gtbl ∧ Jvm.Cond.codeWith y_L_give b_L_give 4 (some .int) h_L_give ∈ gtbl := ⟨gw 300 (by decide +kernel) rfl, gw 35 (by decide +kernel) rfl, gw 301 (by decide +kernel) rfl⟩
theorem lk_L_19 : Jvm.Cond.methodLink "RootedWordsLaw" 19 y_X_give ∈ gtbl := gw 303 (by decide +kernel) rfl
def mi_L_give : MI := (b_L_give, 4, "RootedWordsLaw", some .int, 6, tbl_of 20 f_L_give, [], [(19, (0, 1, ct_any y_X_give mi_X_give 0))], [])
theorem ok_L_give : MOK mi_L_give := ⟨tbl_ok k_L_give, (fun _ h => absurd h List.not_mem_nil), List.forall_mem_cons.mpr ⟨okV 0 (by decide) (s_any _ _ _ _) rfl (Nat.le_of_ble_eq_true rfl) (Nat.le_of_ble_eq_true rfl) (by decide +kernel) lk_L_19 vv_X_give, (fun _ h => absurd h List.not_mem_nil)⟩⟩
theorem ho_L_give_1 : HOK mi_L_give h_L_give 4 eIS (nI 1) := ⟨[], ⟨0, 9, 12, 13⟩, [⟨0, 9, 15, 23⟩], eIS, 3, rfl, (fun _ h => absurd h List.not_mem_nil), rfl, by decide, lc_L_13, dc_eIS, by decide, 1, by decide, Or.inr ⟨3, rfl, by decide +kernel, by decide +kernel, by decide +kernel⟩⟩
theorem ho_L_give_2 : HOK mi_L_give h_L_give 4 eNE (nI 2) := ⟨[⟨0, 9, 12, 13⟩], ⟨0, 9, 15, 23⟩, [], eNE, 3, rfl, List.forall_mem_cons.mpr ⟨⟨by decide, eIS, lc_L_13, by decide +kernel⟩, (fun _ h => absurd h List.not_mem_nil)⟩, rfl, by decide, lc_L_23, dc_eNE, by decide, 2, by decide, Or.inr ⟨3, rfl, by decide +kernel, by decide +kernel, by decide +kernel⟩⟩
theorem w_L_give (a : Int32) (σ σc : Mem) (v : Int32) (hX : MetO y_X_give mi_X_give [.inr (.inl 0), .inl a] σ (.inl (some (.inl v), σc))) : MetW y_L_give mi_L_give h_L_give [.inr (.inl 0), .inl a, .inr (.inl 15)] σ (nI 0) (st σc 15 0 v) := by
  refine metW_of ⟨rfl, rfl⟩ rfl rfl (Nat.le_of_ble_eq_true rfl) (nls ⟨trivial, trivial, trivial, trivial⟩) (fun X hC => ?_)
  refine Go_run ok_L_give hC [] 60 (fun K R1 T1 hK hR hT => ?_)
  conv => whnf
  refine ⟨.inl (_, _), hX, ?_⟩
  conv => whnf
  refine ⟨vp_in_nI (by decide) (by decide), ?_⟩
  conv => whnf
  exact hR _ _ ⟨rfl, rfl⟩
theorem wx_L_give (a : Int32) (σ σc : Mem) {E : String} {k : Nat} (hin : (E, k) ∈ [(eIS, 1), (eNE, 2)]) (hX : MetO y_X_give mi_X_give [.inr (.inl 0), .inl a] σ (.inr (E, σc))) : MetW y_L_give mi_L_give h_L_give [.inr (.inl 0), .inl a, .inr (.inl 15)] σ (nI k) σc := by
  refine metW_of ⟨rfl, rfl⟩ rfl rfl (Nat.le_of_ble_eq_true rfl) (nls ⟨trivial, trivial, trivial, trivial⟩) (fun X hC => ?_)
  refine Go_run ok_L_give hC [] 60 (fun K R1 T1 hK hR hT => ?_)
  conv => whnf
  refine ⟨.inr (_, _), hX, ?_⟩
  refine hT _ _ _ ⟨rfl, ?_⟩
  simp only [List.mem_cons, List.mem_nil_iff, or_false, Prod.mk.injEq] at hin
  rcases hin with hin | hin
  all_goals (obtain ⟨rfl, rfl⟩ := hin)
  · exact ho_L_give_1
  · exact ho_L_give_2
abbrev b_L_store : ByteArray := method_5_code
def y_L_store : MethodName := ⟨"RootedWordsLaw", "store", "(LRootedWords;III[J)I"⟩
def h_L_store : List (Nat × Nat × Nat × Nat) := [(0, 12, 15, 13), (0, 12, 19, 23), (0, 12, 23, 29), (0, 12, 27, 15)]
def f_L_store : Nat → Option TE := fun pc => cond (Nat.ble pc 17) (cond (Nat.ble pc 6) (cond (Nat.ble pc 3) (cond (Nat.ble pc 0) (cond (Nat.beq pc 0) (some (.aload 4, 2, 4, 0)) none) (cond (Nat.ble pc 2) (cond (Nat.beq pc 2) (some (.iconst 0, 3, 0, nI 0)) none) (cond (Nat.beq pc 3) (some (.aload_n 0, 4, 0, 0)) none))) (cond (Nat.ble pc 4) (cond (Nat.beq pc 4) (some (.iload_n 1, 5, 1, 0)) none) (cond (Nat.ble pc 5) (cond (Nat.beq pc 5) (some (.iload_n 2, 6, 2, 0)) none) (cond (Nat.beq pc 6) (some (.iload_n 3, 7, 3, 0)) none)))) (cond (Nat.ble pc 11) (cond (Nat.ble pc 7) (cond (Nat.beq pc 7) (some (.invokevirtual 25, 10, 0, 0)) none) (cond (Nat.ble pc 10) (cond (Nat.beq pc 10) (some (.i2l, 11, 0, 0)) none) (cond (Nat.beq pc 11) (some (.lastore, 12, 0, 0)) none))) (cond (Nat.ble pc 12) (cond (Nat.beq pc 12) (some (.goto 19, 15, 31, 0)) none) (cond (Nat.ble pc 15) (cond (Nat.beq pc 15) (some (.astore 5, 17, 5, 0)) none) (cond (Nat.beq pc 17) (some (.iconst 1, 18, 0, nI 1)) none))))) (cond (Nat.ble pc 25) (cond (Nat.ble pc 21) (cond (Nat.ble pc 18) (cond (Nat.beq pc 18) (some (.ireturn, 19, 0, 0)) none) (cond (Nat.ble pc 19) (cond (Nat.beq pc 19) (some (.astore 5, 21, 5, 0)) none) (cond (Nat.beq pc 21) (some (.iconst 2, 22, 0, nI 2)) none))) (cond (Nat.ble pc 22) (cond (Nat.beq pc 22) (some (.ireturn, 23, 0, 0)) none) (cond (Nat.ble pc 23) (cond (Nat.beq pc 23) (some (.astore 5, 25, 5, 0)) none) (cond (Nat.beq pc 25) (some (.iconst 3, 26, 0, nI 3)) none)))) (cond (Nat.ble pc 29) (cond (Nat.ble pc 26) (cond (Nat.beq pc 26) (some (.ireturn, 27, 0, 0)) none) (cond (Nat.ble pc 27) (cond (Nat.beq pc 27) (some (.astore 5, 29, 5, 0)) none) (cond (Nat.beq pc 29) (some (.iconst 4, 30, 0, nI 4)) none))) (cond (Nat.ble pc 30) (cond (Nat.beq pc 30) (some (.ireturn, 31, 0, 0)) none) (cond (Nat.ble pc 31) (cond (Nat.beq pc 31) (some (.iconst 0, 32, 0, nI 0)) none) (cond (Nat.beq pc 32) (some (.ireturn, 33, 0, 0)) none)))))
set_option maxRecDepth 100000 in
theorem k_L_store : (List.range 33).all (fun pc => match f_L_store pc with | none => true | some q => chk b_L_store 6 pc q) = true := by decide +kernel
theorem vw_L_store : Jvm.Cond.static y_L_store ∈ gtbl ∧ Jvm.Cond.initialized (y_L_store).cls ∈ gtbl ∧ Jvm.Cond.codeWith y_L_store b_L_store 6 (some .int) h_L_store ∈ gtbl := ⟨gw 336 (by decide +kernel) rfl, gw 35 (by decide +kernel) rfl, gw 337 (by decide +kernel) rfl⟩
theorem lk_L_25 : Jvm.Cond.methodLink "RootedWordsLaw" 25 y_X_store ∈ gtbl := gw 339 (by decide +kernel) rfl
def mi_L_store : MI := (b_L_store, 6, "RootedWordsLaw", some .int, 6, tbl_of 33 f_L_store, [], [(25, (0, 3, ct_any y_X_store mi_X_store 0))], [])
theorem ok_L_store : MOK mi_L_store := ⟨tbl_ok k_L_store, (fun _ h => absurd h List.not_mem_nil), List.forall_mem_cons.mpr ⟨okV 0 (by decide) (s_any _ _ _ _) rfl (Nat.le_of_ble_eq_true rfl) (Nat.le_of_ble_eq_true rfl) (by decide +kernel) lk_L_25 vv_X_store, (fun _ h => absurd h List.not_mem_nil)⟩⟩
theorem ho_L_store_1 : HOK mi_L_store h_L_store 7 eIS (nI 1) := ⟨[], ⟨0, 12, 15, 13⟩, [⟨0, 12, 19, 23⟩, ⟨0, 12, 23, 29⟩, ⟨0, 12, 27, 15⟩], eIS, 5, rfl, (fun _ h => absurd h List.not_mem_nil), rfl, by decide, lc_L_13, dc_eIS, by decide, 1, by decide, Or.inl ⟨by decide +kernel, by decide +kernel, by decide +kernel⟩⟩
theorem ho_L_store_2 : HOK mi_L_store h_L_store 7 eNE (nI 2) := ⟨[⟨0, 12, 15, 13⟩], ⟨0, 12, 19, 23⟩, [⟨0, 12, 23, 29⟩, ⟨0, 12, 27, 15⟩], eNE, 5, rfl, List.forall_mem_cons.mpr ⟨⟨by decide, eIS, lc_L_13, by decide +kernel⟩, (fun _ h => absurd h List.not_mem_nil)⟩, rfl, by decide, lc_L_23, dc_eNE, by decide, 2, by decide, Or.inl ⟨by decide +kernel, by decide +kernel, by decide +kernel⟩⟩
theorem ho_L_store_3 : HOK mi_L_store h_L_store 7 eIO (nI 3) := ⟨[⟨0, 12, 15, 13⟩, ⟨0, 12, 19, 23⟩], ⟨0, 12, 23, 29⟩, [⟨0, 12, 27, 15⟩], eIO, 5, rfl, List.forall_mem_cons.mpr ⟨⟨by decide, eIS, lc_L_13, by decide +kernel⟩, List.forall_mem_cons.mpr ⟨⟨by decide, eNE, lc_L_23, by decide +kernel⟩, (fun _ h => absurd h List.not_mem_nil)⟩⟩, rfl, by decide, lc_L_29, dc_eIO, by decide, 3, by decide, Or.inl ⟨by decide +kernel, by decide +kernel, by decide +kernel⟩⟩
theorem ho_L_store_4 : HOK mi_L_store h_L_store 7 eIA (nI 4) := ⟨[⟨0, 12, 15, 13⟩, ⟨0, 12, 19, 23⟩, ⟨0, 12, 23, 29⟩], ⟨0, 12, 27, 15⟩, [], eIA, 5, rfl, List.forall_mem_cons.mpr ⟨⟨by decide, eIS, lc_L_13, by decide +kernel⟩, List.forall_mem_cons.mpr ⟨⟨by decide, eNE, lc_L_23, by decide +kernel⟩, List.forall_mem_cons.mpr ⟨⟨by decide, eIO, lc_L_29, by decide +kernel⟩, (fun _ h => absurd h List.not_mem_nil)⟩⟩⟩, rfl, by decide, lc_L_15, dc_eIA, by decide, 4, by decide, Or.inl ⟨by decide +kernel, by decide +kernel, by decide +kernel⟩⟩
theorem w_L_store (a x w : Int32) (σ σc : Mem) (v : Int32) (hX : MetO y_X_store mi_X_store [.inr (.inl 0), .inl a, .inl x, .inl w] σ (.inl (some (.inl v), σc))) : MetW y_L_store mi_L_store h_L_store [.inr (.inl 0), .inl a, .inl x, .inl w, .inr (.inl 15)] σ (nI 0) (st σc 15 0 v) := by
  refine metW_of ⟨rfl, rfl⟩ rfl rfl (Nat.le_of_ble_eq_true rfl) (nls ⟨trivial, trivial, trivial, trivial, trivial, trivial⟩) (fun X hC => ?_)
  refine Go_run ok_L_store hC [] 60 (fun K R1 T1 hK hR hT => ?_)
  conv => whnf
  refine ⟨.inl (_, _), hX, ?_⟩
  conv => whnf
  refine ⟨vp_in_nI (by decide) (by decide), ?_⟩
  conv => whnf
  exact hR _ _ ⟨rfl, rfl⟩
theorem wx_L_store (a x w : Int32) (σ σc : Mem) {E : String} {k : Nat} (hin : (E, k) ∈ [(eIS, 1), (eNE, 2), (eIO, 3), (eIA, 4)]) (hX : MetO y_X_store mi_X_store [.inr (.inl 0), .inl a, .inl x, .inl w] σ (.inr (E, σc))) : MetW y_L_store mi_L_store h_L_store [.inr (.inl 0), .inl a, .inl x, .inl w, .inr (.inl 15)] σ (nI k) σc := by
  refine metW_of ⟨rfl, rfl⟩ rfl rfl (Nat.le_of_ble_eq_true rfl) (nls ⟨trivial, trivial, trivial, trivial, trivial, trivial⟩) (fun X hC => ?_)
  refine Go_run ok_L_store hC [] 60 (fun K R1 T1 hK hR hT => ?_)
  conv => whnf
  refine ⟨.inr (_, _), hX, ?_⟩
  refine hT _ _ _ ⟨rfl, ?_⟩
  simp only [List.mem_cons, List.mem_nil_iff, or_false, Prod.mk.injEq] at hin
  rcases hin with hin | hin | hin | hin
  all_goals (obtain ⟨rfl, rfl⟩ := hin)
  · exact ho_L_store_1
  · exact ho_L_store_2
  · exact ho_L_store_3
  · exact ho_L_store_4
abbrev b_L_load : ByteArray := method_6_code
def y_L_load : MethodName := ⟨"RootedWordsLaw", "load", "(LRootedWords;II[J)I"⟩
def h_L_load : List (Nat × Nat × Nat × Nat) := [(0, 10, 13, 13), (0, 10, 17, 23), (0, 10, 21, 29)]
def f_L_load : Nat → Option TE := fun pc => cond (Nat.ble pc 13) (cond (Nat.ble pc 4) (cond (Nat.ble pc 1) (cond (Nat.ble pc 0) (cond (Nat.beq pc 0) (some (.aload_n 3, 1, 3, 0)) none) (cond (Nat.beq pc 1) (some (.iconst 0, 2, 0, nI 0)) none)) (cond (Nat.ble pc 2) (cond (Nat.beq pc 2) (some (.aload_n 0, 3, 0, 0)) none) (cond (Nat.ble pc 3) (cond (Nat.beq pc 3) (some (.iload_n 1, 4, 1, 0)) none) (cond (Nat.beq pc 4) (some (.iload_n 2, 5, 2, 0)) none)))) (cond (Nat.ble pc 8) (cond (Nat.ble pc 5) (cond (Nat.beq pc 5) (some (.invokevirtual 31, 8, 0, 0)) none) (cond (Nat.beq pc 8) (some (.i2l, 9, 0, 0)) none)) (cond (Nat.ble pc 9) (cond (Nat.beq pc 9) (some (.lastore, 10, 0, 0)) none) (cond (Nat.ble pc 10) (cond (Nat.beq pc 10) (some (.goto 15, 13, 25, 0)) none) (cond (Nat.beq pc 13) (some (.astore 4, 15, 4, 0)) none))))) (cond (Nat.ble pc 20) (cond (Nat.ble pc 16) (cond (Nat.ble pc 15) (cond (Nat.beq pc 15) (some (.iconst 1, 16, 0, nI 1)) none) (cond (Nat.beq pc 16) (some (.ireturn, 17, 0, 0)) none)) (cond (Nat.ble pc 17) (cond (Nat.beq pc 17) (some (.astore 4, 19, 4, 0)) none) (cond (Nat.ble pc 19) (cond (Nat.beq pc 19) (some (.iconst 2, 20, 0, nI 2)) none) (cond (Nat.beq pc 20) (some (.ireturn, 21, 0, 0)) none)))) (cond (Nat.ble pc 23) (cond (Nat.ble pc 21) (cond (Nat.beq pc 21) (some (.astore 4, 23, 4, 0)) none) (cond (Nat.beq pc 23) (some (.iconst 3, 24, 0, nI 3)) none)) (cond (Nat.ble pc 24) (cond (Nat.beq pc 24) (some (.ireturn, 25, 0, 0)) none) (cond (Nat.ble pc 25) (cond (Nat.beq pc 25) (some (.iconst 0, 26, 0, nI 0)) none) (cond (Nat.beq pc 26) (some (.ireturn, 27, 0, 0)) none)))))
set_option maxRecDepth 100000 in
theorem k_L_load : (List.range 27).all (fun pc => match f_L_load pc with | none => true | some q => chk b_L_load 5 pc q) = true := by decide +kernel
theorem vw_L_load : Jvm.Cond.static y_L_load ∈ gtbl ∧ Jvm.Cond.initialized (y_L_load).cls ∈ gtbl ∧ Jvm.Cond.codeWith y_L_load b_L_load 5 (some .int) h_L_load ∈ gtbl := ⟨gw 373 (by decide +kernel) rfl, gw 35 (by decide +kernel) rfl, gw 374 (by decide +kernel) rfl⟩
theorem lk_L_31 : Jvm.Cond.methodLink "RootedWordsLaw" 31 y_X_load ∈ gtbl := gw 375 (by decide +kernel) rfl
def mi_L_load : MI := (b_L_load, 5, "RootedWordsLaw", some .int, 6, tbl_of 27 f_L_load, [], [(31, (0, 2, ct_any y_X_load mi_X_load 0))], [])
theorem ok_L_load : MOK mi_L_load := ⟨tbl_ok k_L_load, (fun _ h => absurd h List.not_mem_nil), List.forall_mem_cons.mpr ⟨okV 0 (by decide) (s_any _ _ _ _) rfl (Nat.le_of_ble_eq_true rfl) (Nat.le_of_ble_eq_true rfl) (by decide +kernel) lk_L_31 vv_X_load, (fun _ h => absurd h List.not_mem_nil)⟩⟩
theorem ho_L_load_1 : HOK mi_L_load h_L_load 5 eIS (nI 1) := ⟨[], ⟨0, 10, 13, 13⟩, [⟨0, 10, 17, 23⟩, ⟨0, 10, 21, 29⟩], eIS, 4, rfl, (fun _ h => absurd h List.not_mem_nil), rfl, by decide, lc_L_13, dc_eIS, by decide, 1, by decide, Or.inl ⟨by decide +kernel, by decide +kernel, by decide +kernel⟩⟩
theorem ho_L_load_2 : HOK mi_L_load h_L_load 5 eNE (nI 2) := ⟨[⟨0, 10, 13, 13⟩], ⟨0, 10, 17, 23⟩, [⟨0, 10, 21, 29⟩], eNE, 4, rfl, List.forall_mem_cons.mpr ⟨⟨by decide, eIS, lc_L_13, by decide +kernel⟩, (fun _ h => absurd h List.not_mem_nil)⟩, rfl, by decide, lc_L_23, dc_eNE, by decide, 2, by decide, Or.inl ⟨by decide +kernel, by decide +kernel, by decide +kernel⟩⟩
theorem ho_L_load_3 : HOK mi_L_load h_L_load 5 eIO (nI 3) := ⟨[⟨0, 10, 13, 13⟩, ⟨0, 10, 17, 23⟩], ⟨0, 10, 21, 29⟩, [], eIO, 4, rfl, List.forall_mem_cons.mpr ⟨⟨by decide, eIS, lc_L_13, by decide +kernel⟩, List.forall_mem_cons.mpr ⟨⟨by decide, eNE, lc_L_23, by decide +kernel⟩, (fun _ h => absurd h List.not_mem_nil)⟩⟩, rfl, by decide, lc_L_29, dc_eIO, by decide, 3, by decide, Or.inl ⟨by decide +kernel, by decide +kernel, by decide +kernel⟩⟩
theorem w_L_load (a x : Int32) (σ σc : Mem) (v : Int32) (hX : MetO y_X_load mi_X_load [.inr (.inl 0), .inl a, .inl x] σ (.inl (some (.inl v), σc))) : MetW y_L_load mi_L_load h_L_load [.inr (.inl 0), .inl a, .inl x, .inr (.inl 15)] σ (nI 0) (st σc 15 0 v) := by
  refine metW_of ⟨rfl, rfl⟩ rfl rfl (Nat.le_of_ble_eq_true rfl) (nls ⟨trivial, trivial, trivial, trivial, trivial⟩) (fun X hC => ?_)
  refine Go_run ok_L_load hC [] 60 (fun K R1 T1 hK hR hT => ?_)
  conv => whnf
  refine ⟨.inl (_, _), hX, ?_⟩
  conv => whnf
  refine ⟨vp_in_nI (by decide) (by decide), ?_⟩
  conv => whnf
  exact hR _ _ ⟨rfl, rfl⟩
theorem wx_L_load (a x : Int32) (σ σc : Mem) {E : String} {k : Nat} (hin : (E, k) ∈ [(eIS, 1), (eNE, 2), (eIO, 3)]) (hX : MetO y_X_load mi_X_load [.inr (.inl 0), .inl a, .inl x] σ (.inr (E, σc))) : MetW y_L_load mi_L_load h_L_load [.inr (.inl 0), .inl a, .inl x, .inr (.inl 15)] σ (nI k) σc := by
  refine metW_of ⟨rfl, rfl⟩ rfl rfl (Nat.le_of_ble_eq_true rfl) (nls ⟨trivial, trivial, trivial, trivial, trivial⟩) (fun X hC => ?_)
  refine Go_run ok_L_load hC [] 60 (fun K R1 T1 hK hR hT => ?_)
  conv => whnf
  refine ⟨.inr (_, _), hX, ?_⟩
  refine hT _ _ _ ⟨rfl, ?_⟩
  simp only [List.mem_cons, List.mem_nil_iff, or_false, Prod.mk.injEq] at hin
  rcases hin with hin | hin | hin
  all_goals (obtain ⟨rfl, rfl⟩ := hin)
  · exact ho_L_load_1
  · exact ho_L_load_2
  · exact ho_L_load_3
abbrev b_L_size : ByteArray := method_7_code
def y_L_size : MethodName := ⟨"RootedWordsLaw", "size", "(LRootedWords;II[J)I"⟩
def h_L_size : List (Nat × Nat × Nat × Nat) := [(0, 10, 13, 13), (0, 10, 17, 23)]
def f_L_size : Nat → Option TE := fun pc => cond (Nat.ble pc 9) (cond (Nat.ble pc 3) (cond (Nat.ble pc 1) (cond (Nat.ble pc 0) (cond (Nat.beq pc 0) (some (.aload_n 3, 1, 3, 0)) none) (cond (Nat.beq pc 1) (some (.iconst 0, 2, 0, nI 0)) none)) (cond (Nat.ble pc 2) (cond (Nat.beq pc 2) (some (.aload_n 0, 3, 0, 0)) none) (cond (Nat.beq pc 3) (some (.iload_n 1, 4, 1, 0)) none))) (cond (Nat.ble pc 5) (cond (Nat.ble pc 4) (cond (Nat.beq pc 4) (some (.iload_n 2, 5, 2, 0)) none) (cond (Nat.beq pc 5) (some (.invokevirtual 34, 8, 0, 0)) none)) (cond (Nat.ble pc 8) (cond (Nat.beq pc 8) (some (.i2l, 9, 0, 0)) none) (cond (Nat.beq pc 9) (some (.lastore, 10, 0, 0)) none)))) (cond (Nat.ble pc 16) (cond (Nat.ble pc 13) (cond (Nat.ble pc 10) (cond (Nat.beq pc 10) (some (.goto 11, 13, 21, 0)) none) (cond (Nat.beq pc 13) (some (.astore 4, 15, 4, 0)) none)) (cond (Nat.ble pc 15) (cond (Nat.beq pc 15) (some (.iconst 1, 16, 0, nI 1)) none) (cond (Nat.beq pc 16) (some (.ireturn, 17, 0, 0)) none))) (cond (Nat.ble pc 19) (cond (Nat.ble pc 17) (cond (Nat.beq pc 17) (some (.astore 4, 19, 4, 0)) none) (cond (Nat.beq pc 19) (some (.iconst 2, 20, 0, nI 2)) none)) (cond (Nat.ble pc 20) (cond (Nat.beq pc 20) (some (.ireturn, 21, 0, 0)) none) (cond (Nat.ble pc 21) (cond (Nat.beq pc 21) (some (.iconst 0, 22, 0, nI 0)) none) (cond (Nat.beq pc 22) (some (.ireturn, 23, 0, 0)) none)))))
set_option maxRecDepth 100000 in
theorem k_L_size : (List.range 23).all (fun pc => match f_L_size pc with | none => true | some q => chk b_L_size 5 pc q) = true := by decide +kernel
theorem vw_L_size : Jvm.Cond.static y_L_size ∈ gtbl ∧ Jvm.Cond.initialized (y_L_size).cls ∈ gtbl ∧ Jvm.Cond.codeWith y_L_size b_L_size 5 (some .int) h_L_size ∈ gtbl := ⟨gw 380 (by decide +kernel) rfl, gw 35 (by decide +kernel) rfl, gw 381 (by decide +kernel) rfl⟩
theorem lk_L_34 : Jvm.Cond.methodLink "RootedWordsLaw" 34 y_X_size ∈ gtbl := gw 382 (by decide +kernel) rfl
def mi_L_size : MI := (b_L_size, 5, "RootedWordsLaw", some .int, 6, tbl_of 23 f_L_size, [], [(34, (0, 2, ct_any y_X_size mi_X_size 0))], [])
theorem ok_L_size : MOK mi_L_size := ⟨tbl_ok k_L_size, (fun _ h => absurd h List.not_mem_nil), List.forall_mem_cons.mpr ⟨okV 0 (by decide) (s_any _ _ _ _) rfl (Nat.le_of_ble_eq_true rfl) (Nat.le_of_ble_eq_true rfl) (by decide +kernel) lk_L_34 vv_X_size, (fun _ h => absurd h List.not_mem_nil)⟩⟩
theorem ho_L_size_1 : HOK mi_L_size h_L_size 5 eIS (nI 1) := ⟨[], ⟨0, 10, 13, 13⟩, [⟨0, 10, 17, 23⟩], eIS, 4, rfl, (fun _ h => absurd h List.not_mem_nil), rfl, by decide, lc_L_13, dc_eIS, by decide, 1, by decide, Or.inl ⟨by decide +kernel, by decide +kernel, by decide +kernel⟩⟩
theorem ho_L_size_2 : HOK mi_L_size h_L_size 5 eNE (nI 2) := ⟨[⟨0, 10, 13, 13⟩], ⟨0, 10, 17, 23⟩, [], eNE, 4, rfl, List.forall_mem_cons.mpr ⟨⟨by decide, eIS, lc_L_13, by decide +kernel⟩, (fun _ h => absurd h List.not_mem_nil)⟩, rfl, by decide, lc_L_23, dc_eNE, by decide, 2, by decide, Or.inl ⟨by decide +kernel, by decide +kernel, by decide +kernel⟩⟩
theorem w_L_size (a x : Int32) (σ σc : Mem) (v : Int32) (hX : MetO y_X_size mi_X_size [.inr (.inl 0), .inl a, .inl x] σ (.inl (some (.inl v), σc))) : MetW y_L_size mi_L_size h_L_size [.inr (.inl 0), .inl a, .inl x, .inr (.inl 15)] σ (nI 0) (st σc 15 0 v) := by
  refine metW_of ⟨rfl, rfl⟩ rfl rfl (Nat.le_of_ble_eq_true rfl) (nls ⟨trivial, trivial, trivial, trivial, trivial⟩) (fun X hC => ?_)
  refine Go_run ok_L_size hC [] 60 (fun K R1 T1 hK hR hT => ?_)
  conv => whnf
  refine ⟨.inl (_, _), hX, ?_⟩
  conv => whnf
  refine ⟨vp_in_nI (by decide) (by decide), ?_⟩
  conv => whnf
  exact hR _ _ ⟨rfl, rfl⟩
theorem wx_L_size (a x : Int32) (σ σc : Mem) {E : String} {k : Nat} (hin : (E, k) ∈ [(eIS, 1), (eNE, 2)]) (hX : MetO y_X_size mi_X_size [.inr (.inl 0), .inl a, .inl x] σ (.inr (E, σc))) : MetW y_L_size mi_L_size h_L_size [.inr (.inl 0), .inl a, .inl x, .inr (.inl 15)] σ (nI k) σc := by
  refine metW_of ⟨rfl, rfl⟩ rfl rfl (Nat.le_of_ble_eq_true rfl) (nls ⟨trivial, trivial, trivial, trivial, trivial⟩) (fun X hC => ?_)
  refine Go_run ok_L_size hC [] 60 (fun K R1 T1 hK hR hT => ?_)
  conv => whnf
  refine ⟨.inr (_, _), hX, ?_⟩
  refine hT _ _ _ ⟨rfl, ?_⟩
  simp only [List.mem_cons, List.mem_nil_iff, or_false, Prod.mk.injEq] at hin
  rcases hin with hin | hin
  all_goals (obtain ⟨rfl, rfl⟩ := hin)
  · exact ho_L_size_1
  · exact ho_L_size_2
abbrev b_L_setRoot : ByteArray := method_8_code
def y_L_setRoot : MethodName := ⟨"RootedWordsLaw", "setRoot", "(LRootedWords;II[J)I"⟩
def h_L_setRoot : List (Nat × Nat × Nat × Nat) := [(0, 10, 13, 13), (0, 10, 17, 29), (0, 10, 21, 23)]
def f_L_setRoot : Nat → Option TE := fun pc => cond (Nat.ble pc 13) (cond (Nat.ble pc 4) (cond (Nat.ble pc 1) (cond (Nat.ble pc 0) (cond (Nat.beq pc 0) (some (.aload_n 3, 1, 3, 0)) none) (cond (Nat.beq pc 1) (some (.iconst 0, 2, 0, nI 0)) none)) (cond (Nat.ble pc 2) (cond (Nat.beq pc 2) (some (.aload_n 0, 3, 0, 0)) none) (cond (Nat.ble pc 3) (cond (Nat.beq pc 3) (some (.iload_n 1, 4, 1, 0)) none) (cond (Nat.beq pc 4) (some (.iload_n 2, 5, 2, 0)) none)))) (cond (Nat.ble pc 8) (cond (Nat.ble pc 5) (cond (Nat.beq pc 5) (some (.invokevirtual 37, 8, 0, 0)) none) (cond (Nat.beq pc 8) (some (.i2l, 9, 0, 0)) none)) (cond (Nat.ble pc 9) (cond (Nat.beq pc 9) (some (.lastore, 10, 0, 0)) none) (cond (Nat.ble pc 10) (cond (Nat.beq pc 10) (some (.goto 15, 13, 25, 0)) none) (cond (Nat.beq pc 13) (some (.astore 4, 15, 4, 0)) none))))) (cond (Nat.ble pc 20) (cond (Nat.ble pc 16) (cond (Nat.ble pc 15) (cond (Nat.beq pc 15) (some (.iconst 1, 16, 0, nI 1)) none) (cond (Nat.beq pc 16) (some (.ireturn, 17, 0, 0)) none)) (cond (Nat.ble pc 17) (cond (Nat.beq pc 17) (some (.astore 4, 19, 4, 0)) none) (cond (Nat.ble pc 19) (cond (Nat.beq pc 19) (some (.iconst 2, 20, 0, nI 2)) none) (cond (Nat.beq pc 20) (some (.ireturn, 21, 0, 0)) none)))) (cond (Nat.ble pc 23) (cond (Nat.ble pc 21) (cond (Nat.beq pc 21) (some (.astore 4, 23, 4, 0)) none) (cond (Nat.beq pc 23) (some (.iconst 3, 24, 0, nI 3)) none)) (cond (Nat.ble pc 24) (cond (Nat.beq pc 24) (some (.ireturn, 25, 0, 0)) none) (cond (Nat.ble pc 25) (cond (Nat.beq pc 25) (some (.iconst 0, 26, 0, nI 0)) none) (cond (Nat.beq pc 26) (some (.ireturn, 27, 0, 0)) none)))))
set_option maxRecDepth 100000 in
theorem k_L_setRoot : (List.range 27).all (fun pc => match f_L_setRoot pc with | none => true | some q => chk b_L_setRoot 5 pc q) = true := by decide +kernel
theorem vw_L_setRoot : Jvm.Cond.static y_L_setRoot ∈ gtbl ∧ Jvm.Cond.initialized (y_L_setRoot).cls ∈ gtbl ∧ Jvm.Cond.codeWith y_L_setRoot b_L_setRoot 5 (some .int) h_L_setRoot ∈ gtbl := ⟨gw 387 (by decide +kernel) rfl, gw 35 (by decide +kernel) rfl, gw 388 (by decide +kernel) rfl⟩
theorem lk_L_37 : Jvm.Cond.methodLink "RootedWordsLaw" 37 y_X_setRoot ∈ gtbl := gw 389 (by decide +kernel) rfl
def mi_L_setRoot : MI := (b_L_setRoot, 5, "RootedWordsLaw", some .int, 6, tbl_of 27 f_L_setRoot, [], [(37, (0, 2, ct_any y_X_setRoot mi_X_setRoot 0))], [])
theorem ok_L_setRoot : MOK mi_L_setRoot := ⟨tbl_ok k_L_setRoot, (fun _ h => absurd h List.not_mem_nil), List.forall_mem_cons.mpr ⟨okV 0 (by decide) (s_any _ _ _ _) rfl (Nat.le_of_ble_eq_true rfl) (Nat.le_of_ble_eq_true rfl) (by decide +kernel) lk_L_37 vv_X_setRoot, (fun _ h => absurd h List.not_mem_nil)⟩⟩
theorem ho_L_setRoot_1 : HOK mi_L_setRoot h_L_setRoot 5 eIS (nI 1) := ⟨[], ⟨0, 10, 13, 13⟩, [⟨0, 10, 17, 29⟩, ⟨0, 10, 21, 23⟩], eIS, 4, rfl, (fun _ h => absurd h List.not_mem_nil), rfl, by decide, lc_L_13, dc_eIS, by decide, 1, by decide, Or.inl ⟨by decide +kernel, by decide +kernel, by decide +kernel⟩⟩
theorem ho_L_setRoot_2 : HOK mi_L_setRoot h_L_setRoot 5 eIO (nI 2) := ⟨[⟨0, 10, 13, 13⟩], ⟨0, 10, 17, 29⟩, [⟨0, 10, 21, 23⟩], eIO, 4, rfl, List.forall_mem_cons.mpr ⟨⟨by decide, eIS, lc_L_13, by decide +kernel⟩, (fun _ h => absurd h List.not_mem_nil)⟩, rfl, by decide, lc_L_29, dc_eIO, by decide, 2, by decide, Or.inl ⟨by decide +kernel, by decide +kernel, by decide +kernel⟩⟩
theorem ho_L_setRoot_3 : HOK mi_L_setRoot h_L_setRoot 5 eNE (nI 3) := ⟨[⟨0, 10, 13, 13⟩, ⟨0, 10, 17, 29⟩], ⟨0, 10, 21, 23⟩, [], eNE, 4, rfl, List.forall_mem_cons.mpr ⟨⟨by decide, eIS, lc_L_13, by decide +kernel⟩, List.forall_mem_cons.mpr ⟨⟨by decide, eIO, lc_L_29, by decide +kernel⟩, (fun _ h => absurd h List.not_mem_nil)⟩⟩, rfl, by decide, lc_L_23, dc_eNE, by decide, 3, by decide, Or.inl ⟨by decide +kernel, by decide +kernel, by decide +kernel⟩⟩
theorem w_L_setRoot (a x : Int32) (σ σc : Mem) (v : Int32) (hX : MetO y_X_setRoot mi_X_setRoot [.inr (.inl 0), .inl a, .inl x] σ (.inl (some (.inl v), σc))) : MetW y_L_setRoot mi_L_setRoot h_L_setRoot [.inr (.inl 0), .inl a, .inl x, .inr (.inl 15)] σ (nI 0) (st σc 15 0 v) := by
  refine metW_of ⟨rfl, rfl⟩ rfl rfl (Nat.le_of_ble_eq_true rfl) (nls ⟨trivial, trivial, trivial, trivial, trivial⟩) (fun X hC => ?_)
  refine Go_run ok_L_setRoot hC [] 60 (fun K R1 T1 hK hR hT => ?_)
  conv => whnf
  refine ⟨.inl (_, _), hX, ?_⟩
  conv => whnf
  refine ⟨vp_in_nI (by decide) (by decide), ?_⟩
  conv => whnf
  exact hR _ _ ⟨rfl, rfl⟩
theorem wx_L_setRoot (a x : Int32) (σ σc : Mem) {E : String} {k : Nat} (hin : (E, k) ∈ [(eIS, 1), (eIO, 2), (eNE, 3)]) (hX : MetO y_X_setRoot mi_X_setRoot [.inr (.inl 0), .inl a, .inl x] σ (.inr (E, σc))) : MetW y_L_setRoot mi_L_setRoot h_L_setRoot [.inr (.inl 0), .inl a, .inl x, .inr (.inl 15)] σ (nI k) σc := by
  refine metW_of ⟨rfl, rfl⟩ rfl rfl (Nat.le_of_ble_eq_true rfl) (nls ⟨trivial, trivial, trivial, trivial, trivial⟩) (fun X hC => ?_)
  refine Go_run ok_L_setRoot hC [] 60 (fun K R1 T1 hK hR hT => ?_)
  conv => whnf
  refine ⟨.inr (_, _), hX, ?_⟩
  refine hT _ _ _ ⟨rfl, ?_⟩
  simp only [List.mem_cons, List.mem_nil_iff, or_false, Prod.mk.injEq] at hin
  rcases hin with hin | hin | hin
  all_goals (obtain ⟨rfl, rfl⟩ := hin)
  · exact ho_L_setRoot_1
  · exact ho_L_setRoot_2
  · exact ho_L_setRoot_3
abbrev b_L_root : ByteArray := method_9_code
def y_L_root : MethodName := ⟨"RootedWordsLaw", "root", "(LRootedWords;I[J)I"⟩
def h_L_root : List (Nat × Nat × Nat × Nat) := [(0, 9, 12, 13), (0, 9, 15, 29)]
def f_L_root : Nat → Option TE := fun pc => cond (Nat.ble pc 9) (cond (Nat.ble pc 3) (cond (Nat.ble pc 1) (cond (Nat.ble pc 0) (cond (Nat.beq pc 0) (some (.aload_n 2, 1, 2, 0)) none) (cond (Nat.beq pc 1) (some (.iconst 0, 2, 0, nI 0)) none)) (cond (Nat.ble pc 2) (cond (Nat.beq pc 2) (some (.aload_n 0, 3, 0, 0)) none) (cond (Nat.beq pc 3) (some (.iload_n 1, 4, 1, 0)) none))) (cond (Nat.ble pc 7) (cond (Nat.ble pc 4) (cond (Nat.beq pc 4) (some (.invokevirtual 40, 7, 0, 0)) none) (cond (Nat.beq pc 7) (some (.i2l, 8, 0, 0)) none)) (cond (Nat.ble pc 8) (cond (Nat.beq pc 8) (some (.lastore, 9, 0, 0)) none) (cond (Nat.beq pc 9) (some (.goto 9, 12, 18, 0)) none)))) (cond (Nat.ble pc 15) (cond (Nat.ble pc 13) (cond (Nat.ble pc 12) (cond (Nat.beq pc 12) (some (.astore_n 3, 13, 3, 0)) none) (cond (Nat.beq pc 13) (some (.iconst 1, 14, 0, nI 1)) none)) (cond (Nat.ble pc 14) (cond (Nat.beq pc 14) (some (.ireturn, 15, 0, 0)) none) (cond (Nat.beq pc 15) (some (.astore_n 3, 16, 3, 0)) none))) (cond (Nat.ble pc 17) (cond (Nat.ble pc 16) (cond (Nat.beq pc 16) (some (.iconst 2, 17, 0, nI 2)) none) (cond (Nat.beq pc 17) (some (.ireturn, 18, 0, 0)) none)) (cond (Nat.ble pc 18) (cond (Nat.beq pc 18) (some (.iconst 0, 19, 0, nI 0)) none) (cond (Nat.beq pc 19) (some (.ireturn, 20, 0, 0)) none))))
set_option maxRecDepth 100000 in
theorem k_L_root : (List.range 20).all (fun pc => match f_L_root pc with | none => true | some q => chk b_L_root 4 pc q) = true := by decide +kernel
theorem vw_L_root : Jvm.Cond.static y_L_root ∈ gtbl ∧ Jvm.Cond.initialized (y_L_root).cls ∈ gtbl ∧ Jvm.Cond.codeWith y_L_root b_L_root 4 (some .int) h_L_root ∈ gtbl := ⟨gw 403 (by decide +kernel) rfl, gw 35 (by decide +kernel) rfl, gw 404 (by decide +kernel) rfl⟩
theorem lk_L_40 : Jvm.Cond.methodLink "RootedWordsLaw" 40 y_X_root ∈ gtbl := gw 405 (by decide +kernel) rfl
def mi_L_root : MI := (b_L_root, 4, "RootedWordsLaw", some .int, 6, tbl_of 20 f_L_root, [], [(40, (0, 1, ct_any y_X_root mi_X_root 0))], [])
theorem ok_L_root : MOK mi_L_root := ⟨tbl_ok k_L_root, (fun _ h => absurd h List.not_mem_nil), List.forall_mem_cons.mpr ⟨okV 0 (by decide) (s_any _ _ _ _) rfl (Nat.le_of_ble_eq_true rfl) (Nat.le_of_ble_eq_true rfl) (by decide +kernel) lk_L_40 vv_X_root, (fun _ h => absurd h List.not_mem_nil)⟩⟩
theorem ho_L_root_1 : HOK mi_L_root h_L_root 4 eIS (nI 1) := ⟨[], ⟨0, 9, 12, 13⟩, [⟨0, 9, 15, 29⟩], eIS, 3, rfl, (fun _ h => absurd h List.not_mem_nil), rfl, by decide, lc_L_13, dc_eIS, by decide, 1, by decide, Or.inr ⟨3, rfl, by decide +kernel, by decide +kernel, by decide +kernel⟩⟩
theorem ho_L_root_2 : HOK mi_L_root h_L_root 4 eIO (nI 2) := ⟨[⟨0, 9, 12, 13⟩], ⟨0, 9, 15, 29⟩, [], eIO, 3, rfl, List.forall_mem_cons.mpr ⟨⟨by decide, eIS, lc_L_13, by decide +kernel⟩, (fun _ h => absurd h List.not_mem_nil)⟩, rfl, by decide, lc_L_29, dc_eIO, by decide, 2, by decide, Or.inr ⟨3, rfl, by decide +kernel, by decide +kernel, by decide +kernel⟩⟩
theorem w_L_root (a : Int32) (σ σc : Mem) (v : Int32) (hX : MetO y_X_root mi_X_root [.inr (.inl 0), .inl a] σ (.inl (some (.inl v), σc))) : MetW y_L_root mi_L_root h_L_root [.inr (.inl 0), .inl a, .inr (.inl 15)] σ (nI 0) (st σc 15 0 v) := by
  refine metW_of ⟨rfl, rfl⟩ rfl rfl (Nat.le_of_ble_eq_true rfl) (nls ⟨trivial, trivial, trivial, trivial⟩) (fun X hC => ?_)
  refine Go_run ok_L_root hC [] 60 (fun K R1 T1 hK hR hT => ?_)
  conv => whnf
  refine ⟨.inl (_, _), hX, ?_⟩
  conv => whnf
  refine ⟨vp_in_nI (by decide) (by decide), ?_⟩
  conv => whnf
  exact hR _ _ ⟨rfl, rfl⟩
theorem wx_L_root (a : Int32) (σ σc : Mem) {E : String} {k : Nat} (hin : (E, k) ∈ [(eIS, 1), (eIO, 2)]) (hX : MetO y_X_root mi_X_root [.inr (.inl 0), .inl a] σ (.inr (E, σc))) : MetW y_L_root mi_L_root h_L_root [.inr (.inl 0), .inl a, .inr (.inl 15)] σ (nI k) σc := by
  refine metW_of ⟨rfl, rfl⟩ rfl rfl (Nat.le_of_ble_eq_true rfl) (nls ⟨trivial, trivial, trivial, trivial⟩) (fun X hC => ?_)
  refine Go_run ok_L_root hC [] 60 (fun K R1 T1 hK hR hT => ?_)
  conv => whnf
  refine ⟨.inr (_, _), hX, ?_⟩
  refine hT _ _ _ ⟨rfl, ?_⟩
  simp only [List.mem_cons, List.mem_nil_iff, or_false, Prod.mk.injEq] at hin
  rcases hin with hin | hin
  all_goals (obtain ⟨rfl, rfl⟩ := hin)
  · exact ho_L_root_1
  · exact ho_L_root_2
abbrev b_L_freeWords : ByteArray := method_10_code
def y_L_freeWords : MethodName := ⟨"RootedWordsLaw", "freeWords", "(LRootedWords;[J)I"⟩
def h_L_freeWords : List (Nat × Nat × Nat × Nat) := [(0, 8, 11, 13)]
def f_L_freeWords : Nat → Option TE := fun pc => cond (Nat.ble pc 7) (cond (Nat.ble pc 2) (cond (Nat.ble pc 0) (cond (Nat.beq pc 0) (some (.aload_n 1, 1, 1, 0)) none) (cond (Nat.ble pc 1) (cond (Nat.beq pc 1) (some (.iconst 0, 2, 0, nI 0)) none) (cond (Nat.beq pc 2) (some (.aload_n 0, 3, 0, 0)) none))) (cond (Nat.ble pc 3) (cond (Nat.beq pc 3) (some (.invokevirtual 43, 6, 0, 0)) none) (cond (Nat.ble pc 6) (cond (Nat.beq pc 6) (some (.i2l, 7, 0, 0)) none) (cond (Nat.beq pc 7) (some (.lastore, 8, 0, 0)) none)))) (cond (Nat.ble pc 12) (cond (Nat.ble pc 8) (cond (Nat.beq pc 8) (some (.goto 6, 11, 14, 0)) none) (cond (Nat.ble pc 11) (cond (Nat.beq pc 11) (some (.astore_n 2, 12, 2, 0)) none) (cond (Nat.beq pc 12) (some (.iconst 1, 13, 0, nI 1)) none))) (cond (Nat.ble pc 13) (cond (Nat.beq pc 13) (some (.ireturn, 14, 0, 0)) none) (cond (Nat.ble pc 14) (cond (Nat.beq pc 14) (some (.iconst 0, 15, 0, nI 0)) none) (cond (Nat.beq pc 15) (some (.ireturn, 16, 0, 0)) none))))
set_option maxRecDepth 100000 in
theorem k_L_freeWords : (List.range 16).all (fun pc => match f_L_freeWords pc with | none => true | some q => chk b_L_freeWords 3 pc q) = true := by decide +kernel
theorem vw_L_freeWords : Jvm.Cond.static y_L_freeWords ∈ gtbl ∧ Jvm.Cond.initialized (y_L_freeWords).cls ∈ gtbl ∧ Jvm.Cond.codeWith y_L_freeWords b_L_freeWords 3 (some .int) h_L_freeWords ∈ gtbl := ⟨gw 410 (by decide +kernel) rfl, gw 35 (by decide +kernel) rfl, gw 411 (by decide +kernel) rfl⟩
theorem lk_L_43 : Jvm.Cond.methodLink "RootedWordsLaw" 43 y_X_freeWords ∈ gtbl := gw 412 (by decide +kernel) rfl
def mi_L_freeWords : MI := (b_L_freeWords, 3, "RootedWordsLaw", some .int, 4, tbl_of 16 f_L_freeWords, [], [(43, (0, 0, ct_any y_X_freeWords mi_X_freeWords 0))], [])
theorem ok_L_freeWords : MOK mi_L_freeWords := ⟨tbl_ok k_L_freeWords, (fun _ h => absurd h List.not_mem_nil), List.forall_mem_cons.mpr ⟨okV 0 (by decide) (s_any _ _ _ _) rfl (Nat.le_of_ble_eq_true rfl) (Nat.le_of_ble_eq_true rfl) (by decide +kernel) lk_L_43 vv_X_freeWords, (fun _ h => absurd h List.not_mem_nil)⟩⟩
theorem ho_L_freeWords_1 : HOK mi_L_freeWords h_L_freeWords 3 eIS (nI 1) := ⟨[], ⟨0, 8, 11, 13⟩, [], eIS, 2, rfl, (fun _ h => absurd h List.not_mem_nil), rfl, by decide, lc_L_13, dc_eIS, by decide, 1, by decide, Or.inr ⟨2, rfl, by decide +kernel, by decide +kernel, by decide +kernel⟩⟩
theorem w_L_freeWords (σ σc : Mem) (v : Int32) (hX : MetO y_X_freeWords mi_X_freeWords [.inr (.inl 0)] σ (.inl (some (.inl v), σc))) : MetW y_L_freeWords mi_L_freeWords h_L_freeWords [.inr (.inl 0), .inr (.inl 15)] σ (nI 0) (st σc 15 0 v) := by
  refine metW_of ⟨rfl, rfl⟩ rfl rfl (Nat.le_of_ble_eq_true rfl) (nls ⟨trivial, trivial, trivial⟩) (fun X hC => ?_)
  refine Go_run ok_L_freeWords hC [] 60 (fun K R1 T1 hK hR hT => ?_)
  conv => whnf
  refine ⟨.inl (_, _), hX, ?_⟩
  conv => whnf
  refine ⟨vp_in_nI (by decide) (by decide), ?_⟩
  conv => whnf
  exact hR _ _ ⟨rfl, rfl⟩
theorem wx_L_freeWords (σ σc : Mem) {E : String} {k : Nat} (hin : (E, k) ∈ [(eIS, 1)]) (hX : MetO y_X_freeWords mi_X_freeWords [.inr (.inl 0)] σ (.inr (E, σc))) : MetW y_L_freeWords mi_L_freeWords h_L_freeWords [.inr (.inl 0), .inr (.inl 15)] σ (nI k) σc := by
  refine metW_of ⟨rfl, rfl⟩ rfl rfl (Nat.le_of_ble_eq_true rfl) (nls ⟨trivial, trivial, trivial⟩) (fun X hC => ?_)
  refine Go_run ok_L_freeWords hC [] 60 (fun K R1 T1 hK hR hT => ?_)
  conv => whnf
  refine ⟨.inr (_, _), hX, ?_⟩
  refine hT _ _ _ ⟨rfl, ?_⟩
  simp only [List.mem_cons, List.mem_nil_iff, or_false, Prod.mk.injEq] at hin
  rcases hin with hin
  all_goals (obtain ⟨rfl, rfl⟩ := hin)
  · exact ho_L_freeWords_1
abbrev b_L_largestFree : ByteArray := method_11_code
def y_L_largestFree : MethodName := ⟨"RootedWordsLaw", "largestFree", "(LRootedWords;[J)I"⟩
def h_L_largestFree : List (Nat × Nat × Nat × Nat) := [(0, 8, 11, 13)]
def f_L_largestFree : Nat → Option TE := fun pc => cond (Nat.ble pc 7) (cond (Nat.ble pc 2) (cond (Nat.ble pc 0) (cond (Nat.beq pc 0) (some (.aload_n 1, 1, 1, 0)) none) (cond (Nat.ble pc 1) (cond (Nat.beq pc 1) (some (.iconst 0, 2, 0, nI 0)) none) (cond (Nat.beq pc 2) (some (.aload_n 0, 3, 0, 0)) none))) (cond (Nat.ble pc 3) (cond (Nat.beq pc 3) (some (.invokevirtual 47, 6, 0, 0)) none) (cond (Nat.ble pc 6) (cond (Nat.beq pc 6) (some (.i2l, 7, 0, 0)) none) (cond (Nat.beq pc 7) (some (.lastore, 8, 0, 0)) none)))) (cond (Nat.ble pc 12) (cond (Nat.ble pc 8) (cond (Nat.beq pc 8) (some (.goto 6, 11, 14, 0)) none) (cond (Nat.ble pc 11) (cond (Nat.beq pc 11) (some (.astore_n 2, 12, 2, 0)) none) (cond (Nat.beq pc 12) (some (.iconst 1, 13, 0, nI 1)) none))) (cond (Nat.ble pc 13) (cond (Nat.beq pc 13) (some (.ireturn, 14, 0, 0)) none) (cond (Nat.ble pc 14) (cond (Nat.beq pc 14) (some (.iconst 0, 15, 0, nI 0)) none) (cond (Nat.beq pc 15) (some (.ireturn, 16, 0, 0)) none))))
set_option maxRecDepth 100000 in
theorem k_L_largestFree : (List.range 16).all (fun pc => match f_L_largestFree pc with | none => true | some q => chk b_L_largestFree 3 pc q) = true := by decide +kernel
theorem vw_L_largestFree : Jvm.Cond.static y_L_largestFree ∈ gtbl ∧ Jvm.Cond.initialized (y_L_largestFree).cls ∈ gtbl ∧ Jvm.Cond.codeWith y_L_largestFree b_L_largestFree 3 (some .int) h_L_largestFree ∈ gtbl := ⟨gw 417 (by decide +kernel) rfl, gw 35 (by decide +kernel) rfl, gw 418 (by decide +kernel) rfl⟩
theorem lk_L_47 : Jvm.Cond.methodLink "RootedWordsLaw" 47 y_X_largestFree ∈ gtbl := gw 419 (by decide +kernel) rfl
def mi_L_largestFree : MI := (b_L_largestFree, 3, "RootedWordsLaw", some .int, 4, tbl_of 16 f_L_largestFree, [], [(47, (0, 0, ct_any y_X_largestFree mi_X_largestFree 0))], [])
theorem ok_L_largestFree : MOK mi_L_largestFree := ⟨tbl_ok k_L_largestFree, (fun _ h => absurd h List.not_mem_nil), List.forall_mem_cons.mpr ⟨okV 0 (by decide) (s_any _ _ _ _) rfl (Nat.le_of_ble_eq_true rfl) (Nat.le_of_ble_eq_true rfl) (by decide +kernel) lk_L_47 vv_X_largestFree, (fun _ h => absurd h List.not_mem_nil)⟩⟩
theorem ho_L_largestFree_1 : HOK mi_L_largestFree h_L_largestFree 3 eIS (nI 1) := ⟨[], ⟨0, 8, 11, 13⟩, [], eIS, 2, rfl, (fun _ h => absurd h List.not_mem_nil), rfl, by decide, lc_L_13, dc_eIS, by decide, 1, by decide, Or.inr ⟨2, rfl, by decide +kernel, by decide +kernel, by decide +kernel⟩⟩
theorem w_L_largestFree (σ σc : Mem) (v : Int32) (hX : MetO y_X_largestFree mi_X_largestFree [.inr (.inl 0)] σ (.inl (some (.inl v), σc))) : MetW y_L_largestFree mi_L_largestFree h_L_largestFree [.inr (.inl 0), .inr (.inl 15)] σ (nI 0) (st σc 15 0 v) := by
  refine metW_of ⟨rfl, rfl⟩ rfl rfl (Nat.le_of_ble_eq_true rfl) (nls ⟨trivial, trivial, trivial⟩) (fun X hC => ?_)
  refine Go_run ok_L_largestFree hC [] 60 (fun K R1 T1 hK hR hT => ?_)
  conv => whnf
  refine ⟨.inl (_, _), hX, ?_⟩
  conv => whnf
  refine ⟨vp_in_nI (by decide) (by decide), ?_⟩
  conv => whnf
  exact hR _ _ ⟨rfl, rfl⟩
theorem wx_L_largestFree (σ σc : Mem) {E : String} {k : Nat} (hin : (E, k) ∈ [(eIS, 1)]) (hX : MetO y_X_largestFree mi_X_largestFree [.inr (.inl 0)] σ (.inr (E, σc))) : MetW y_L_largestFree mi_L_largestFree h_L_largestFree [.inr (.inl 0), .inr (.inl 15)] σ (nI k) σc := by
  refine metW_of ⟨rfl, rfl⟩ rfl rfl (Nat.le_of_ble_eq_true rfl) (nls ⟨trivial, trivial, trivial⟩) (fun X hC => ?_)
  refine Go_run ok_L_largestFree hC [] 60 (fun K R1 T1 hK hR hT => ?_)
  conv => whnf
  refine ⟨.inr (_, _), hX, ?_⟩
  refine hT _ _ _ ⟨rfl, ?_⟩
  simp only [List.mem_cons, List.mem_nil_iff, or_false, Prod.mk.injEq] at hin
  rcases hin with hin
  all_goals (obtain ⟨rfl, rfl⟩ := hin)
  · exact ho_L_largestFree_1
abbrev b_L_extent : ByteArray := method_12_code
def y_L_extent : MethodName := ⟨"RootedWordsLaw", "extent", "(LRootedWords;I[J)I"⟩
def h_L_extent : List (Nat × Nat × Nat × Nat) := [(0, 9, 12, 13), (0, 9, 15, 29)]
def f_L_extent : Nat → Option TE := fun pc => cond (Nat.ble pc 9) (cond (Nat.ble pc 3) (cond (Nat.ble pc 1) (cond (Nat.ble pc 0) (cond (Nat.beq pc 0) (some (.aload_n 2, 1, 2, 0)) none) (cond (Nat.beq pc 1) (some (.iconst 0, 2, 0, nI 0)) none)) (cond (Nat.ble pc 2) (cond (Nat.beq pc 2) (some (.aload_n 0, 3, 0, 0)) none) (cond (Nat.beq pc 3) (some (.iload_n 1, 4, 1, 0)) none))) (cond (Nat.ble pc 7) (cond (Nat.ble pc 4) (cond (Nat.beq pc 4) (some (.invokevirtual 50, 7, 0, 0)) none) (cond (Nat.beq pc 7) (some (.i2l, 8, 0, 0)) none)) (cond (Nat.ble pc 8) (cond (Nat.beq pc 8) (some (.lastore, 9, 0, 0)) none) (cond (Nat.beq pc 9) (some (.goto 9, 12, 18, 0)) none)))) (cond (Nat.ble pc 15) (cond (Nat.ble pc 13) (cond (Nat.ble pc 12) (cond (Nat.beq pc 12) (some (.astore_n 3, 13, 3, 0)) none) (cond (Nat.beq pc 13) (some (.iconst 1, 14, 0, nI 1)) none)) (cond (Nat.ble pc 14) (cond (Nat.beq pc 14) (some (.ireturn, 15, 0, 0)) none) (cond (Nat.beq pc 15) (some (.astore_n 3, 16, 3, 0)) none))) (cond (Nat.ble pc 17) (cond (Nat.ble pc 16) (cond (Nat.beq pc 16) (some (.iconst 2, 17, 0, nI 2)) none) (cond (Nat.beq pc 17) (some (.ireturn, 18, 0, 0)) none)) (cond (Nat.ble pc 18) (cond (Nat.beq pc 18) (some (.iconst 0, 19, 0, nI 0)) none) (cond (Nat.beq pc 19) (some (.ireturn, 20, 0, 0)) none))))
set_option maxRecDepth 100000 in
theorem k_L_extent : (List.range 20).all (fun pc => match f_L_extent pc with | none => true | some q => chk b_L_extent 4 pc q) = true := by decide +kernel
theorem vw_L_extent : Jvm.Cond.static y_L_extent ∈ gtbl ∧ Jvm.Cond.initialized (y_L_extent).cls ∈ gtbl ∧ Jvm.Cond.codeWith y_L_extent b_L_extent 4 (some .int) h_L_extent ∈ gtbl := ⟨gw 424 (by decide +kernel) rfl, gw 35 (by decide +kernel) rfl, gw 425 (by decide +kernel) rfl⟩
theorem lk_L_50 : Jvm.Cond.methodLink "RootedWordsLaw" 50 y_X_extent ∈ gtbl := gw 426 (by decide +kernel) rfl
def mi_L_extent : MI := (b_L_extent, 4, "RootedWordsLaw", some .int, 4, tbl_of 20 f_L_extent, [], [(50, (0, 1, ct_any y_X_extent mi_X_extent 0))], [])
theorem ok_L_extent : MOK mi_L_extent := ⟨tbl_ok k_L_extent, (fun _ h => absurd h List.not_mem_nil), List.forall_mem_cons.mpr ⟨okV 0 (by decide) (s_any _ _ _ _) rfl (Nat.le_of_ble_eq_true rfl) (Nat.le_of_ble_eq_true rfl) (by decide +kernel) lk_L_50 vv_X_extent, (fun _ h => absurd h List.not_mem_nil)⟩⟩
theorem ho_L_extent_1 : HOK mi_L_extent h_L_extent 4 eIS (nI 1) := ⟨[], ⟨0, 9, 12, 13⟩, [⟨0, 9, 15, 29⟩], eIS, 3, rfl, (fun _ h => absurd h List.not_mem_nil), rfl, by decide, lc_L_13, dc_eIS, by decide, 1, by decide, Or.inr ⟨3, rfl, by decide +kernel, by decide +kernel, by decide +kernel⟩⟩
theorem ho_L_extent_2 : HOK mi_L_extent h_L_extent 4 eIO (nI 2) := ⟨[⟨0, 9, 12, 13⟩], ⟨0, 9, 15, 29⟩, [], eIO, 3, rfl, List.forall_mem_cons.mpr ⟨⟨by decide, eIS, lc_L_13, by decide +kernel⟩, (fun _ h => absurd h List.not_mem_nil)⟩, rfl, by decide, lc_L_29, dc_eIO, by decide, 2, by decide, Or.inr ⟨3, rfl, by decide +kernel, by decide +kernel, by decide +kernel⟩⟩
theorem w_L_extent (a : Int32) (σ σc : Mem) (v : Int32) (hX : MetO y_X_extent mi_X_extent [.inr (.inl 0), .inl a] σ (.inl (some (.inl v), σc))) : MetW y_L_extent mi_L_extent h_L_extent [.inr (.inl 0), .inl a, .inr (.inl 15)] σ (nI 0) (st σc 15 0 v) := by
  refine metW_of ⟨rfl, rfl⟩ rfl rfl (Nat.le_of_ble_eq_true rfl) (nls ⟨trivial, trivial, trivial, trivial⟩) (fun X hC => ?_)
  refine Go_run ok_L_extent hC [] 60 (fun K R1 T1 hK hR hT => ?_)
  conv => whnf
  refine ⟨.inl (_, _), hX, ?_⟩
  conv => whnf
  refine ⟨vp_in_nI (by decide) (by decide), ?_⟩
  conv => whnf
  exact hR _ _ ⟨rfl, rfl⟩
theorem wx_L_extent (a : Int32) (σ σc : Mem) {E : String} {k : Nat} (hin : (E, k) ∈ [(eIS, 1), (eIO, 2)]) (hX : MetO y_X_extent mi_X_extent [.inr (.inl 0), .inl a] σ (.inr (E, σc))) : MetW y_L_extent mi_L_extent h_L_extent [.inr (.inl 0), .inl a, .inr (.inl 15)] σ (nI k) σc := by
  refine metW_of ⟨rfl, rfl⟩ rfl rfl (Nat.le_of_ble_eq_true rfl) (nls ⟨trivial, trivial, trivial, trivial⟩) (fun X hC => ?_)
  refine Go_run ok_L_extent hC [] 60 (fun K R1 T1 hK hR hT => ?_)
  conv => whnf
  refine ⟨.inr (_, _), hX, ?_⟩
  refine hT _ _ _ ⟨rfl, ?_⟩
  simp only [List.mem_cons, List.mem_nil_iff, or_false, Prod.mk.injEq] at hin
  rcases hin with hin | hin
  all_goals (obtain ⟨rfl, rfl⟩ := hin)
  · exact ho_L_extent_1
  · exact ho_L_extent_2
abbrev b_L_reached : ByteArray := method_13_code
def y_L_reached : MethodName := ⟨"RootedWordsLaw", "reached", "(LRootedWords;[J)I"⟩
def h_L_reached : List (Nat × Nat × Nat × Nat) := [(0, 8, 11, 13)]
def f_L_reached : Nat → Option TE := fun pc => cond (Nat.ble pc 7) (cond (Nat.ble pc 2) (cond (Nat.ble pc 0) (cond (Nat.beq pc 0) (some (.aload_n 1, 1, 1, 0)) none) (cond (Nat.ble pc 1) (cond (Nat.beq pc 1) (some (.iconst 0, 2, 0, nI 0)) none) (cond (Nat.beq pc 2) (some (.aload_n 0, 3, 0, 0)) none))) (cond (Nat.ble pc 3) (cond (Nat.beq pc 3) (some (.invokevirtual 53, 6, 0, 0)) none) (cond (Nat.ble pc 6) (cond (Nat.beq pc 6) (some (.i2l, 7, 0, 0)) none) (cond (Nat.beq pc 7) (some (.lastore, 8, 0, 0)) none)))) (cond (Nat.ble pc 12) (cond (Nat.ble pc 8) (cond (Nat.beq pc 8) (some (.goto 6, 11, 14, 0)) none) (cond (Nat.ble pc 11) (cond (Nat.beq pc 11) (some (.astore_n 2, 12, 2, 0)) none) (cond (Nat.beq pc 12) (some (.iconst 1, 13, 0, nI 1)) none))) (cond (Nat.ble pc 13) (cond (Nat.beq pc 13) (some (.ireturn, 14, 0, 0)) none) (cond (Nat.ble pc 14) (cond (Nat.beq pc 14) (some (.iconst 0, 15, 0, nI 0)) none) (cond (Nat.beq pc 15) (some (.ireturn, 16, 0, 0)) none))))
set_option maxRecDepth 100000 in
theorem k_L_reached : (List.range 16).all (fun pc => match f_L_reached pc with | none => true | some q => chk b_L_reached 3 pc q) = true := by decide +kernel
theorem vw_L_reached : Jvm.Cond.static y_L_reached ∈ gtbl ∧ Jvm.Cond.initialized (y_L_reached).cls ∈ gtbl ∧ Jvm.Cond.codeWith y_L_reached b_L_reached 3 (some .int) h_L_reached ∈ gtbl := ⟨gw 432 (by decide +kernel) rfl, gw 35 (by decide +kernel) rfl, gw 433 (by decide +kernel) rfl⟩
theorem lk_L_53 : Jvm.Cond.methodLink "RootedWordsLaw" 53 y_X_reached ∈ gtbl := gw 434 (by decide +kernel) rfl
def mi_L_reached : MI := (b_L_reached, 3, "RootedWordsLaw", some .int, 6, tbl_of 16 f_L_reached, [], [(53, (0, 0, ct_any y_X_reached mi_X_reached 0))], [])
theorem ok_L_reached : MOK mi_L_reached := ⟨tbl_ok k_L_reached, (fun _ h => absurd h List.not_mem_nil), List.forall_mem_cons.mpr ⟨okV 0 (by decide) (s_any _ _ _ _) rfl (Nat.le_of_ble_eq_true rfl) (Nat.le_of_ble_eq_true rfl) (by decide +kernel) lk_L_53 vv_X_reached, (fun _ h => absurd h List.not_mem_nil)⟩⟩
theorem ho_L_reached_1 : HOK mi_L_reached h_L_reached 3 eIS (nI 1) := ⟨[], ⟨0, 8, 11, 13⟩, [], eIS, 2, rfl, (fun _ h => absurd h List.not_mem_nil), rfl, by decide, lc_L_13, dc_eIS, by decide, 1, by decide, Or.inr ⟨2, rfl, by decide +kernel, by decide +kernel, by decide +kernel⟩⟩
theorem w_L_reached (σ σc : Mem) (v : Int32) (hX : MetO y_X_reached mi_X_reached [.inr (.inl 0)] σ (.inl (some (.inl v), σc))) : MetW y_L_reached mi_L_reached h_L_reached [.inr (.inl 0), .inr (.inl 15)] σ (nI 0) (st σc 15 0 v) := by
  refine metW_of ⟨rfl, rfl⟩ rfl rfl (Nat.le_of_ble_eq_true rfl) (nls ⟨trivial, trivial, trivial⟩) (fun X hC => ?_)
  refine Go_run ok_L_reached hC [] 60 (fun K R1 T1 hK hR hT => ?_)
  conv => whnf
  refine ⟨.inl (_, _), hX, ?_⟩
  conv => whnf
  refine ⟨vp_in_nI (by decide) (by decide), ?_⟩
  conv => whnf
  exact hR _ _ ⟨rfl, rfl⟩
theorem wx_L_reached (σ σc : Mem) {E : String} {k : Nat} (hin : (E, k) ∈ [(eIS, 1)]) (hX : MetO y_X_reached mi_X_reached [.inr (.inl 0)] σ (.inr (E, σc))) : MetW y_L_reached mi_L_reached h_L_reached [.inr (.inl 0), .inr (.inl 15)] σ (nI k) σc := by
  refine metW_of ⟨rfl, rfl⟩ rfl rfl (Nat.le_of_ble_eq_true rfl) (nls ⟨trivial, trivial, trivial⟩) (fun X hC => ?_)
  refine Go_run ok_L_reached hC [] 60 (fun K R1 T1 hK hR hT => ?_)
  conv => whnf
  refine ⟨.inr (_, _), hX, ?_⟩
  refine hT _ _ _ ⟨rfl, ?_⟩
  simp only [List.mem_cons, List.mem_nil_iff, or_false, Prod.mk.injEq] at hin
  rcases hin with hin
  all_goals (obtain ⟨rfl, rfl⟩ := hin)
  · exact ho_L_reached_1
abbrev b_L_recover : ByteArray := method_14_code
def y_L_recover : MethodName := ⟨"RootedWordsLaw", "recover", "(LRootedWords;[J)I"⟩
def h_L_recover : List (Nat × Nat × Nat × Nat) := [(0, 8, 11, 13)]
def f_L_recover : Nat → Option TE := fun pc => cond (Nat.ble pc 7) (cond (Nat.ble pc 2) (cond (Nat.ble pc 0) (cond (Nat.beq pc 0) (some (.aload_n 1, 1, 1, 0)) none) (cond (Nat.ble pc 1) (cond (Nat.beq pc 1) (some (.iconst 0, 2, 0, nI 0)) none) (cond (Nat.beq pc 2) (some (.aload_n 0, 3, 0, 0)) none))) (cond (Nat.ble pc 3) (cond (Nat.beq pc 3) (some (.invokevirtual 56, 6, 0, 0)) none) (cond (Nat.ble pc 6) (cond (Nat.beq pc 6) (some (.i2l, 7, 0, 0)) none) (cond (Nat.beq pc 7) (some (.lastore, 8, 0, 0)) none)))) (cond (Nat.ble pc 12) (cond (Nat.ble pc 8) (cond (Nat.beq pc 8) (some (.goto 6, 11, 14, 0)) none) (cond (Nat.ble pc 11) (cond (Nat.beq pc 11) (some (.astore_n 2, 12, 2, 0)) none) (cond (Nat.beq pc 12) (some (.iconst 1, 13, 0, nI 1)) none))) (cond (Nat.ble pc 13) (cond (Nat.beq pc 13) (some (.ireturn, 14, 0, 0)) none) (cond (Nat.ble pc 14) (cond (Nat.beq pc 14) (some (.iconst 0, 15, 0, nI 0)) none) (cond (Nat.beq pc 15) (some (.ireturn, 16, 0, 0)) none))))
set_option maxRecDepth 100000 in
theorem k_L_recover : (List.range 16).all (fun pc => match f_L_recover pc with | none => true | some q => chk b_L_recover 3 pc q) = true := by decide +kernel
theorem vw_L_recover : Jvm.Cond.static y_L_recover ∈ gtbl ∧ Jvm.Cond.initialized (y_L_recover).cls ∈ gtbl ∧ Jvm.Cond.codeWith y_L_recover b_L_recover 3 (some .int) h_L_recover ∈ gtbl := ⟨gw 451 (by decide +kernel) rfl, gw 35 (by decide +kernel) rfl, gw 452 (by decide +kernel) rfl⟩
theorem lk_L_56 : Jvm.Cond.methodLink "RootedWordsLaw" 56 y_X_recover ∈ gtbl := gw 453 (by decide +kernel) rfl
def mi_L_recover : MI := (b_L_recover, 3, "RootedWordsLaw", some .int, 6, tbl_of 16 f_L_recover, [], [(56, (0, 0, ct_any y_X_recover mi_X_recover 0))], [])
theorem ok_L_recover : MOK mi_L_recover := ⟨tbl_ok k_L_recover, (fun _ h => absurd h List.not_mem_nil), List.forall_mem_cons.mpr ⟨okV 0 (by decide) (s_any _ _ _ _) rfl (Nat.le_of_ble_eq_true rfl) (Nat.le_of_ble_eq_true rfl) (by decide +kernel) lk_L_56 vv_X_recover, (fun _ h => absurd h List.not_mem_nil)⟩⟩
theorem ho_L_recover_1 : HOK mi_L_recover h_L_recover 3 eIS (nI 1) := ⟨[], ⟨0, 8, 11, 13⟩, [], eIS, 2, rfl, (fun _ h => absurd h List.not_mem_nil), rfl, by decide, lc_L_13, dc_eIS, by decide, 1, by decide, Or.inr ⟨2, rfl, by decide +kernel, by decide +kernel, by decide +kernel⟩⟩
theorem w_L_recover (σ σc : Mem) (v : Int32) (hX : MetO y_X_recover mi_X_recover [.inr (.inl 0)] σ (.inl (some (.inl v), σc))) : MetW y_L_recover mi_L_recover h_L_recover [.inr (.inl 0), .inr (.inl 15)] σ (nI 0) (st σc 15 0 v) := by
  refine metW_of ⟨rfl, rfl⟩ rfl rfl (Nat.le_of_ble_eq_true rfl) (nls ⟨trivial, trivial, trivial⟩) (fun X hC => ?_)
  refine Go_run ok_L_recover hC [] 60 (fun K R1 T1 hK hR hT => ?_)
  conv => whnf
  refine ⟨.inl (_, _), hX, ?_⟩
  conv => whnf
  refine ⟨vp_in_nI (by decide) (by decide), ?_⟩
  conv => whnf
  exact hR _ _ ⟨rfl, rfl⟩
theorem wx_L_recover (σ σc : Mem) {E : String} {k : Nat} (hin : (E, k) ∈ [(eIS, 1)]) (hX : MetO y_X_recover mi_X_recover [.inr (.inl 0)] σ (.inr (E, σc))) : MetW y_L_recover mi_L_recover h_L_recover [.inr (.inl 0), .inr (.inl 15)] σ (nI k) σc := by
  refine metW_of ⟨rfl, rfl⟩ rfl rfl (Nat.le_of_ble_eq_true rfl) (nls ⟨trivial, trivial, trivial⟩) (fun X hC => ?_)
  refine Go_run ok_L_recover hC [] 60 (fun K R1 T1 hK hR hT => ?_)
  conv => whnf
  refine ⟨.inr (_, _), hX, ?_⟩
  refine hT _ _ _ ⟨rfl, ?_⟩
  simp only [List.mem_cons, List.mem_nil_iff, or_false, Prod.mk.injEq] at hin
  rcases hin with hin
  all_goals (obtain ⟨rfl, rfl⟩ := hin)
  · exact ho_L_recover_1
