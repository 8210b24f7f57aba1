/-! words that no resolving takes away though they aren't among the good ones -/
def isDC : Jvm.Cond → Bool
  | .castable _ _ => true
  | .declares _ => true
  | _ => false
def dtbl : List Jvm.Cond := lw_tbl.filter isDC
theorem nw_warm {w : Jvm.Cond} (h : isDC w = true) {s U : State} (hW : s.WarmedH U.vm) (hZ : va_Nw w s) : va_Nw w U := by
  cases w <;> first | exact va_Nw.warmC hW hZ | exact va_Nw.warmD hW hZ | exact (Bool.false_ne_true h).elim
theorem nw_tab {w : Jvm.Cond} (h : isDC w = true) : w.onTables = true := by
  cases w <;> first | rfl | exact (Bool.false_ne_true h).elim
/-- the texts of the throws -/
def strs : List (String × Nat × String) := [("RootedWords", 39, "no extent can have so many words"), ("RootedWords", 44, "so many words cannot have so many pointers"), ("RootedWords", 52, "no free extent has so many words"), ("RootedWords", 88, "a pointer is 0 or a used address"), ("RootedWords", 116, "there is no such extent"), ("RootedWords", 146, "the heap is down"), ("RootedWords", 151, "no used extent has this address"), ("RootedWords", 154, "the extent has no such word"), ("RootedWords", 156, "there is no such root"), ("RootedWords$Disk", 38, "the power has failed")]
/-- the classes of exceptions, each apart from the others -/
def eIS : String := "java/lang/IllegalStateException"
def eIA : String := "java/lang/IllegalArgumentException"
def eIO : String := "java/lang/IndexOutOfBoundsException"
def eUO : String := "java/lang/UnsupportedOperationException"
def eNE : String := "java/util/NoSuchElementException"
def ncs : List (String × String) := [(eIA, eIS), (eUO, eIS), (eUO, eIA), (eNE, eIS), (eIO, eIS), (eIO, eNE), (eIA, eNE), (eIA, eIO), (eNE, eIO)]
def KG (g : GT) (U : State) : Prop := va_K g.2.1 classes (gtys g) U ∧ (∀ w ∈ dtbl, va_Nw w U) ∧ (∀ q ∈ strs, ∃ sa, vk_R q.1 q.2.1 q.2.2 sa U) ∧ (∀ q ∈ ncs, va_Nc q.1 q.2 U) ∧
  vx_Zq Bundle.tN "UNASSIGNED_STACK" Bundle.steD (gA g) U U.heap ∧ vx_Zq Bundle.tN "SUPPRESSED_SENTINEL" Bundle.listD (gA g) U U.heap ∧ (∀ σ, va_D (gA g) (mw g σ)) ∧ gil g = Int32.toInt64
/-- the same in a later state whose low cells are as they were -/
theorem KG.go {g : GT} {s U : State} (h : KG g s) (hW : s.WarmedH U.vm) (hq : ∀ q : Nat, q < s.heap.size → ¬ gA g q → U.heap[q]? = s.heap[q]?) : KG g U := by
  obtain ⟨h1, h2, h3, h4, h5, h6, h7, h8⟩ := h
  refine ⟨va_K.moved hW.alike h1, fun w hw => nw_warm (List.mem_filter.mp hw).2 hW (h2 w hw), fun q hq => ?_, fun q hq => va_Nc.moved hW.alike (h4 q hq), vx_Zq.moved hW.alike (h5.kept hq), vx_Zq.moved hW.alike (h6.kept hq), h7, h8⟩
  obtain ⟨sa, h⟩ := h3 q hq
  exact ⟨sa, h.warm hW⟩
theorem KG.blind {g : GT} {U : State} (f : JFrame) (mk : MethodId) (a : Array Value) (h : KG g U) : KG g (U.calling f mk a) := by
  obtain ⟨h1, h2, h3, h4, h5, h6, h7, h8⟩ := h
  refine ⟨va_K.moved (u := U) (U := U.calling f mk a) (Vm.Alike.refl U.vm) h1, fun w hw => va_Nw.same (u := U) (U := U.calling f mk a) (nw_tab (List.mem_filter.mp hw).2) rfl (h2 w hw), fun q hq => ?_, fun q hq => va_Nc.moved (u := U) (U := U.calling f mk a) (Vm.Alike.refl U.vm) (h4 q hq), vx_Zq.moved (u := U) (U := U.calling f mk a) (Vm.Alike.refl U.vm) h5, vx_Zq.moved (u := U) (U := U.calling f mk a) (Vm.Alike.refl U.vm) h6, h7, h8⟩
  obtain ⟨sa, h⟩ := h3 q hq
  exact ⟨sa, h.same rfl⟩
/-! the context of a walk -/
abbrev CT : Type := Program × Launch × Env × Room × State × MethodId × Array Value × List Frame × Method × Code × GT × (State → Prop) × Nat × Nat
def xp (X : CT) : Program := X.1
def xl (X : CT) : Launch := X.2.1
def xe (X : CT) : Env := X.2.2.1
def xR (X : CT) : Room := X.2.2.2.1
def xs (X : CT) : State := X.2.2.2.2.1
def xm (X : CT) : MethodId := X.2.2.2.2.2.1
def xa (X : CT) : Array Value := X.2.2.2.2.2.2.1
def xb (X : CT) : List Frame := X.2.2.2.2.2.2.2.1
def xme (X : CT) : Method := X.2.2.2.2.2.2.2.2.1
def xc (X : CT) : Code := X.2.2.2.2.2.2.2.2.2.1
def xg (X : CT) : GT := X.2.2.2.2.2.2.2.2.2.2.1
def xQ (X : CT) : State → Prop := X.2.2.2.2.2.2.2.2.2.2.2.1
def xk (X : CT) : Nat := X.2.2.2.2.2.2.2.2.2.2.2.2.1
def xn (X : CT) : Nat := X.2.2.2.2.2.2.2.2.2.2.2.2.2
abbrev XW (X : CT) (H : Heap) (locs : List Loc) (gf : JFrame) : Prop := W (xp X) (xl X) (xe X) (xR X) (xs X) (xm X) (xa X) (xb X) (xme X) (xc X) H locs (xk X) (xn X) (xQ X) gf
abbrev wo (X : CT) (σ : Mem) (H : Heap) : Prop := va_P (xg X).2.1 classes (mw (xg X) σ) H
abbrev wS (X : CT) (H : Heap) (locs : List Loc) : Prop := va_S (gA (xg X)) (xs X).heap H locs
def Go (X : CT) (M : MI) (pc : Nat) (L : List (Option AV)) (S : List AV) (σ : Mem) : Prop :=
  ∀ (H : Heap) (locs : List Loc) (ls : Array Slot), wo X σ H → wS X H locs → LH (xg X) ls (m_nL M) L → XW X H locs (F0 (xm X) pc ls (S.map (cv (xg X))))
def RtOK (X : CT) (M : MI) (Rt : Option AV → Mem → Prop) : Prop := ∀ (r : Option AV) (σ : Mem) (pc : Nat) (H : Heap) (locs : List Loc) (ls : Array Slot), Rt r σ → wo X σ H → wS X H locs →
  (match r with | none => m_ret M = none ∧ decode (m_cc M) pc = .ok (.return_, 1) | some v => ∃ (x : Int32) (ty : FieldType), v = .inl x ∧ m_ret M = some ty ∧ narrow ty (.int x) = .int x ∧ decode (m_cc M) pc = .ok (.ireturn, 1)) → XW X H locs (F0 (xm X) pc ls (r.toList.map (cv (xg X))))
def ThOK (X : CT) (M : MI) (Th : Nat → String → Mem → Prop) : Prop := ∀ (pc : Nat) (E : String) (σ : Mem), Th pc E σ → (xk X + 1 ≤ (xR X).cells ∧ xn X + 6 ≤ (xR X).slots) ∧
  ∀ (H : Heap) (locs : List Loc) (ls : Array Slot) (rest : List Value) (q : Addr) (ce : Cell), wo X σ H → wS X H locs → lv_has ls (m_nL M) [] → H[q]? = some ce → ce.vm = .none → (xs X).vm.findClass E = some ce.cls →
    vx_W (xp X) (xl X) (xe X) (xR X) (xs X) (xm X) (xa X) (xb X) (xme X) (xc X) H locs (xk X + 1) (xn X + 6) (xQ X) (F0 (xm X) pc ls rest) q
def TsOK (X : CT) (M : MI) (Th : Nat → String → Mem → Prop) : Prop := ∀ (pc : Nat) (E : String) (σ : Mem), (pc, E) ∈ m_tr M → Th pc E σ → ∀ (H : Heap) (locs : List Loc) (ls : Array Slot), wo X σ H → wS X H locs → ls.size = m_nL M → XW X H locs (F0 (xm X) pc ls [])
def Cx (X : CT) (M : MI) (Rt : Option AV → Mem → Prop) (Th : Nat → String → Mem → Prop) : Prop :=
  ((xp X).tables.exec = Jvm.exec ∧ (xc X).code = m_cc M ∧ (xc X).maxLocals = m_nL M ∧ (xs X).vm.findClass (m_own M) = some (xm X).cls ∧ (∀ w ∈ gtbl, w.before (xa X) (xs X) = true) ∧ KG (xg X) (xs X) ∧ (xg X).1 ≤ (xs X).heap.size) ∧
  (8 + m_d M ≤ (xR X).frames ∧ 100 + 30 * m_d M ≤ (xR X).locals ∧ xk X ≤ (xR X).cells ∧ xn X ≤ (xR X).slots) ∧ RtOK X M Rt ∧ ThOK X M Th ∧ TsOK X M Th ∧ (xl X).stackTraces = false
/-- a callee of a method: what its contract promises it pays -/
def CallGo (M : MI) (ix o : Nat) (as : List AV) (σ : Mem) (oc : OC) : Prop := ∀ (X : CT) (Rt : Option AV → Mem → Prop) (Th : Nat → String → Mem → Prop), Cx X M Rt Th → ∀ (pc : Nat) (L : List (Option AV)) (rest : List AV), rest.length ≤ 4 →
  (match oc with | .inl q => Go X M (pc + 3) L (q.1.toList ++ rest) q.2 | .inr q => Th pc q.1 q.2) →
  (o < 99 → decode (m_cc M) pc = .ok (.invokevirtual ix, 3) → Go X M pc L (as.reverse ++ .inr (.inl o) :: rest) σ) ∧ (o = 99 → decode (m_cc M) pc = .ok (.invokestatic ix, 3) → Go X M pc L (as.reverse ++ rest) σ)
def CallOK (M : MI) (q : Nat × (Nat × Nat × CTy)) : Prop := ∀ (as : List AV) (σ : Mem) (KN : Option AV → Mem → Prop) (KX : String → Mem → Prop), as.length = q.2.2.1 → q.2.2.2 as σ KN KX →
  ∃ oc : OC, (match oc with | .inl z => KN z.1 z.2 | .inr z => KX z.1 z.2) ∧ CallGo M q.1 q.2.1 as σ oc
def FlOK (M : MI) (q : Nat × (Nat × Nat)) : Prop := m_own M = cR q.2.1 ∧ Jvm.Cond.fieldLink (m_own M) q.1 (m_own M) (cF q.2.1 q.2.2).2.1 (cF q.2.1 q.2.2).2.2.1 ∈ gtbl
def MOK (M : MI) : Prop := (∀ pc q, m_tb M pc = some q → chk (m_cc M) (m_nL M) pc q = true) ∧ (∀ q ∈ m_fl M, FlOK M q) ∧ ∀ q ∈ m_cal M, CallOK M q
section SND
variable {X : CT} {M : MI} {Rt : Option AV → Mem → Prop} {Th : Nat → String → Mem → Prop}
theorem c_own {ci k : Nat} (h : ci < 3) (hk : k < cN ci) {s : State} : ∀ x, s.fieldFound? (cF ci k).1 (cF ci k).2.1 (cF ci k).2.2.1 = some x → s.fieldFound? (cR ci) (cF ci k).2.1 (cF ci k).2.2.1 = some x := by
  have e : (cF ci k).1 = cR ci := by
    match ci, h with
    | 0, _ => match k, hk with | 0, _ | 1, _ | 2, _ | 3, _ => rfl
    | 1, _ => match k, hk with | 0, _ | 1, _ | 2, _ | 3, _ | 4, _ => rfl
    | 2, _ => match k, hk with | 0, _ | 1, _ | 2, _ | 3, _ | 4, _ | 5, _ | 6, _ | 7, _ | 8, _ | 9, _ | 10, _ | 11, _ | 12, _ => rfl
  rw [e]
  exact fun _ h => h
theorem vin_of {i : Int32} {n : Nat} (h : vp_in i n) : vp_in i n := h
theorem br_W {c : Jvm.ClassFile.Cond} {x y : Int32} {A B : Prop} (h : br c x y A B) {P : Prop} (heq : c = .eq → (x = y → A) → (¬ x = y → B) → P) (hne : c = .ne → (¬ x = y → A) → (x = y → B) → P) (hlt : c = .lt → (x < y → A) → (¬ x < y → B) → P)
    (hge : c = .ge → (y ≤ x → A) → (¬ y ≤ x → B) → P) (hgt : c = .gt → (y < x → A) → (¬ y < x → B) → P) (hle : c = .le → (x ≤ y → A) → (¬ x ≤ y → B) → P) : P := by
  cases c
  · exact heq rfl h.1 h.2
  · exact hne rfl h.1 h.2
  · exact hlt rfl h.1 h.2
  · exact hge rfl h.1 h.2
  · exact hgt rfl h.1 h.2
  · exact hle rfl h.1 h.2
theorem cond_el {b : Bool} {A : Prop} (h : cond b A False) : b = true ∧ A := by
  cases b
  · exact h.elim
  · exact ⟨rfl, h⟩
set_option maxHeartbeats 4000000 in
theorem stp_sound (hM : MOK M) (hX : Cx X M Rt Th) {pc : Nat} {q : TE} (htb : m_tb M pc = some q) {L : List (Option AV)} {S : List AV} {σ : Mem} {K : Nat → List (Option AV) → List AV → Mem → Prop} (hK : ∀ pc L S σ, K pc L S σ → Go X M pc L S σ)
    (h : stp M q pc L S σ K Rt Th) : Go X M pc L S σ := by
  have hck := hM.1 pc q htb
  obtain ⟨ig, nx, a, c⟩ := q
  simp only [chk, Bool.and_eq_true, decide_eq_true_eq] at hck
  obtain ⟨hd, hk⟩ := hck
  obtain ⟨⟨hx, hb, hml, hown, hts, hKG, hbase⟩, hroom, hRt, hTh, hTs, htr⟩ := id hX
  have hK0 := hKG.1
  have hD := hKG.2.2.2.2.2.2.1
  have hil := hKG.2.2.2.2.2.2.2
  have e1 : ∀ n, pc + n - pc = n := fun n => Nat.add_sub_cancel_left pc n
  cases ig
  case iconst n =>
    simp only [ck2, Bool.and_eq_true, beq_iff_eq, decide_eq_true_eq] at hk
    obtain ⟨rfl, rfl⟩ := hk
    rw [e1] at hd
    intro H locs ls hP hS hl
    exact lv_iconst hx hb hd rfl (hK _ _ _ _ h H locs ls hP hS hl)
  case bipush n =>
    simp only [ck2, Bool.and_eq_true, beq_iff_eq, decide_eq_true_eq] at hk
    obtain ⟨rfl, rfl⟩ := hk
    rw [e1] at hd
    intro H locs ls hP hS hl
    exact lv_bipush hx hb hd rfl (hK _ _ _ _ h H locs ls hP hS hl)
  case sipush n =>
    simp only [ck2, Bool.and_eq_true, beq_iff_eq, decide_eq_true_eq] at hk
    obtain ⟨rfl, rfl⟩ := hk
    rw [e1] at hd
    intro H locs ls hP hS hl
    exact lv_sipush hx hb hd rfl (hK _ _ _ _ h H locs ls hP hS hl)
  case iload i =>
    simp only [ck2, Bool.and_eq_true, beq_iff_eq, decide_eq_true_eq] at hk
    obtain ⟨rfl, rfl⟩ := hk
    rw [e1] at hd
    obtain ⟨x, hx1, h⟩ := li_el h
    intro H locs ls hP hS hl
    exact lv_iload hx hb hd (hl.2 _ _ hx1).1 (hK _ _ _ _ h H locs ls hP hS hl)
  case iload_n i =>
    simp only [ck2, Bool.and_eq_true, beq_iff_eq, decide_eq_true_eq] at hk
    obtain ⟨rfl, hk2⟩ := hk
    rw [e1] at hd
    obtain ⟨x, hx1, h⟩ := li_el h
    intro H locs ls hP hS hl
    exact lv_iload_n hx hb hd hk2 (hl.2 _ _ hx1).1 (hK _ _ _ _ h H locs ls hP hS hl)
  case aload i =>
    simp only [ck2, Bool.and_eq_true, beq_iff_eq, decide_eq_true_eq] at hk
    obtain ⟨rfl, rfl⟩ := hk
    rw [e1] at hd
    obtain ⟨x, hx1, h⟩ := lr_el h
    intro H locs ls hP hS hl
    exact lv_aload hx hb hd (hl.2 _ _ hx1).1 (hK _ _ _ _ h H locs ls hP hS hl)
  case aload_n i =>
    simp only [ck2, Bool.and_eq_true, beq_iff_eq, decide_eq_true_eq] at hk
    obtain ⟨rfl, hk2⟩ := hk
    rw [e1] at hd
    obtain ⟨x, hx1, h⟩ := lr_el h
    intro H locs ls hP hS hl
    exact lv_aload_n hx hb hd hk2 (hl.2 _ _ hx1).1 (hK _ _ _ _ h H locs ls hP hS hl)
  case istore i =>
    simp only [ck2, Bool.and_eq_true, beq_iff_eq, decide_eq_true_eq] at hk
    obtain ⟨rfl, rfl, hk3⟩ := hk
    rw [e1] at hd
    obtain ⟨x, r, rfl, h⟩ := s1_el h
    intro H locs ls hP hS hl
    exact lv_istore hx hb hd hl.list hk3 rfl (fun ls' hl' => hK _ _ _ _ h H locs ls' hP hS (hl.back (v := .inl x) trivial hl'))
  case istore_n i =>
    simp only [ck2, Bool.and_eq_true, beq_iff_eq, decide_eq_true_eq] at hk
    obtain ⟨rfl, hk2, hk3⟩ := hk
    rw [e1] at hd
    obtain ⟨x, r, rfl, h⟩ := s1_el h
    intro H locs ls hP hS hl
    exact lv_istore_n hx hb hd hk2 hl.list hk3 rfl (fun ls' hl' => hK _ _ _ _ h H locs ls' hP hS (hl.back (v := .inl x) trivial hl'))
  case astore i =>
    simp only [ck2, Bool.and_eq_true, beq_iff_eq, decide_eq_true_eq] at hk
    obtain ⟨rfl, rfl, hk3⟩ := hk
    rw [e1] at hd
    obtain ⟨x, r, rfl, h⟩ := sr_el h
    intro H locs ls hP hS hl
    exact lv_astore hx hb hd hl.list hk3 rfl (fun ls' hl' => hK _ _ _ _ h H locs ls' hP hS (hl.back (v := .inr (.inl x)) trivial hl'))
  case astore_n i =>
    simp only [ck2, Bool.and_eq_true, beq_iff_eq, decide_eq_true_eq] at hk
    obtain ⟨rfl, hk2, hk3⟩ := hk
    rw [e1] at hd
    obtain ⟨x, r, rfl, h⟩ := sr_el h
    intro H locs ls hP hS hl
    exact lv_astore_n hx hb hd hk2 hl.list hk3 rfl (fun ls' hl' => hK _ _ _ _ h H locs ls' hP hS (hl.back (v := .inr (.inl x)) trivial hl'))
  case iinc i n =>
    simp only [ck2, Bool.and_eq_true, beq_iff_eq, decide_eq_true_eq] at hk
    obtain ⟨rfl, rfl, hk3, rfl⟩ := hk
    rw [e1] at hd
    obtain ⟨x, hx1, h⟩ := li_el h
    intro H locs ls hP hS hl
    have hm := lvl_in (xg X) L 0 i (.inl x) hx1
    rw [Nat.zero_add] at hm
    obtain ⟨k, hk9⟩ := List.mem_iff_getElem?.mp hm
    exact lv_iinc hx hb hd hl.list hk9 rfl hk3 rfl (fun ls' hl' => hK _ _ _ _ h H locs ls' hP hS (hl.back (v := .inl (x + Int32.ofInt n)) trivial hl'))
  case iadd =>
    simp only [ck2, beq_iff_eq] at hk
    subst hk
    rw [e1] at hd
    obtain ⟨y, x, r, rfl, h⟩ := s2_el h
    intro H locs ls hP hS hl
    exact lv_iadd hx hb hd (hK _ _ _ _ h H locs ls hP hS hl)
  case isub =>
    simp only [ck2, beq_iff_eq] at hk
    subst hk
    rw [e1] at hd
    obtain ⟨y, x, r, rfl, h⟩ := s2_el h
    intro H locs ls hP hS hl
    exact lv_isub hx hb hd (hK _ _ _ _ h H locs ls hP hS hl)
  case imul =>
    simp only [ck2, beq_iff_eq] at hk
    subst hk
    rw [e1] at hd
    obtain ⟨y, x, r, rfl, h⟩ := s2_el h
    intro H locs ls hP hS hl
    exact lv_imul hx hb hd (hK _ _ _ _ h H locs ls hP hS hl)
  case iand =>
    simp only [ck2, beq_iff_eq] at hk
    subst hk
    rw [e1] at hd
    obtain ⟨y, x, r, rfl, h⟩ := s2_el h
    intro H locs ls hP hS hl
    exact lv_iand hx hb hd (hK _ _ _ _ h H locs ls hP hS hl)
  case idiv =>
    simp only [ck2, beq_iff_eq] at hk
    subst hk
    rw [e1] at hd
    obtain ⟨y, x, r, rfl, h0, h⟩ := s2_el h
    intro H locs ls hP hS hl
    exact lv_idiv hx hb hd h0 (hK _ _ _ _ h H locs ls hP hS hl)
  case irem =>
    simp only [ck2, beq_iff_eq] at hk
    subst hk
    rw [e1] at hd
    obtain ⟨y, x, r, rfl, h0, h⟩ := s2_el h
    intro H locs ls hP hS hl
    exact lv_irem hx hb hd h0 (hK _ _ _ _ h H locs ls hP hS hl)
  case ineg =>
    simp only [ck2, beq_iff_eq] at hk
    subst hk
    rw [e1] at hd
    obtain ⟨x, r, rfl, h⟩ := s1_el h
    intro H locs ls hP hS hl
    exact lv_ineg hx hb hd (hK _ _ _ _ h H locs ls hP hS hl)
  case dup =>
    simp only [ck2, beq_iff_eq] at hk
    subst hk
    rw [e1] at hd
    obtain ⟨o, r, rfl, h⟩ := sr_el h
    intro H locs ls hP hS hl
    exact lv_dup hx hb hd rfl (hK _ _ _ _ h H locs ls hP hS hl)
  case pop =>
    simp only [ck2, beq_iff_eq] at hk
    subst hk
    rw [e1] at hd
    obtain ⟨x, r, rfl, h⟩ := s1_el h
    intro H locs ls hP hS hl
    exact lv_pop hx hb hd rfl (hK _ _ _ _ h H locs ls hP hS hl)
  case i2l =>
    simp only [ck2, beq_iff_eq] at hk
    subst hk
    rw [e1] at hd
    obtain ⟨x, r, rfl, h⟩ := s1_el h
    intro H locs ls hP hS hl
    exact lv_i2l hx hb hd (show x.toInt64 = gil (xg X) x by rw [hil]) (hK _ _ _ _ h H locs ls hP hS hl)
  case lcmp =>
    simp only [ck2, beq_iff_eq] at hk
    subst hk
    rw [e1] at hd
    obtain ⟨y, x, r, rfl, h⟩ := sl2_el h
    intro H locs ls hP hS hl
    have h1 := hK _ _ _ _ h H locs ls hP hS hl
    refine W.lcmp hx hb hd ?_
    rw [hil]
    exact h1
  case iaload =>
    simp only [ck2, beq_iff_eq] at hk
    subst hk
    rw [e1] at hd
    obtain ⟨i, o, r, hSS, h7⟩ := sa2_el h
    subst hSS
    obtain ⟨h0, hi, h8⟩ := akc_el h7
    intro H locs ls hP hS hl
    exact va_iald hx hb hK0 hP o 0 (mw_int (xg X) σ o h0) rfl hi hd (hK _ _ _ _ h8 H locs ls hP hS hl)
  case baload =>
    simp only [ck2, beq_iff_eq] at hk
    subst hk
    rw [e1] at hd
    obtain ⟨i, o, r, hSS, h7⟩ := sa2_el h
    subst hSS
    obtain ⟨h0, hi, h8⟩ := akc_el h7
    intro H locs ls hP hS hl
    exact va_zald hx hb hK0 hP o 1 (mw_bool (xg X) σ o h0) rfl hi hd (hK _ _ _ _ h8 H locs ls hP hS hl)
  case laload =>
    simp only [ck2, beq_iff_eq] at hk
    subst hk
    rw [e1] at hd
    obtain ⟨i, o, r, rfl, h⟩ := sa2_el h
    obtain ⟨h0, hi, h⟩ := cond_el h
    obtain rfl : o = 15 := Nat.eq_of_beq_eq_true h0
    intro H locs ls hP hS hl
    exact va_lald hx hb hK0 hP 15 2 (n := 1) (f := fun j => gil (xg X) (σ 15 j)) rfl rfl hi hd (hK _ _ _ _ h H locs ls hP hS hl)
  case iastore =>
    simp only [ck2, beq_iff_eq] at hk
    subst hk
    rw [e1] at hd
    obtain ⟨v, i, o, r, hSS, h7⟩ := sa3_el h
    subst hSS
    obtain ⟨h0, hi, h8⟩ := akc_el h7
    intro H locs ls hP hS hl
    refine va_iast hx hb hK0 hP (hD σ) hS o 0 (mw_int (xg X) σ o h0) rfl hi hd (fun H1 locs1 hP1 hD1 hS1 => ?_)
    rw [mw_setInt (xg X) σ o _ v h0] at hP1
    exact hK _ _ _ _ h8 H1 locs1 ls hP1 hS1 hl
  case bastore =>
    simp only [ck2, beq_iff_eq] at hk
    subst hk
    rw [e1] at hd
    obtain ⟨v, i, o, r, hSS, h7⟩ := sa3_el h
    subst hSS
    obtain ⟨h0, hi, h8⟩ := akc_el h7
    intro H locs ls hP hS hl
    refine va_zast hx hb hK0 hP (hD σ) hS o 1 (mw_bool (xg X) σ o h0) rfl hi hd (fun H1 locs1 hP1 hD1 hS1 => ?_)
    rw [mw_setBool (xg X) σ o _ _ h0] at hP1
    exact hK _ _ _ _ h8 H1 locs1 ls hP1 hS1 hl
  case lastore =>
    simp only [ck2, beq_iff_eq] at hk
    subst hk
    rw [e1] at hd
    obtain ⟨v, i, o, r, rfl, h⟩ := sl3_el h
    obtain ⟨h0, hi, h⟩ := cond_el h
    obtain rfl : o = 15 := Nat.eq_of_beq_eq_true h0
    intro H locs ls hP hS hl
    refine va_last hx hb hK0 hP (hD σ) hS 15 2 (n := 1) (f := fun j => gil (xg X) (σ 15 j)) rfl rfl hi hd (fun H1 locs1 hP1 hD1 hS1 => ?_)
    rw [mw_setLong (xg X) σ _ v] at hP1
    exact hK _ _ _ _ h H1 locs1 ls hP1 hS1 hl
  case arraylength =>
    simp only [ck2, beq_iff_eq] at hk
    subst hk
    rw [e1] at hd
    obtain ⟨o, r, hSS, h7⟩ := sr_el h
    subst hSS
    obtain ⟨h0, h8⟩ := akc_el h7
    intro H locs ls hP hS hl
    exact va_alen hx hb hK0 hP o 0 (mw_int (xg X) σ o h0) rfl rfl hd (hK _ _ _ _ h8 H locs ls hP hS hl)
  case getfield ix =>
    simp only [ck2, beq_iff_eq] at hk
    subst hk
    rw [e1] at hd
    obtain ⟨o, r, rfl, h⟩ := sr_el h
    obtain ⟨⟨ci, k⟩, e2, h⟩ := om_el h
    obtain ⟨h0, h7⟩ := cond_el h
    obtain rfl : o = ob ci := Nat.eq_of_beq_eq_true h0
    obtain ⟨v, e3, h8⟩ := om_el h7
    obtain ⟨h3, h4, h5⟩ := fav_spec (xg X) σ e3
    obtain ⟨f1, f2⟩ := hM.2.1 _ (lk_mem e2)
    intro H locs ls hP hS hl
    exact va_get hx hb hts (c_inG h3) hown hK0 hP (ob ci) (mw_ob (xg X) σ h3).1 (mw_ob (xg X) σ h3).2 k h4 (ref := m_own M) (hts _ f2) (f1 ▸ c_own h3 h4) h5 hd (hK _ _ _ _ h8 H locs ls hP hS hl)
  case putfield ix =>
    simp only [ck2, beq_iff_eq] at hk
    subst hk
    rw [e1] at hd
    obtain ⟨v, o, r, rfl, h⟩ := sa2_el h
    obtain ⟨⟨ci, k⟩, e2, h⟩ := om_el h
    obtain ⟨h0, h⟩ := cond_el h
    obtain rfl : o = ob ci := Nat.eq_of_beq_eq_true h0
    obtain ⟨f1, f2⟩ := hM.2.1 _ (lk_mem e2)
    intro H locs ls hP hS hl
    cases e3 : Nat.beq (fw ci k) 1 with
    | true =>
      have e4 : fw ci k = 1 := Nat.eq_of_beq_eq_true e3
      obtain ⟨g1, g2, g3, g4, g5, g6⟩ := fw_spec (xg X) σ v (ci := ci) (k := k) (by rw [e4]; decide)
      rw [e4] at g6
      try dsimp only at h
      rw [e3] at h
      refine va_put (v := .int v) (ty := .int) hx hb hts (c_inG g1) (ct ci) (c_in g1).2.1 (c_in g1).2.2 hown hK0 hP (hD σ) hS (ob ci) (mw_ob (xg X) σ g1).1 (mw_ob (xg X) σ g1).2 k g2 (ref := m_own M) (hts _ f2) (f1 ▸ c_own g1 g2) g4 g6 rfl rfl g3 hd (fun H1 locs1 hP1 hD1 hS1 => ?_)
      rw [g5] at hP1
      exact hK _ _ _ _ h H1 locs1 ls hP1 hS1 hl
    | false =>
      try dsimp only at h
      rw [e3] at h
      obtain ⟨e5, hv, h⟩ := cond_el h
      have e4 : fw ci k = 2 := Nat.eq_of_beq_eq_true e5
      obtain ⟨g1, g2, g3, g4, g5, g6⟩ := fw_spec (xg X) σ v (ci := ci) (k := k) (by rw [e4]; decide)
      rw [e4] at g6
      have hn : narrow .boolean (.int v) = .int v := by rcases hv with rfl | rfl <;> rfl
      have hf : fits .boolean (.int v) = true := by rcases hv with rfl | rfl <;> rfl
      refine va_put (v := .int v) (ty := .boolean) hx hb hts (c_inG g1) (ct ci) (c_in g1).2.1 (c_in g1).2.2 hown hK0 hP (hD σ) hS (ob ci) (mw_ob (xg X) σ g1).1 (mw_ob (xg X) σ g1).2 k g2 (ref := m_own M) (hts _ f2) (f1 ▸ c_own g1 g2) g4 g6 hn hf g3 hd (fun H1 locs1 hP1 hD1 hS1 => ?_)
      rw [g5] at hP1
      exact hK _ _ _ _ h H1 locs1 ls hP1 hS1 hl
  case goto off =>
    simp only [ck2, Bool.and_eq_true, beq_iff_eq, decide_eq_true_eq] at hk
    obtain ⟨rfl, hk2⟩ := hk
    rw [e1] at hd
    intro H locs ls hP hS hl
    exact lv_goto hx hb hd hk2 (hK _ _ _ _ h H locs ls hP hS hl)
  case if_icmp cn off =>
    simp only [ck2, Bool.and_eq_true, beq_iff_eq, decide_eq_true_eq] at hk
    obtain ⟨rfl, hk2⟩ := hk
    rw [e1] at hd
    obtain ⟨y, x, r, rfl, h⟩ := s2_el h
    intro H locs ls hP hS hl
    refine br_W h ?_ ?_ ?_ ?_ ?_ ?_
    · rintro rfl h1 h2; exact lv_icmp_eq hx hb hd hk2 (fun z => hK _ _ _ _ (h1 z) H locs ls hP hS hl) (fun z => hK _ _ _ _ (h2 z) H locs ls hP hS hl)
    · rintro rfl h1 h2; exact lv_icmp_ne hx hb hd hk2 (fun z => hK _ _ _ _ (h1 z) H locs ls hP hS hl) (fun z => hK _ _ _ _ (h2 z) H locs ls hP hS hl)
    · rintro rfl h1 h2; exact lv_icmp_lt hx hb hd hk2 (fun z => hK _ _ _ _ (h1 z) H locs ls hP hS hl) (fun z => hK _ _ _ _ (h2 z) H locs ls hP hS hl)
    · rintro rfl h1 h2; exact lv_icmp_ge hx hb hd hk2 (fun z => hK _ _ _ _ (h1 z) H locs ls hP hS hl) (fun z => hK _ _ _ _ (h2 z) H locs ls hP hS hl)
    · rintro rfl h1 h2; exact lv_icmp_gt hx hb hd hk2 (fun z => hK _ _ _ _ (h1 z) H locs ls hP hS hl) (fun z => hK _ _ _ _ (h2 z) H locs ls hP hS hl)
    · rintro rfl h1 h2; exact lv_icmp_le hx hb hd hk2 (fun z => hK _ _ _ _ (h1 z) H locs ls hP hS hl) (fun z => hK _ _ _ _ (h2 z) H locs ls hP hS hl)
  case ifCond cn off =>
    simp only [ck2, Bool.and_eq_true, beq_iff_eq, decide_eq_true_eq] at hk
    obtain ⟨rfl, hk2⟩ := hk
    rw [e1] at hd
    obtain ⟨x, r, rfl, h⟩ := s1_el h
    intro H locs ls hP hS hl
    refine br_W h ?_ ?_ ?_ ?_ ?_ ?_
    · rintro rfl h1 h2; exact lv_if_eq hx hb hd hk2 (fun z => hK _ _ _ _ (h1 z) H locs ls hP hS hl) (fun z => hK _ _ _ _ (h2 z) H locs ls hP hS hl)
    · rintro rfl h1 h2; exact lv_if_ne hx hb hd hk2 (fun z => hK _ _ _ _ (h1 z) H locs ls hP hS hl) (fun z => hK _ _ _ _ (h2 z) H locs ls hP hS hl)
    · rintro rfl h1 h2; exact lv_if_lt hx hb hd hk2 (fun z => hK _ _ _ _ (h1 z) H locs ls hP hS hl) (fun z => hK _ _ _ _ (h2 z) H locs ls hP hS hl)
    · rintro rfl h1 h2; exact lv_if_ge hx hb hd hk2 (fun z => hK _ _ _ _ (h1 z) H locs ls hP hS hl) (fun z => hK _ _ _ _ (h2 z) H locs ls hP hS hl)
    · rintro rfl h1 h2; exact lv_if_gt hx hb hd hk2 (fun z => hK _ _ _ _ (h1 z) H locs ls hP hS hl) (fun z => hK _ _ _ _ (h2 z) H locs ls hP hS hl)
    · rintro rfl h1 h2; exact lv_if_le hx hb hd hk2 (fun z => hK _ _ _ _ (h1 z) H locs ls hP hS hl) (fun z => hK _ _ _ _ (h2 z) H locs ls hP hS hl)
  case ireturn =>
    simp only [ck2, beq_iff_eq] at hk
    subst hk
    rw [e1] at hd
    obtain ⟨x, r, rfl, h⟩ := s1_el h
    obtain ⟨rfl, h⟩ := sn_el h
    obtain ⟨ty, e2, h⟩ := om_el h
    intro H locs ls hP hS hl
    cases ty with
    | int => exact hRt (some (.inl x)) σ pc H locs ls h hP hS ⟨x, .int, rfl, e2, rfl, hd⟩
    | boolean => exact hRt (some (.inl x)) σ pc H locs ls h.2 hP hS ⟨x, .boolean, rfl, e2, congrArg Value.int h.1, hd⟩
    | _ => exact False.elim h
  case return_ =>
    simp only [ck2, beq_iff_eq] at hk
    subst hk
    rw [e1] at hd
    obtain ⟨hS0, h7⟩ := sn_el h
    subst hS0
    intro H locs ls hP hS hl
    cases e2 : m_ret M with
    | some ty => rw [e2] at h7; exact False.elim h7
    | none => rw [e2] at h7; exact hRt none σ pc H locs ls h7 hP hS ⟨e2, hd⟩
  case invokevirtual ix =>
    simp only [ck2, beq_iff_eq] at hk
    subst hk
    rw [e1] at hd
    obtain ⟨⟨o, n, f⟩, e2, h⟩ := om_el h
    obtain ⟨o', r, e3, h⟩ := sr_el h
    obtain ⟨h0, h⟩ := cond_el h
    simp only [Bool.and_eq_true] at h0
    obtain rfl : o' = o := Nat.eq_of_beq_eq_true h0.1
    obtain ⟨oc, h1, h2⟩ := hM.2.2 _ (lk_mem e2) _ σ _ _ (by rw [List.length_reverse]; exact Nat.eq_of_beq_eq_true h0.2.2.1) h
    have h3 := (h2 X Rt Th hX pc L r (Nat.le_of_ble_eq_true h0.2.2.2) (by
      match oc, h1 with
      | .inl z, h1 => exact hK _ _ _ _ h1
      | .inr z, h1 => exact h1)).1 (Nat.le_of_ble_eq_true h0.2.1) hd
    dsimp only at h3 e3
    rw [List.reverse_reverse, ← e3, List.take_append_drop] at h3
    exact h3
  case invokestatic ix =>
    simp only [ck2, beq_iff_eq] at hk
    subst hk
    rw [e1] at hd
    obtain ⟨⟨o, n, f⟩, e2, h⟩ := om_el h
    obtain ⟨h0, h⟩ := cond_el h
    simp only [Bool.and_eq_true] at h0
    obtain ⟨oc, h1, h2⟩ := hM.2.2 _ (lk_mem e2) _ σ _ _ (by rw [List.length_reverse]; exact Nat.eq_of_beq_eq_true h0.2.1) h
    have h3 := (h2 X Rt Th hX pc L (S.drop n) (Nat.le_of_ble_eq_true h0.2.2) (by
      match oc, h1 with
      | .inl z, h1 => exact hK _ _ _ _ h1
      | .inr z, h1 => exact h1)).2 (Nat.eq_of_beq_eq_true h0.1) hd
    dsimp only at h3
    rw [List.reverse_reverse, List.take_append_drop] at h3
    exact h3
  case new ix =>
    obtain ⟨rfl, h⟩ := sn_el h
    obtain ⟨E, e2, h⟩ := om_el h
    intro H locs ls hP hS hl
    exact hTs pc E σ (lk_mem e2) h H locs ls hP hS hl.1.1
  all_goals exact False.elim h
theorem wpn_sound (hM : MOK M) (hX : Cx X M Rt Th) {stops : List Nat} {K : Nat → List (Option AV) → List AV → Mem → Prop} (hK : ∀ pc L S σ, K pc L S σ → Go X M pc L S σ) :
    ∀ (n pc : Nat) (L : List (Option AV)) (S : List AV) (σ : Mem), wpn M stops n pc L S σ K Rt Th → Go X M pc L S σ
  | 0, pc, L, S, σ, h => hK _ _ _ _ h
  | n + 1, pc, L, S, σ, h => by
    obtain ⟨q, e, h⟩ := om_el h
    refine stp_sound hM hX e (K := fun pc' L' S' σ' => cond (nin pc' stops) (K pc' L' S' σ') (wpn M stops n pc' L' S' σ' K Rt Th)) (fun pc' L' S' σ' h' => ?_) h
    cases e4 : nin pc' stops with
    | true => rw [e4] at h'; exact hK _ _ _ _ h'
    | false => rw [e4] at h'; exact wpn_sound hM hX hK n pc' L' S' σ' h'
/-- THE WALK: some steps of the table, with all that may end them kept closed -/
theorem Go_run (hM : MOK M) (hX : Cx X M Rt Th) (stops : List Nat) (n : Nat) {pc : Nat} {L : List (Option AV)} {S : List AV} {σ : Mem}
    (h : ∀ (K : Nat → List (Option AV) → List AV → Mem → Prop) (R1 : Option AV → Mem → Prop) (T1 : Nat → String → Mem → Prop), (∀ pc L S σ, Go X M pc L S σ → K pc L S σ) → (∀ r σ, Rt r σ → R1 r σ) → (∀ pc E σ, Th pc E σ → T1 pc E σ) → wpn M stops n pc L S σ K R1 T1) : Go X M pc L S σ :=
  wpn_sound hM hX (fun _ _ _ _ h => h) n pc L S σ (h (Go X M) Rt Th (fun _ _ _ _ h => h) (fun _ _ h => h) (fun _ _ _ h => h))
end SND
