/-! contracts of the small machine: one outcome for each start -/
def rmm (d k : Nat) : Room := { frames := 8 + d, cells := k, slots := 6 * k, locals := 100 + 30 * d }
def on (oc : OC) : Nat := match oc with | .inl _ => 0 | .inr _ => 1
def PcG (g : GT) (as : List AV) (σ : Mem) : Array Value → State → Prop := va_Pc (as.map (cv g)) (fun U => g.1 ≤ U.heap.size ∧ va_P g.2.1 classes (mw g σ) U.heap ∧ KG g U)
def OQ (g : GT) (oc : OC) : Array Value → State → Outcome → State → Prop := fun _ s o t => match oc with
  | .inl q => o = .returned (q.1.map (cv g)) ∧ va_P g.2.1 classes (mw g q.2) t.heap ∧ va_F (gA g) s t
  | .inr _ => False
def OX (g : GT) (oc : OC) : String → State → State → Prop := fun E s t => match oc with
  | .inl _ => False
  | .inr q => E = q.1 ∧ va_P g.2.1 classes (mw g q.2) t.heap ∧ va_F (gA g) s t
def wsG (y : MethodName) (M : MI) : List Jvm.Cond := .code y (m_cc M) (m_nL M) (m_ret M) :: gtbl
def MetO (y : MethodName) (M : MI) (as : List AV) (σ : Mem) (oc : OC) : Prop := ∀ (l : Launch) (g : GT), l.stackTraces = false →
  vx_Met l y (wsG y M) (rmm (m_d M) (on oc)) (PcG g as σ) (OQ g oc) (OX g oc) (on oc) (6 * on oc) (gA g)
theorem good_in {ws : List Jvm.Cond} (h : ∀ w ∈ ws, w ∈ gtbl) : GoodIn gtbl ws := fun w hw => ⟨h w hw, good_of_word (List.mem_filter.mp (h w hw)).2⟩
theorem PcG.blind {g : GT} {as : List AV} {σ : Mem} : FrameBlind (PcG g as σ) := fun a U f mk h => ⟨h.1, h.2.1, h.2.2.1, KG.blind f mk a h.2.2.2⟩
section CALL
variable {M M' : MI} {y : MethodName} {ix o : Nat} {as : List AV} {σ : Mem} {oc : OC}
theorem map_out (g : GT) (v : Option AV) (rest : List AV) : (v.toList ++ rest).map (cv g) = (v.map (cv g)).toList ++ rest.map (cv g) := by cases v <;> rfl
/-- what is common to both kinds of calls: from the run of a contract to the caller's next state -/
theorem go_run {X : CT} {Rt : Option AV → Mem → Prop} {Th : Nat → String → Mem → Prop} (hX : Cx X M Rt Th) {pc : Nat} {L : List (Option AV)} {rest : List AV} {st0 : List Value} {a : Array Value} {H : Heap} {locs : List Loc} {ls : Array Slot} (hS : wS X H locs) (hl : LH (xg X) ls (m_nL M) L)
    (hpost : match oc with | .inl q => Go X M (pc + 3) L (q.1.toList ++ rest) q.2 | .inr q => Th pc q.1 q.2)
    (run : vx_Run (xp X) (xl X) (xe X) (xR X) (xs X) (xm X) (xa X) (xb X) (xme X) (xc X) H locs (xk X) (xn X) (on oc) (6 * on oc) (F0 (xm X) pc ls st0) (rest.map (cv (xg X))) (OQ (xg X) oc a) (OX (xg X) oc) (gA (xg X))) : XW X H locs (F0 (xm X) pc ls st0) := by
  intro T hT X1
  match oc, hpost, run with
  | .inl z, hpost, run =>
    rcases run T hT X1 with ⟨v, st₀, t, T', L1, h0, X2, hL, e1, e2, ⟨hv, hP, hF⟩, stp⟩ | ⟨q, st₀, t, T', L1, E, ce, h0, X2, hL, e1, e2, hx, -⟩
    · obtain ⟨k1, k2, k3⟩ := vx_keep h0 e1 hS (fun q _ h => h) (fun q h => h) hL hF
      obtain ⟨t2, a1, b1⟩ := hpost T'.heap (locs ++ L1) ls (by rw [e1]; exact hP) k3 hl T' rfl X2
      refine ⟨t2, stp t2 ?_, b1⟩
      rw [map_out] at a1
      cases hv
      exact a1
    · exact hx.elim
  | .inr z, hpost, run =>
    rcases run T hT X1 with ⟨v, st₀, t, T', L1, h0, X2, hL, e1, e2, hf, -⟩ | ⟨q, st₀, t, T', L1, E, ce, h0, X2, hL, e1, e2, ⟨rfl, hP, hF⟩, hce, hcv, hcl, stp⟩
    · exact hf.elim
    · obtain ⟨k1, k2, k3⟩ := vx_keep h0 e1 hS (fun q _ h => h) (fun q h => h) hL hF
      obtain ⟨t2, a1, b1⟩ := (hX.2.2.2.1 pc z.1 z.2 hpost).2 T'.heap (locs ++ L1) ls (rest.map (cv (xg X))) q ce (by rw [e1]; exact hP) k3 hl.1 (by rw [e1]; exact hce) hcv hcl T' rfl X2
      exact ⟨t2, stp.trans a1, b1⟩
theorem room_of {X : CT} {Rt : Option AV → Mem → Prop} {Th : Nat → String → Mem → Prop} (hX : Cx X M Rt Th) {pc : Nat} {L : List (Option AV)} {rest : List AV} (hpost : match oc with | .inl q => Go X M (pc + 3) L (q.1.toList ++ rest) q.2 | .inr q => Th pc q.1 q.2) :
    xk X + on oc ≤ (xR X).cells ∧ xn X + 6 * on oc ≤ (xR X).slots := by
  match oc, hpost with
  | .inl z, _ => exact ⟨hX.2.1.2.2.1, hX.2.1.2.2.2⟩
  | .inr z, hpost => exact (hX.2.2.2.1 pc z.1 z.2 hpost).1
theorem pre_of {X : CT} {Rt : Option AV → Mem → Prop} {Th : Nat → String → Mem → Prop} (hX : Cx X M Rt Th) {H : Heap} {locs : List Loc} (hP : wo X σ H) (hS : wS X H locs) (bs : List AV) (U : State) (hU : U.heap = H) (hW : (xs X).WarmedH U.vm) : PcG (xg X) bs σ (bs.map (cv (xg X))).toArray U := by
  obtain ⟨⟨hx, hb, hml, hown, hts, hKG, hbase⟩, -⟩ := hX
  refine ⟨rfl, Nat.le_trans hbase (by rw [hU]; exact hS.1), by rw [hU]; exact hP, KG.go hKG hW (fun q h1 h2 => by rw [hU]; exact hS.2.1 q h1 h2)⟩
theorem gcallV (hmet : MetO y M' (.inr (.inl o) :: as) σ oc) {ci : Nat} (hci : ci < 3) (ho : o = ob ci) (hy : y.cls = cR ci) (hd : m_d M' + 1 ≤ m_d M) (hn : m_nL M' ≤ 11)
    (hdesc : y.cls ≠ "java/lang/invoke/MethodHandle" ∧ y.cls ≠ "java/lang/invoke/VarHandle" ∧ (parseMethodDescriptor y.desc).map (fun d => d.parameters.length) = some as.length)
    (h1 : Jvm.Cond.methodLink (m_own M) ix y ∈ gtbl) (h2 : Jvm.Cond.instanceMethod y ∈ gtbl) (h3 : Jvm.Cond.selects y.cls y y ∈ gtbl) (h4 : Jvm.Cond.initialized y.cls ∈ gtbl) (h5 : Jvm.Cond.code y (m_cc M') (m_nL M') (m_ret M') ∈ gtbl) : CallGo M ix o as σ oc := by
  intro X Rt Th hX pc L rest hr hpost
  refine ⟨fun _ hdg H locs ls hP hS hl => ?_, fun h9 => absurd h9 (by rw [ho]; match ci, hci with | 0, _ | 1, _ | 2, _ => decide)⟩
  obtain ⟨⟨hx, hb, hml, hown, hts, hKG, hbase⟩, ⟨hr1, hr2, -, -⟩, hRt, hTh, hTs, htr⟩ := id hX
  have hG : GoodIn gtbl (wsV (m_own M) ix y.cls y (wsG y M')) := good_in (by
    intro w hw
    rcases List.mem_append.mp hw with h | h
    · simp only [List.mem_cons, List.mem_nil_iff, or_false] at h
      rcases h with rfl | rfl | rfl | rfl
      · exact h1
      · exact h2
      · exact h3
      · exact h4
    · rcases List.mem_cons.mp h with rfl | h
      · exact h5
      · exact h)
  have es : (as.reverse ++ .inr (.inl o) :: rest).map (cv (xg X)) = (as.map (cv (xg X))).reverse ++ Value.ref (gad (xg X) o) :: rest.map (cv (xg X)) := by
    rw [List.map_append, List.map_reverse]; rfl
  have hrec := va_recv hKG.1 hP (ci := ci) (q0 := ob ci) (a := gad (xg X) o) (mw_ob (xg X) σ hci).2 (by rw [ho]; exact (mw_ob (xg X) σ hci).1)
  rw [es]
  exact go_run (a := (Value.ref (gad (xg X) o) :: as.map (cv (xg X))).toArray) hX hS hl hpost (vx_runV (As := as.map (cv (xg X))) (rest := rest.map (cv (xg X))) (C := y.cls) ⟨hx, hb, hml, hown, hts⟩ (hmet (xl X) (xg X) htr)
    (cwV as.length hts hG rfl rfl rfl ⟨rfl, hdesc.1, hdesc.2.1, hdesc.2.2⟩ ⟨by show 8 + m_d M' + 1 ≤ _; omega, by show 8 + (m_nL M' + 11) + (100 + 30 * m_d M') ≤ _; omega⟩)
    ⟨PcG.blind, by rw [hy]; exact hrec, fun U hU hW => pre_of hX hP hS (.inr (.inl o) :: as) U hU hW⟩ rfl (by rw [List.length_map]) hl.1.1 rfl (lv_room (Nat.le_trans (catsum (xg X) rest) (by omega))) hdg (room_of hX hpost))
theorem gcallS (hmet : MetO y M' as σ oc) (hy : y.cls = m_own M) (hd : m_d M' + 1 ≤ m_d M) (hn : m_nL M' ≤ 11)
    (hdesc : y.cls ≠ "java/lang/invoke/MethodHandle" ∧ y.cls ≠ "java/lang/invoke/VarHandle" ∧ (parseMethodDescriptor y.desc).map (fun d => d.parameters.length) = some as.length)
    (h1 : Jvm.Cond.methodLink (m_own M) ix y ∈ gtbl) (h2 : Jvm.Cond.static y ∈ gtbl) (h4 : Jvm.Cond.initialized y.cls ∈ gtbl) (h5 : Jvm.Cond.code y (m_cc M') (m_nL M') (m_ret M') ∈ gtbl) : CallGo M ix 99 as σ oc := by
  intro X Rt Th hX pc L rest hr hpost
  refine ⟨fun h9 => absurd h9 (by decide), fun _ hdg H locs ls hP hS hl => ?_⟩
  obtain ⟨⟨hx, hb, hml, hown, hts, hKG, hbase⟩, ⟨hr1, hr2, -, -⟩, hRt, hTh, hTs, htr⟩ := id hX
  have hG : GoodIn gtbl (wsS (m_own M) ix y (wsG y M')) := good_in (by
    intro w hw
    rcases List.mem_append.mp hw with h | h
    · simp only [List.mem_cons, List.mem_nil_iff, or_false] at h
      rcases h with rfl | rfl | rfl
      · exact h1
      · exact h2
      · rw [← hy]; exact h4
    · rcases List.mem_cons.mp h with rfl | h
      · exact h5
      · exact h)
  have es : (as.reverse ++ rest).map (cv (xg X)) = (as.map (cv (xg X))).reverse ++ rest.map (cv (xg X)) := by
    rw [List.map_append, List.map_reverse]
  rw [es]
  exact go_run (a := (as.map (cv (xg X))).toArray) hX hS hl hpost (vx_runS (As := as.map (cv (xg X))) (rest := rest.map (cv (xg X))) ⟨hx, hb, hml, hown, hts⟩ (hmet (xl X) (xg X) htr)
    (cwS as.length hts hG rfl rfl rfl ⟨hy, hdesc.1, hdesc.2.1, hdesc.2.2⟩ ⟨by show 8 + m_d M' + 1 ≤ _; omega, by show 8 + (m_nL M' + 11) + (100 + 30 * m_d M') ≤ _; omega⟩)
    ⟨PcG.blind, fun U hU hW => pre_of hX hP hS as U hU hW⟩ rfl (by rw [List.length_map]) hl.1.1 rfl (lv_room (Nat.le_trans (catsum (xg X) rest) (by omega))) hdg (room_of hX hpost))
/-- Math.max -/
theorem gcallMax {x z : Int32} (h1 : Jvm.Cond.methodLink (m_own M) ix Lib.Math.max.name ∈ gtbl) (h2 : Jvm.Cond.static Lib.Math.max.name ∈ gtbl) (h3 : Jvm.Cond.initialized "java/lang/Math" ∈ gtbl) (h4 : Jvm.Cond.code Lib.Math.max.name Lib.Math.max.code 2 (some .int) ∈ gtbl) :
    CallGo M ix 99 [.inl x, .inl z] σ (.inl (some (.inl (if x < z then z else x)), σ)) := by
  intro X Rt Th hX pc L rest hr hpost
  refine ⟨fun h9 => absurd h9 (by decide), fun _ hdg H locs ls hP hS hl => ?_⟩
  obtain ⟨⟨hx, hb, hml, hown, hts, hKG, hbase⟩, ⟨hr1, hr2, hr3, hr4⟩, hRt, hTh, hTs, htr⟩ := id hX
  have hc := catsum (xg X) rest
  exact va_mmax hx hb (hml.trans hl.1.1.symm) hown (hts _ h1) (hts _ h2) (hts _ h3) (hts _ h4) (by omega) (Nat.le_trans (Nat.add_le_add_right hc 13) (by omega)) hr3 hr4 hdg (hpost H locs ls hP hS hl)
end CALL
/-! a method's body -/
def names2 : List String := ["java/lang/RuntimeException", "java/lang/Exception"]
def ThrW (own : String) (ik ic : Nat) (E : String) : Prop := Jvm.Cond.classLink own ik E ∈ gtbl ∧ Jvm.Cond.initialized E ∈ gtbl ∧ (∀ w ∈ vx_atS own ic E names2, w ∈ gtbl ∨ w ∈ dtbl) ∧ Bundle.fit E = true
/-- .. and the class whose constructor links its superclass's elsewhere -/
def rxN : ByteArray := prog_15_method_4_code
theorem rxN_0 : decode rxN 0 = .ok (.aload_n 0, 1) := by decide +kernel
theorem rxN_1 : decode rxN 1 = .ok (.aload_n 1, 1) := by decide +kernel
theorem rxN_2 : decode rxN 2 = .ok (.invokespecial 13, 3) := by decide +kernel
theorem rxN_5 : decode rxN 5 = .ok (.return_, 1) := by decide +kernel
def atN (own : String) (ic : Nat) (E : String) : List Jvm.Cond := nx_at own ic E 13 rxN "java/lang/RuntimeException" ["java/lang/Exception"]
def ThrN (own : String) (ik ic : Nat) (E : String) : Prop := Jvm.Cond.classLink own ik E ∈ gtbl ∧ Jvm.Cond.initialized E ∈ gtbl ∧ (∀ w ∈ atN own ic E, w ∈ gtbl ∨ w ∈ dtbl) ∧ Bundle.fit E = true
def SiteF (M : MI) (q : Nat × String) : Prop := ∃ (ik is ic : Nat) (text : String), (decode (m_cc M) q.1 = .ok (.new ik, 3) ∧ decode (m_cc M) (q.1 + 3) = .ok (.dup, 1) ∧ decode (m_cc M) (q.1 + 4) = .ok (.ldc is, 2) ∧ decode (m_cc M) (q.1 + 6) = .ok (.invokespecial ic, 3) ∧ decode (m_cc M) (q.1 + 9) = .ok (.athrow, 1)) ∧
  (m_own M, is, text) ∈ strs ∧ (ThrW (m_own M) ik ic q.2 ∨ ThrN (m_own M) ik ic q.2)
def RtO (oc : OC) : Option AV → Mem → Prop := fun r σ => oc = .inl (r, σ)
def ThO (oc : OC) : Nat → String → Mem → Prop := fun _ E σ => oc = .inr (E, σ)
abbrev CxO (X : CT) (M : MI) (oc : OC) : Prop := Cx X M (RtO oc) (ThO oc)
theorem vx_ot_g {w : Jvm.Cond} (h : w ∈ gtbl) : vx_ot w = true := by
  unfold vx_ot
  rw [(List.mem_filter.mp h).2, Bool.or_true]
theorem vx_ot_d {w : Jvm.Cond} (h : w ∈ dtbl) : vx_ot w = true := by
  unfold vx_ot
  rw [nw_tab (List.mem_filter.mp h).2, Bool.true_or]
theorem args_in (g : GT) : ∀ (as : List AV) (k j n : Nat) (v : AV), (∀ v ∈ as, noL v) → lg (as.map some ++ List.replicate n none) j = some v → (k + j, cv g v) ∈ lv_args k (as.map (cv g)) ∧ noL v
  | [], k, j, n, v, _, h => by
    exfalso
    have hr : ∀ (n j : Nat), lg (List.replicate n (none : Option AV)) j = none := by
      intro n
      induction n with
      | zero => intro j; rfl
      | succ n ih =>
        intro j
        cases j with
        | zero => rfl
        | succ j => exact ih j
    rw [show ([] : List AV).map some ++ List.replicate n none = List.replicate n none from rfl, hr] at h
    cases h
  | w :: as, k, 0, n, v, hn, h => by
    cases h
    exact ⟨List.mem_cons_self, hn _ List.mem_cons_self⟩
  | w :: as, k, j + 1, n, v, hn, h => by
    have h1 := args_in g as (k + 1) j n v (fun v hv => hn v (List.mem_cons_of_mem _ hv)) h
    have hc := cat1 (g := g) (hn w List.mem_cons_self)
    refine ⟨?_, h1.2⟩
    show (k + (j + 1), cv g v) ∈ (k, cv g w) :: lv_args (if (cv g w).category = 2 then k + 2 else k + 1) (as.map (cv g))
    rw [if_neg (by omega), show k + (j + 1) = k + 1 + j by omega]
    exact List.mem_cons_of_mem _ h1.1
theorem sl_len (g : GT) : ∀ (as : List AV), (∀ v ∈ as, noL v) → (lg_sl (as.map (cv g))).length = as.length
  | [], _ => rfl
  | w :: as, hn => by
    have h1 := sl_len g as (fun v hv => hn v (List.mem_cons_of_mem _ hv))
    have hc := cat1 (g := g) (hn w List.mem_cons_self)
    unfold lg_sl at h1 ⊢
    rw [List.map_cons, List.flatMap_cons, List.length_append, h1, if_neg (by omega)]
    show 1 + as.length = as.length + 1
    omega
theorem met_of {y : MethodName} {M : MI} {as : List AV} {σ : Mem} {oc : OC} (hy : y.cls = m_own M ∧ plainName y.cls = true) (hs : ∀ q ∈ m_tr M, SiteF M q) (hlen : as.length ≤ m_nL M) (hno : ∀ v ∈ as, noL v)
    (h : ∀ X, CxO X M oc → Go X M 0 (as.map some ++ List.replicate (m_nL M - as.length) none) [] σ) : MetO y M as σ oc := by
  intro l g htr
  refine vx_ofW (cc := m_cc M) (maxL := m_nL M) (ret := m_ret M) hy.2 rfl ?_
  intro p e s m args below meth c s₁ B hml hexc hPc
  obtain ⟨rfl, hbase, hP, hKG⟩ := hPc
  have hts0 := atoms_spec (ws := wsG y M) B.pre
  have hts : ∀ w ∈ gtbl, w.before (as.map (cv g)).toArray s = true := fun w hw => hts0 w (List.mem_cons_of_mem _ hw)
  have hown : s.vm.findClass (m_own M) = some m.cls := hy.1 ▸ findClass_of_methodNamed B.named
  have hlocks := B.notSynchronized
  have hr := B.returns
  have hout : ∀ (pc : Nat), ∀ x ∈ c.exceptionTable.toList, covers x pc = false := fun pc x hx => (hexc x hx).elim
  let X : CT := (p, l, e, rmm (m_d M) (on oc), s, m, (as.map (cv g)).toArray, below, meth, c, g, vx_MQ below (OQ g oc) (OX g oc) (as.map (cv g)).toArray s (on oc) (6 * on oc) (gA g), 0, 0)
  have hX : CxO X M oc := by
    refine ⟨⟨B.exec, B.bytes, hml, hown, hts, hKG, hbase⟩, ⟨Nat.le_refl _, Nat.le_refl _, Nat.zero_le _, Nat.zero_le _⟩, ?_, ?_, ?_, htr⟩
    · intro r σ' pc H locs ls he hP1 hS1 hd
      have he : oc = .inl (r, σ') := he
      subst he
      cases r with
      | none =>
        obtain ⟨h1, h2⟩ := hd
        exact vx_ret (W.vret B.exec B.bytes (hr.trans h1) (fun t ht hW => ⟨rfl, by rw [ht]; exact hP1, hS1.F ht⟩) hS1.2.2 h2 hlocks)
      | some v =>
        obtain ⟨x, ty, rfl, h1, h2, h3⟩ := hd
        exact vx_ret (W.zret B.exec B.bytes (hr.trans h1) h2 (fun t ht hW => ⟨rfl, by rw [ht]; exact hP1, hS1.F ht⟩) hS1.2.2 h3 hlocks)
    · intro pc E σ' he
      have he : oc = .inr (E, σ') := he
      subst he
      refine ⟨⟨Nat.le_refl _, Nat.le_refl _⟩, fun H locs ls rest q ce hP1 hS1 hl hce hcv hcl => ?_⟩
      exact vx_out (hout pc) hlocks hce hcv hcl (fun t ht hA => ⟨rfl, by rw [ht]; exact hP1, hS1.F ht⟩) hS1.2.2 (Nat.le_refl _) (Nat.le_refl _)
    · intro pc E σ' hin he H locs ls hP1 hS1 hsz
      have he : oc = .inr (E, σ') := he
      subst he
      obtain ⟨ik, is, ic, text, ⟨d0, d3, d4, d6, d9⟩, hstr, hcc⟩ := hs _ hin
      obtain ⟨sa, hsa⟩ := hKG.2.2.1 _ hstr
      have hF : ∀ t : State, H.size ≤ t.heap.size → (∀ q : Nat, q < H.size → t.heap[q]? = H[q]?) → va_F (gA g) s t := by
        intro t hz hk
        refine ⟨Nat.le_trans hS1.1 hz, fun q h1 h2 => ?_⟩
        rw [hk q (Nat.lt_of_lt_of_le h1 hS1.1)]
        exact hS1.2.1 q h1 h2
      rcases hcc with ⟨hc1, hc2, hc3, hfit⟩ | ⟨hc1, hc2, hc3, hfit⟩
      · refine vx_throwS (names := names2) B.exec B.bytes htr hown hfit (by decide +kernel) (hts _ hc1) (hts _ hc2) hsa (fun w hw => ?_) (fun w hw => ?_) hKG.2.2.2.2.1 hKG.2.2.2.2.2.1 hS1 (hsz.trans hml.symm) d0 d3 d4 d6 d9 (hout _)
          (by show 2 + 3 < 8 + m_d M; omega) (by show 0 + (13 * (2 + 1) + 43) ≤ 100 + 30 * m_d M; omega) (Nat.le_refl _) (Nat.le_refl _) hlocks (fun t hA hz hk => ⟨rfl, hP1.kept (fun k q hq => hk q.1 (vx_lt hP1 hq)), hF t hz hk⟩) hS1.2.2 (Nat.le_refl _) (Nat.le_refl _)
        · rcases hc3 w hw with h1 | h1
          · exact hts w h1
          · exact va_Nw.use (nw_tab (List.mem_filter.mp h1).2) (hKG.2.1 w h1)
        · rcases List.mem_cons.mp hw with rfl | hw
          · exact vx_ot_g hc1
          · rcases List.mem_cons.mp hw with rfl | hw
            · exact vx_ot_g hc2
            · rcases hc3 w hw with h1 | h1
              · exact vx_ot_g h1
              · exact vx_ot_d h1
      · refine nx_throw (rx := rxN) (ix := 13) (Y0 := "java/lang/RuntimeException") (names := ["java/lang/Exception"]) B.exec B.bytes htr rxN_0 rxN_1 rxN_2 rxN_5 hown hfit (by decide +kernel) (by decide +kernel) (hts _ hc1) (hts _ hc2) hsa (fun w hw => ?_) (fun w hw => ?_) hKG.2.2.2.2.1 hKG.2.2.2.2.2.1 hS1 (hsz.trans hml.symm) d0 d3 d4 d6 d9 (hout _)
          (by show 1 + 4 < 8 + m_d M; omega) (by show 0 + (13 * (1 + 2) + 43) ≤ 100 + 30 * m_d M; omega) (Nat.le_refl _) (Nat.le_refl _) hlocks (fun t hA hz hk => ⟨rfl, hP1.kept (fun k q hq => hk q.1 (vx_lt hP1 hq)), hF t hz hk⟩) hS1.2.2 (Nat.le_refl _) (Nat.le_refl _)
        · rcases hc3 w hw with h1 | h1
          · exact hts w h1
          · exact va_Nw.use (nw_tab (List.mem_filter.mp h1).2) (hKG.2.1 w h1)
        · rcases List.mem_cons.mp hw with rfl | hw
          · exact vx_ot_g hc1
          · rcases List.mem_cons.mp hw with rfl | hw
            · exact vx_ot_g hc2
            · rcases hc3 w hw with h1 | h1
              · exact vx_ot_g h1
              · exact vx_ot_d h1
  have hG := h X hX
  have hl := lv_entry (as.map (cv g)) (n := m_nL M) (by rw [sl_len g as hno]; exact hlen)
  have h9 := hG s.heap [] _ hP va_S.rf ⟨⟨hl.1, hl.2.1, fun q hq => by cases hq⟩, fun i v hv => by
    have h1 := args_in g as 0 i _ v hno hv
    rw [Nat.zero_add] at h1
    exact ⟨hl.2.2 _ h1.1, h1.2⟩⟩
  rw [lg_entry_eq]
  exact h9
/-- words by their places -/
theorem gw {w : Jvm.Cond} (i : Nat) (h : lw_tbl[i]? = some w) (hg : goodWord w = true) : w ∈ gtbl := List.mem_filter.mpr ⟨List.mem_of_getElem? h, hg⟩
/-- what a callee's words are: a method of an object, a static one -/
def CV (y : MethodName) (M' : MI) : Prop := Jvm.Cond.instanceMethod y ∈ gtbl ∧ Jvm.Cond.selects y.cls y y ∈ gtbl ∧ Jvm.Cond.initialized y.cls ∈ gtbl ∧ Jvm.Cond.code y (m_cc M') (m_nL M') (m_ret M') ∈ gtbl
def CS (y : MethodName) (M' : MI) : Prop := Jvm.Cond.static y ∈ gtbl ∧ Jvm.Cond.initialized y.cls ∈ gtbl ∧ Jvm.Cond.code y (m_cc M') (m_nL M') (m_ret M') ∈ gtbl
def Snd (y : MethodName) (M' : MI) (o n : Nat) (f : CTy) : Prop := ∀ (as : List AV) (σ : Mem) (KN : Option AV → Mem → Prop) (KX : String → Mem → Prop), as.length = n → f as σ KN KX →
  ∃ oc : OC, (match oc with | .inl z => KN z.1 z.2 | .inr z => KX z.1 z.2) ∧ MetO y M' (.inr (.inl o) :: as) σ oc
def SndS (y : MethodName) (M' : MI) (n : Nat) (f : CTy) : Prop := ∀ (as : List AV) (σ : Mem) (KN : Option AV → Mem → Prop) (KX : String → Mem → Prop), as.length = n → f as σ KN KX →
  ∃ oc : OC, (match oc with | .inl z => KN z.1 z.2 | .inr z => KX z.1 z.2) ∧ MetO y M' as σ oc
theorem okV {M M' : MI} {y : MethodName} {ix n : Nat} {f : CTy} (ci : Nat) (hci : ci < 3) (hs : Snd y M' (ob ci) n f) (hy : y.cls = cR ci) (hd : m_d M' + 1 ≤ m_d M) (hn : m_nL M' ≤ 11)
    (hdesc : y.cls ≠ "java/lang/invoke/MethodHandle" ∧ y.cls ≠ "java/lang/invoke/VarHandle" ∧ (parseMethodDescriptor y.desc).map (fun d => d.parameters.length) = some n) (h1 : Jvm.Cond.methodLink (m_own M) ix y ∈ gtbl) (h2 : CV y M') : CallOK M (ix, (ob ci, n, f)) := by
  intro as σ KN KX hl hf
  obtain ⟨oc, h3, h4⟩ := hs as σ KN KX hl hf
  have hl : as.length = n := hl
  subst hl
  exact ⟨oc, h3, gcallV h4 hci rfl hy hd hn hdesc h1 h2.1 h2.2.1 h2.2.2.1 h2.2.2.2⟩
theorem okS {M M' : MI} {y : MethodName} {ix n : Nat} {f : CTy} (hs : SndS y M' n f) (hy : y.cls = m_own M) (hd : m_d M' + 1 ≤ m_d M) (hn : m_nL M' ≤ 11)
    (hdesc : y.cls ≠ "java/lang/invoke/MethodHandle" ∧ y.cls ≠ "java/lang/invoke/VarHandle" ∧ (parseMethodDescriptor y.desc).map (fun d => d.parameters.length) = some n) (h1 : Jvm.Cond.methodLink (m_own M) ix y ∈ gtbl) (h2 : CS y M') : CallOK M (ix, (99, n, f)) := by
  intro as σ KN KX hl hf
  obtain ⟨oc, h3, h4⟩ := hs as σ KN KX hl hf
  have hl : as.length = n := hl
  subst hl
  exact ⟨oc, h3, gcallS h4 hy hd hn hdesc h1 h2.1 h2.2.1 h2.2.2⟩
def ct_max : CTy := fun as σ KN _ => match as with
  | [.inl x, .inl z] => KN (some (.inl (if x < z then z else x))) σ
  | _ => False
theorem okMax {M : MI} {ix : Nat} (h1 : Jvm.Cond.methodLink (m_own M) ix Lib.Math.max.name ∈ gtbl) (h2 : Jvm.Cond.static Lib.Math.max.name ∈ gtbl) (h3 : Jvm.Cond.initialized "java/lang/Math" ∈ gtbl) (h4 : Jvm.Cond.code Lib.Math.max.name Lib.Math.max.code 2 (some .int) ∈ gtbl) : CallOK M (ix, (99, 2, ct_max)) := by
  intro as σ KN KX hl hf
  match as, hf with
  | [.inl x, .inl z], hf => exact ⟨.inl (some (.inl (if x < z then z else x)), σ), hf, gcallMax h1 h2 h3 h4⟩
