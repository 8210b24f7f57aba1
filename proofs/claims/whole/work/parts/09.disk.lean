def noLs : List AV → Prop
  | [] => True
  | v :: l => noL v ∧ noLs l
theorem nls : ∀ {as : List AV}, noLs as → ∀ v ∈ as, noL v
  | [], _, v, h => absurd h List.not_mem_nil
  | w :: l, h, v, hv => (List.mem_cons.mp hv).elim (fun e => e ▸ h.1) (nls h.2 v)
/-- a method's contract from its walk -/
theorem met_go {y : MethodName} {M : MI} {as : List AV} {σ : Mem} {oc : OC} (hM : MOK M) (hy : y.cls = m_own M ∧ plainName y.cls = true) (hs : ∀ q ∈ m_tr M, SiteF M q) (hlen : as.length ≤ m_nL M) (hno : noLs as) (stops : List Nat) (n : Nat)
    (h : ∀ (X : CT), CxO X M oc → ∀ (K : Nat → List (Option AV) → List AV → Mem → Prop) (R1 : Option AV → Mem → Prop) (T1 : Nat → String → Mem → Prop), (∀ pc L S σ, Go X M pc L S σ → K pc L S σ) → (∀ r σ, oc = .inl (r, σ) → R1 r σ) → (∀ pc E σ, oc = .inr (E, σ) → T1 pc E σ) →
      wpn M stops n 0 (as.map some ++ List.replicate (m_nL M - as.length) none) [] σ K R1 T1) : MetO y M as σ oc :=
  met_of hy hs hlen (nls hno) fun X hX => Go_run hM hX stops n fun K R1 T1 hK hR hT => h X hX K R1 T1 hK (fun r σ e => hR r σ e) (fun pc E σ e => hT pc E σ e)
def bl (x : Int32) : Prop := x = 0 ∨ x = 1
theorem bl_and {x : Int32} (h : bl x) : x &&& 1 = x := by rcases h with rfl | rfl <;> rfl
/-! ===== the disk ===== -/
def mi_D_word : MI := (b_D_word, 2, "RootedWords$Disk", some .int, 0, tbl_of 7 f_D_word, fl_D, [], [])
theorem ok_D_word : MOK mi_D_word := ⟨tbl_ok k_D_word, flok_D rfl, (fun _ h => absurd h List.not_mem_nil)⟩
theorem si_D_word : ∀ q ∈ m_tr mi_D_word, SiteF mi_D_word q := (fun _ h => absurd h List.not_mem_nil)
theorem c_D_word (p : Int32) (σ : Mem) (hp : vp_in p 274) : MetO y_D_word mi_D_word [.inr (.inl 1), .inl p] σ (.inl (some (.inl (σ 2 p.toNatClampNeg)), σ)) := by
  refine met_go ok_D_word ⟨rfl, rfl⟩ si_D_word (Nat.le_of_ble_eq_true rfl) ⟨trivial, trivial, trivial⟩ [] 40 (fun X hX K R1 T1 hK hR hT => ?_)
  conv => whnf
  refine ⟨hp, ?_⟩
  conv => whnf
  exact hR _ _ rfl
def ct_D_word : CTy := fun as σ KN _ => match as with
  | [.inl p] => vp_in p 274 ∧ KN (some (.inl (σ 2 p.toNatClampNeg))) σ
  | _ => False
theorem s_D_word : Snd y_D_word mi_D_word 1 1 ct_D_word := by
  intro as σ KN KX _ hf
  match as, hf with
  | [.inl p], hf => exact ⟨.inl (_, _), hf.2, c_D_word p σ hf.1⟩
def mi_D_failAfter : MI := (b_D_failAfter, 2, "RootedWords$Disk", none, 0, tbl_of 6 f_D_failAfter, fl_D, [], [])
theorem ok_D_failAfter : MOK mi_D_failAfter := ⟨tbl_ok k_D_failAfter, flok_D rfl, (fun _ h => absurd h List.not_mem_nil)⟩
theorem si_D_failAfter : ∀ q ∈ m_tr mi_D_failAfter, SiteF mi_D_failAfter q := (fun _ h => absurd h List.not_mem_nil)
theorem c_D_failAfter (n : Int32) (σ : Mem) : MetO y_D_failAfter mi_D_failAfter [.inr (.inl 1), .inl n] σ (.inl (none, st σ 1 3 n)) := by
  refine met_go ok_D_failAfter ⟨rfl, rfl⟩ si_D_failAfter (Nat.le_of_ble_eq_true rfl) ⟨trivial, trivial, trivial⟩ [] 40 (fun X hX K R1 T1 hK hR hT => ?_)
  conv => whnf
  exact hR _ _ rfl
def ct_D_failAfter : CTy := fun as σ KN _ => match as with
  | [.inl n] => KN none (st σ 1 3 n)
  | _ => False
theorem s_D_failAfter : Snd y_D_failAfter mi_D_failAfter 1 1 ct_D_failAfter := by
  intro as σ KN KX _ hf
  match as, hf with
  | [.inl n], hf => exact ⟨.inl (_, _), hf, c_D_failAfter n σ⟩
def mi_D_writeCount : MI := (b_D_writeCount, 1, "RootedWords$Disk", some .int, 0, tbl_of 5 f_D_writeCount, fl_D, [], [])
theorem ok_D_writeCount : MOK mi_D_writeCount := ⟨tbl_ok k_D_writeCount, flok_D rfl, (fun _ h => absurd h List.not_mem_nil)⟩
theorem si_D_writeCount : ∀ q ∈ m_tr mi_D_writeCount, SiteF mi_D_writeCount q := (fun _ h => absurd h List.not_mem_nil)
theorem c_D_writeCount (σ : Mem) : MetO y_D_writeCount mi_D_writeCount [.inr (.inl 1)] σ (.inl (some (.inl (σ 1 2)), σ)) := by
  refine met_go ok_D_writeCount ⟨rfl, rfl⟩ si_D_writeCount (Nat.le_of_ble_eq_true rfl) ⟨trivial, trivial⟩ [] 40 (fun X hX K R1 T1 hK hR hT => ?_)
  conv => whnf
  exact hR _ _ rfl
def ct_D_writeCount : CTy := fun as σ KN _ => match as with
  | [] => KN (some (.inl (σ 1 2))) σ
  | _ => False
theorem s_D_writeCount : Snd y_D_writeCount mi_D_writeCount 1 0 ct_D_writeCount := by
  intro as σ KN KX _ hf
  match as, hf with
  | [], hf => exact ⟨.inl (_, _), hf, c_D_writeCount σ⟩
def mi_D_isDown : MI := (b_D_isDown, 1, "RootedWords$Disk", some .boolean, 0, tbl_of 5 f_D_isDown, fl_D, [], [])
theorem ok_D_isDown : MOK mi_D_isDown := ⟨tbl_ok k_D_isDown, flok_D rfl, (fun _ h => absurd h List.not_mem_nil)⟩
theorem si_D_isDown : ∀ q ∈ m_tr mi_D_isDown, SiteF mi_D_isDown q := (fun _ h => absurd h List.not_mem_nil)
theorem c_D_isDown (σ : Mem) (h : bl (σ 1 4)) : MetO y_D_isDown mi_D_isDown [.inr (.inl 1)] σ (.inl (some (.inl (σ 1 4)), σ)) := by
  refine met_go ok_D_isDown ⟨rfl, rfl⟩ si_D_isDown (Nat.le_of_ble_eq_true rfl) ⟨trivial, trivial⟩ [] 40 (fun X hX K R1 T1 hK hR hT => ?_)
  conv => whnf
  exact ⟨bl_and h, hR _ _ rfl⟩
def ct_D_isDown : CTy := fun as σ KN _ => match as with
  | [] => bl (σ 1 4) ∧ KN (some (.inl (σ 1 4))) σ
  | _ => False
theorem s_D_isDown : Snd y_D_isDown mi_D_isDown 1 0 ct_D_isDown := by
  intro as σ KN KX _ hf
  match as, hf with
  | [], hf => exact ⟨.inl (_, _), hf.2, c_D_isDown σ hf.1⟩
def mi_D_goUp : MI := (b_D_goUp, 1, "RootedWords$Disk", none, 0, tbl_of 6 f_D_goUp, fl_D, [], [])
theorem ok_D_goUp : MOK mi_D_goUp := ⟨tbl_ok k_D_goUp, flok_D rfl, (fun _ h => absurd h List.not_mem_nil)⟩
theorem si_D_goUp : ∀ q ∈ m_tr mi_D_goUp, SiteF mi_D_goUp q := (fun _ h => absurd h List.not_mem_nil)
theorem c_D_goUp (σ : Mem) : MetO y_D_goUp mi_D_goUp [.inr (.inl 1)] σ (.inl (none, st σ 1 4 0)) := by
  refine met_go ok_D_goUp ⟨rfl, rfl⟩ si_D_goUp (Nat.le_of_ble_eq_true rfl) ⟨trivial, trivial⟩ [] 40 (fun X hX K R1 T1 hK hR hT => ?_)
  conv => whnf
  refine ⟨Or.inl rfl, ?_⟩
  conv => whnf
  exact hR _ _ rfl
def ct_D_goUp : CTy := fun as σ KN _ => match as with
  | [] => KN none (st σ 1 4 0)
  | _ => False
theorem s_D_goUp : Snd y_D_goUp mi_D_goUp 1 0 ct_D_goUp := by
  intro as σ KN KX _ hf
  match as, hf with
  | [], hf => exact ⟨.inl (_, _), hf, c_D_goUp σ⟩
def mi_D_isPending : MI := (b_D_isPending, 1, "RootedWords$Disk", some .boolean, 0, tbl_of 17 f_D_isPending, fl_D, [], [])
theorem ok_D_isPending : MOK mi_D_isPending := ⟨tbl_ok k_D_isPending, flok_D rfl, (fun _ h => absurd h List.not_mem_nil)⟩
theorem si_D_isPending : ∀ q ∈ m_tr mi_D_isPending, SiteF mi_D_isPending q := (fun _ h => absurd h List.not_mem_nil)
theorem c_D_isPending (σ : Mem) : MetO y_D_isPending mi_D_isPending [.inr (.inl 1)] σ (.inl (some (.inl (if σ 2 265 = 0 then 0 else 1)), σ)) := by
  refine met_go ok_D_isPending ⟨rfl, rfl⟩ si_D_isPending (Nat.le_of_ble_eq_true rfl) ⟨trivial, trivial⟩ [] 40 (fun X hX K R1 T1 hK hR hT => ?_)
  conv => whnf
  refine ⟨vp_in_nI (by decide) (by decide), ?_⟩
  conv => whnf
  refine ⟨fun h => ?_, fun h => ?_⟩
  · conv => whnf
    refine ⟨rfl, hR _ _ ?_⟩
    have h : σ 2 265 = 0 := h
    rw [if_pos h]; rfl
  · conv => whnf
    refine ⟨rfl, hR _ _ ?_⟩
    have h : ¬ σ 2 265 = 0 := h
    rw [if_neg h]; rfl
def ct_D_isPending : CTy := fun as σ KN _ => match as with
  | [] => KN (some (.inl (if σ 2 265 = 0 then 0 else 1))) σ
  | _ => False
theorem s_D_isPending : Snd y_D_isPending mi_D_isPending 1 0 ct_D_isPending := by
  intro as σ KN KX _ hf
  match as, hf with
  | [], hf => exact ⟨.inl (_, _), hf, c_D_isPending σ⟩
def mi_D_plan : MI := (b_D_plan, 4, "RootedWords$Disk", none, 0, tbl_of 21 f_D_plan, fl_D, [], [])
theorem ok_D_plan : MOK mi_D_plan := ⟨tbl_ok k_D_plan, flok_D rfl, (fun _ h => absurd h List.not_mem_nil)⟩
theorem si_D_plan : ∀ q ∈ m_tr mi_D_plan, SiteF mi_D_plan q := (fun _ h => absurd h List.not_mem_nil)
theorem c_D_plan (i : Nat) (p w : Int32) (σ : Mem) (hi : i < 4) : MetO y_D_plan mi_D_plan [.inr (.inl 1), .inl (nI i), .inl p, .inl w] σ (.inl (none, st (st σ 3 (2 * i) p) 3 (2 * i + 1) w)) := by
  have e1 : nI 2 * nI i = nI (2 * i) := pk_mul 2 i
  have e2 : nI 2 * nI i + nI 1 = nI (2 * i + 1) := by rw [e1, nI_add]
  refine met_go ok_D_plan ⟨rfl, rfl⟩ si_D_plan (Nat.le_of_ble_eq_true rfl) ⟨trivial, trivial, trivial, trivial, trivial⟩ [] 40 (fun X hX K R1 T1 hK hR hT => ?_)
  conv => whnf
  rw [e1]
  refine ⟨vp_in_nI (by omega) (by decide), ?_⟩
  rw [nI_clamp (by omega)]
  conv => whnf
  rw [e2]
  refine ⟨vp_in_nI (by omega) (by decide), ?_⟩
  rw [nI_clamp (by omega)]
  conv => whnf
  exact hR _ _ rfl
def ct_D_plan : CTy := fun as σ KN _ => ∃ (i : Nat) (p w : Int32), as = [.inl (nI i), .inl p, .inl w] ∧ i < 4 ∧ KN none (st (st σ 3 (2 * i) p) 3 (2 * i + 1) w)
theorem s_D_plan : Snd y_D_plan mi_D_plan 1 3 ct_D_plan := by
  intro as σ KN KX _ ⟨i, p, w, e, hi, hf⟩
  subst e
  exact ⟨.inl (_, _), hf, c_D_plan i p w σ hi⟩
/-! one write: the power fails, or the word is there and the count -/
def wrF (σ : Mem) : Mem := st (st σ 1 3 (-1)) 1 4 1
def wrD (σ : Mem) : Mem := if σ 1 3 ≤ 0 then σ else st σ 1 3 (σ 1 3 - 1)
def wrO (σ : Mem) (p : Nat) (w : Int32) : Mem := st (st (wrD σ) 2 p w) 1 2 (σ 1 2 + 1)
def mi_D_write : MI := (b_D_write, 3, "RootedWords$Disk", none, 0, tbl_of 62 f_D_write, fl_D, [], [(17, "java/lang/IllegalStateException")])
theorem ok_D_write : MOK mi_D_write := ⟨tbl_ok k_D_write, flok_D rfl, (fun _ h => absurd h List.not_mem_nil)⟩
theorem si_D_write : ∀ q ∈ m_tr mi_D_write, SiteF mi_D_write q := List.forall_mem_cons.mpr ⟨⟨36, 38, 40, "the power has failed", ⟨by decide +kernel, by decide +kernel, by decide +kernel, by decide +kernel, by decide +kernel⟩, by decide +kernel, Or.inl th_D_36⟩, (fun _ h => absurd h List.not_mem_nil)⟩
theorem c_D_writeF (p w : Int32) (σ : Mem) (h : σ 1 3 = 0) : MetO y_D_write mi_D_write [.inr (.inl 1), .inl p, .inl w] σ (.inr (eIS, wrF σ)) := by
  refine met_go ok_D_write ⟨rfl, rfl⟩ si_D_write (Nat.le_of_ble_eq_true rfl) ⟨trivial, trivial, trivial, trivial⟩ [] 60 (fun X hX K R1 T1 hK hR hT => ?_)
  conv => whnf
  refine ⟨fun h1 => absurd h h1, fun _ => ?_⟩
  conv => whnf
  refine ⟨Or.inr rfl, ?_⟩
  conv => whnf
  exact hT _ _ _ rfl
theorem c_D_writeO (p w : Int32) (σ : Mem) (hp : vp_in p 274) (h : ¬ σ 1 3 = 0) : MetO y_D_write mi_D_write [.inr (.inl 1), .inl p, .inl w] σ (.inl (none, wrO σ p.toNatClampNeg w)) := by
  refine met_go ok_D_write ⟨rfl, rfl⟩ si_D_write (Nat.le_of_ble_eq_true rfl) ⟨trivial, trivial, trivial, trivial⟩ [] 60 (fun X hX K R1 T1 hK hR hT => ?_)
  conv => whnf
  refine ⟨fun _ => ?_, fun h1 => absurd h1 h⟩
  conv => whnf
  refine ⟨fun h2 => ?_, fun h2 => ?_⟩
  · conv => whnf
    refine ⟨hp, ?_⟩
    conv => whnf
    refine hR _ _ ?_
    unfold wrO wrD
    rw [if_pos h2]; rfl
  · conv => whnf
    refine ⟨hp, ?_⟩
    conv => whnf
    refine hR _ _ ?_
    unfold wrO wrD
    rw [if_neg h2]; rfl
def ct_D_write : CTy := fun as σ KN KX => match as with
  | [.inl p, .inl w] => vp_in p 274 ∧ (σ 1 3 = 0 → KX eIS (wrF σ)) ∧ (¬ σ 1 3 = 0 → KN none (wrO σ p.toNatClampNeg w))
  | _ => False
theorem s_D_write : Snd y_D_write mi_D_write 1 2 ct_D_write := by
  intro as σ KN KX _ hf
  match as, hf with
  | [.inl p, .inl w], hf =>
    by_cases h : σ 1 3 = 0
    · exact ⟨.inr (_, _), hf.2.1 h, c_D_writeF p w σ h⟩
    · exact ⟨.inl (_, _), hf.2.2 h, c_D_writeO p w σ hf.1 h⟩
/-! many writes: what they leave, and whether the power failed -/
def wrs : Mem → List (Nat × Int32) → Mem × Bool
  | σ, [] => (σ, false)
  | σ, q :: l => if σ 1 3 = 0 then (wrF σ, true) else wrs (wrO σ q.1 q.2) l
def wou (σ : Mem) (l : List (Nat × Int32)) (r : Option AV) : OC := if (wrs σ l).2 = true then .inr (eIS, (wrs σ l).1) else .inl (r, (wrs σ l).1)
theorem wou_nil (σ : Mem) (r : Option AV) : wou σ [] r = .inl (r, σ) := rfl
theorem wou_fail {σ : Mem} (h : σ 1 3 = 0) (q : Nat × Int32) (l : List (Nat × Int32)) (r : Option AV) : wou σ (q :: l) r = .inr (eIS, wrF σ) := by
  unfold wou wrs
  rw [if_pos h]; rfl
theorem wou_step {σ : Mem} (h : ¬ σ 1 3 = 0) (p : Nat) (w : Int32) (l : List (Nat × Int32)) (r : Option AV) : wou σ ((p, w) :: l) r = wou (wrO σ p w) l r := by
  have e : wrs σ ((p, w) :: l) = wrs (wrO σ p w) l := by
    show (if σ 1 3 = 0 then (wrF σ, true) else wrs (wrO σ p w) l) = _
    rw [if_neg h]
  unfold wou
  rw [e]
theorem wrs_app : ∀ (l1 l2 : List (Nat × Int32)) (σ : Mem), wrs σ (l1 ++ l2) = if (wrs σ l1).2 = true then wrs σ l1 else wrs (wrs σ l1).1 l2
  | [], l2, σ => rfl
  | q :: l1, l2, σ => by
    show (if σ 1 3 = 0 then (wrF σ, true) else wrs (wrO σ q.1 q.2) (l1 ++ l2)) = (if (if σ 1 3 = 0 then (wrF σ, true) else wrs (wrO σ q.1 q.2) l1).2 = true then (if σ 1 3 = 0 then (wrF σ, true) else wrs (wrO σ q.1 q.2) l1) else wrs (if σ 1 3 = 0 then (wrF σ, true) else wrs (wrO σ q.1 q.2) l1).1 l2)
    by_cases h : σ 1 3 = 0
    · rw [if_pos h, if_pos h]; rfl
    · rw [if_neg h, if_neg h]; exact wrs_app l1 l2 _
/-- a write changes the disk's words, counts, and failure alone -/
theorem wrO_ne (σ : Mem) (p : Nat) (w : Int32) (a : Nat) (h1 : a ≠ 1) (h2 : a ≠ 2) : wrO σ p w a = σ a := by
  unfold wrO wrD
  rw [st_ne _ _ _ h1, st_ne _ _ _ h2]
  split
  · rfl
  · rw [st_ne _ _ _ h1]
theorem wrO_2 (σ : Mem) (p : Nat) (w : Int32) : wrO σ p w 2 = upd (σ 2) p w := by
  unfold wrO wrD
  rw [st_ne _ _ _ (by decide), st_self]
  split
  · rfl
  · rw [st_ne _ _ _ (by decide)]
theorem wrO_4 (σ : Mem) (p : Nat) (w : Int32) : wrO σ p w 1 4 = σ 1 4 := by
  unfold wrO wrD
  split <;> rfl
theorem wrF_ne (σ : Mem) (a : Nat) (h1 : a ≠ 1) : wrF σ a = σ a := by
  unfold wrF
  rw [st_ne _ _ _ h1, st_ne _ _ _ h1]
theorem upd_s (f : Nat → Int32) (k : Nat) (x : Int32) : upd f k x k = x := if_pos rfl
theorem upd_n (f : Nat → Int32) {k j : Nat} (x : Int32) (h : j ≠ k) : upd f k x j = f j := if_neg h
/-- what a note says: pairs of place and word -/
def fin : (Nat → Int32) → Nat → Nat → List (Nat × Int32)
  | _, _, 0 => []
  | w, i, n + 1 => ((w (266 + 2 * i)).toNatClampNeg, w (267 + 2 * i)) :: fin w (i + 1) n
theorem fin_cong {w v : Nat → Int32} : ∀ (n i : Nat), (∀ j, 266 ≤ j → w j = v j) → fin w i n = fin v i n
  | 0, _, _ => rfl
  | n + 1, i, h => by
    show (_, _) :: _ = (_, _) :: _
    rw [h _ (by omega), h _ (by omega), fin_cong n (i + 1) h]
def nOK (w : Nat → Int32) (k : Nat) : Prop := w 265 = nI k ∧ k ≤ 4 ∧ ∀ i, i < k → ∃ q, q < 265 ∧ w (266 + 2 * i) = nI q
def mi_D_finishChange : MI := (b_D_finishChange, 3, "RootedWords$Disk", none, 1, tbl_of 61 f_D_finishChange, fl_D, [(29, (1, 2, ct_D_write))], [])
theorem ok_D_finishChange : MOK mi_D_finishChange := ⟨tbl_ok k_D_finishChange, flok_D rfl, List.forall_mem_cons.mpr ⟨okV 1 (by decide) s_D_write rfl (Nat.le_of_ble_eq_true rfl) (Nat.le_of_ble_eq_true rfl) (by decide +kernel) lk_D_29 vv_D_write, (fun _ h => absurd h List.not_mem_nil)⟩⟩
theorem si_D_finishChange : ∀ q ∈ m_tr mi_D_finishChange, SiteF mi_D_finishChange q := (fun _ h => absurd h List.not_mem_nil)
theorem c_D_finishChange_loop {X : CT} {oc : OC} (hX : CxO X mi_D_finishChange oc) (k : Nat) (w : Nat → Int32) (hw : nOK w k) : ∀ (n i : Nat) (σ : Mem), i + n = k → (∀ j, 265 ≤ j → σ 2 j = w j) → oc = wou σ (fin w i n ++ [(265, 0)]) none →
    Go X mi_D_finishChange 11 [some (.inr (.inl 1)), some (.inl (nI k)), some (.inl (nI i))] [] σ := by
  intro n
  induction n with
  | zero =>
    intro i σ hi hσ ho
    obtain rfl : i = k := by omega
    refine Go_run ok_D_finishChange hX [11] 60 (fun K R1 T1 hK hR hT => ?_)
    conv => whnf
    refine ⟨fun _ => ?_, fun h => absurd (nI_le (Nat.le_refl i) (by have := hw.2.1; omega)) h⟩
    conv => whnf
    refine ⟨vp_in_nI (by decide) (by decide), fun h0 => ?_, fun h0 => ?_⟩
    · exact hT _ _ _ (by rw [ho]; exact wou_fail h0 _ _ _)
    · conv => whnf
      exact hR _ _ (by rw [ho]; exact wou_step h0 _ _ _ _)
  | succ n ih =>
    intro i σ hi hσ ho
    have hk := hw.2.1
    obtain ⟨q, hq, hq2⟩ := hw.2.2 i (by omega)
    have e1 : nI 266 + nI 2 * nI i = nI (266 + 2 * i) := by rw [pk_mul, nI_add]
    have e2 : nI 266 + nI 2 * nI i + nI 1 = nI (267 + 2 * i) := by rw [e1, nI_add, show 266 + 2 * i + 1 = 267 + 2 * i by omega]
    refine Go_run ok_D_finishChange hX [11] 60 (fun K R1 T1 hK hR hT => ?_)
    conv => whnf
    refine ⟨fun h => absurd h (nI_ge (by omega) (by omega)), fun _ => ?_⟩
    conv => whnf
    rw [e1]
    refine ⟨vp_in_nI (by omega) (by decide), ?_⟩
    rw [nI_clamp (by omega), hσ _ (by omega)]
    conv => whnf
    rw [e2]
    refine ⟨vp_in_nI (by omega) (by decide), ?_⟩
    rw [nI_clamp (by omega), hσ _ (by omega)]
    conv => whnf
    rw [hq2]
    refine ⟨vp_in_nI (by omega) (by decide), fun h0 => ?_, fun h0 => ?_⟩
    · exact hT _ _ _ (by rw [ho]; exact wou_fail h0 _ _ _)
    · conv => whnf
      refine hK _ _ _ _ ?_
      have e3 : nI i + nI 1 = nI (i + 1) := nI_add i 1
      show Go X mi_D_finishChange 11 [some (.inr (.inl 1)), some (.inl (nI k)), some (.inl (nI i + nI 1))] [] _
      rw [e3]
      refine ih (i + 1) _ (by omega) (fun j hj => ?_) ?_
      · rw [wrO_2, upd_n _ _ (by rw [nI_clamp (by omega)]; omega)]
        exact hσ j hj
      · rw [ho]
        show wou σ (((w (266 + 2 * i)).toNatClampNeg, w (267 + 2 * i)) :: (fin w (i + 1) n ++ [(265, 0)])) none = _
        rw [hq2, wou_step h0]
theorem c_D_finishChange (k : Nat) (σ : Mem) (hw : nOK (σ 2) k) : MetO y_D_finishChange mi_D_finishChange [.inr (.inl 1)] σ (wou σ (fin (σ 2) 0 k ++ [(265, 0)]) none) := by
  refine met_go ok_D_finishChange ⟨rfl, rfl⟩ si_D_finishChange (Nat.le_of_ble_eq_true rfl) ⟨trivial, trivial⟩ [11] 60 (fun X hX K R1 T1 hK hR hT => ?_)
  conv => whnf
  refine ⟨vp_in_nI (by decide) (by decide), ?_⟩
  conv => whnf
  refine hK _ _ _ _ ?_
  show Go X mi_D_finishChange 11 [some (.inr (.inl 1)), some (.inl (σ 2 265)), some (.inl (nI 0))] [] σ
  rw [hw.1]
  exact c_D_finishChange_loop hX k (σ 2) hw k 0 σ (by omega) (fun j _ => rfl) rfl
def ct_D_finishChange : CTy := fun as σ KN KX => match as with
  | [] => ∃ k, nOK (σ 2) k ∧ (∀ σ', wrs σ (fin (σ 2) 0 k ++ [(265, 0)]) = (σ', false) → KN none σ') ∧ (∀ σ', wrs σ (fin (σ 2) 0 k ++ [(265, 0)]) = (σ', true) → KX eIS σ')
  | _ => False
theorem wou_use {y : MethodName} {M : MI} {as : List AV} {σ : Mem} {l : List (Nat × Int32)} {r : Option AV} {KN : Option AV → Mem → Prop} {KX : String → Mem → Prop} (hm : MetO y M as σ (wou σ l r)) (h1 : ∀ σ', wrs σ l = (σ', false) → KN r σ') (h2 : ∀ σ', wrs σ l = (σ', true) → KX eIS σ') :
    ∃ oc : OC, (match oc with | .inl z => KN z.1 z.2 | .inr z => KX z.1 z.2) ∧ MetO y M as σ oc := by
  refine ⟨_, ?_, hm⟩
  unfold wou
  by_cases h : (wrs σ l).2 = true
  · rw [if_pos h]; exact h2 _ (Prod.ext rfl h)
  · rw [if_neg h]; exact h1 _ (Prod.ext rfl (Bool.not_eq_true _ ▸ h))
theorem s_D_finishChange : Snd y_D_finishChange mi_D_finishChange 1 0 ct_D_finishChange := by
  intro as σ KN KX _ hf
  match as, hf with
  | [], ⟨k, hw, h1, h2⟩ => exact wou_use (c_D_finishChange k σ hw) h1 h2
