/-! ===== the class: its face, first half ===== -/
def mi_X_writes : MI := (b_X_writes, 1, "RootedWords", some .int, 1, tbl_of 8 f_X_writes, fl_X, [(141, (1, 0, ct_D_writeCount))], [])
theorem ok_X_writes : MOK mi_X_writes := ⟨tbl_ok k_X_writes, flok_X rfl, List.forall_mem_cons.mpr ⟨okV 1 (by decide) s_D_writeCount rfl (Nat.le_of_ble_eq_true rfl) (Nat.le_of_ble_eq_true rfl) (by decide +kernel) lk_X_141 vv_D_writeCount, (fun _ h => absurd h List.not_mem_nil)⟩⟩
theorem si_X_writes : ∀ q ∈ m_tr mi_X_writes, SiteF mi_X_writes q := (fun _ h => absurd h List.not_mem_nil)
theorem c_X_writes (σ : Mem) : MetO y_X_writes mi_X_writes [.inr (.inl 0)] σ (.inl (some (.inl (σ 1 2)), σ)) := by
  refine met_go ok_X_writes ⟨rfl, rfl⟩ si_X_writes (Nat.le_of_ble_eq_true rfl) ⟨trivial, trivial⟩ [] 60 (fun X hX K R1 T1 hK hR hT => ?_)
  conv => whnf
  exact hR _ _ rfl
def mi_X_down : MI := (b_X_down, 1, "RootedWords", some .boolean, 1, tbl_of 8 f_X_down, fl_X, [(125, (1, 0, ct_D_isDown))], [])
theorem ok_X_down : MOK mi_X_down := ⟨tbl_ok k_X_down, flok_X rfl, List.forall_mem_cons.mpr ⟨okV 1 (by decide) s_D_isDown rfl (Nat.le_of_ble_eq_true rfl) (Nat.le_of_ble_eq_true rfl) (by decide +kernel) lk_X_125 vv_D_isDown, (fun _ h => absurd h List.not_mem_nil)⟩⟩
theorem si_X_down : ∀ q ∈ m_tr mi_X_down, SiteF mi_X_down q := (fun _ h => absurd h List.not_mem_nil)
theorem c_X_down (σ : Mem) (h : bl (σ 1 4)) : MetO y_X_down mi_X_down [.inr (.inl 0)] σ (.inl (some (.inl (σ 1 4)), σ)) := by
  refine met_go ok_X_down ⟨rfl, rfl⟩ si_X_down (Nat.le_of_ble_eq_true rfl) ⟨trivial, trivial⟩ [] 60 (fun X hX K R1 T1 hK hR hT => ?_)
  conv => whnf
  refine ⟨h, ?_⟩
  conv => whnf
  exact ⟨bl_and h, hR _ _ rfl⟩
def mi_X_order : MI := (b_X_order, 2, "RootedWords", some .boolean, 1, tbl_of 23 f_X_order, fl_X, [(122, (1, 1, ct_D_failAfter))], [])
theorem ok_X_order : MOK mi_X_order := ⟨tbl_ok k_X_order, flok_X rfl, List.forall_mem_cons.mpr ⟨okV 1 (by decide) s_D_failAfter rfl (Nat.le_of_ble_eq_true rfl) (Nat.le_of_ble_eq_true rfl) (by decide +kernel) lk_X_122 vv_D_failAfter, (fun _ h => absurd h List.not_mem_nil)⟩⟩
theorem si_X_order : ∀ q ∈ m_tr mi_X_order, SiteF mi_X_order q := (fun _ h => absurd h List.not_mem_nil)
def or_ok (n : Int32) : Prop := ¬ n < 0 ∧ n ≤ nI 1000
theorem c_X_order_ok (n : Int32) (σ : Mem) (h : or_ok n) : MetO y_X_order mi_X_order [.inr (.inl 0), .inl n] σ (.inl (some (.inl 1), st σ 1 3 n)) := by
  refine met_go ok_X_order ⟨rfl, rfl⟩ si_X_order (Nat.le_of_ble_eq_true rfl) ⟨trivial, trivial, trivial⟩ [] 60 (fun X hX K R1 T1 hK hR hT => ?_)
  conv => whnf
  refine ⟨fun h1 => absurd h1 h.1, fun _ => ?_⟩
  conv => whnf
  refine ⟨fun _ => ?_, fun h1 => absurd h.2 h1⟩
  conv => whnf
  exact ⟨rfl, hR _ _ rfl⟩
theorem c_X_order_no (n : Int32) (σ : Mem) (h : ¬ or_ok n) : MetO y_X_order mi_X_order [.inr (.inl 0), .inl n] σ (.inl (some (.inl 0), σ)) := by
  refine met_go ok_X_order ⟨rfl, rfl⟩ si_X_order (Nat.le_of_ble_eq_true rfl) ⟨trivial, trivial, trivial⟩ [] 60 (fun X hX K R1 T1 hK hR hT => ?_)
  conv => whnf
  refine ⟨fun _ => ?_, fun h1 => ?_⟩
  · conv => whnf
    exact ⟨rfl, hR _ _ rfl⟩
  · conv => whnf
    refine ⟨fun h2 => absurd ⟨h1, h2⟩ h, fun _ => ?_⟩
    conv => whnf
    exact ⟨rfl, hR _ _ rfl⟩
def mi_X_reached : MI := (b_X_reached, 1, "RootedWords", some .int, 5, tbl_of 9 f_X_reached, fl_X, [(34, (0, 0, ct_X_refuseWhenDown)), (119, (0, 0, ct_X_searchFromRoots))], [])
theorem ok_X_reached : MOK mi_X_reached := ⟨tbl_ok k_X_reached, flok_X rfl, List.forall_mem_cons.mpr ⟨okV 0 (by decide) s_X_refuseWhenDown rfl (Nat.le_of_ble_eq_true rfl) (Nat.le_of_ble_eq_true rfl) (by decide +kernel) lk_X_34 vv_X_refuseWhenDown, List.forall_mem_cons.mpr ⟨okV 0 (by decide) s_X_searchFromRoots rfl (Nat.le_of_ble_eq_true rfl) (Nat.le_of_ble_eq_true rfl) (by decide +kernel) lk_X_119 vv_X_searchFromRoots, (fun _ h => absurd h List.not_mem_nil)⟩⟩⟩
theorem si_X_reached : ∀ q ∈ m_tr mi_X_reached, SiteF mi_X_reached q := (fun _ h => absurd h List.not_mem_nil)
theorem c_X_reached_down (σ : Mem) (h : σ 1 4 = 1) : MetO y_X_reached mi_X_reached [.inr (.inl 0)] σ (.inr (eIS, σ)) := by
  refine met_go ok_X_reached ⟨rfl, rfl⟩ si_X_reached (Nat.le_of_ble_eq_true rfl) ⟨trivial, trivial⟩ [] 60 (fun X hX K R1 T1 hK hR hT => ?_)
  conv => whnf
  refine ⟨Or.inr h, fun _ => ?_, fun h1 => absurd (h.symm.trans h1) (by decide)⟩
  exact hT _ _ _ rfl
theorem c_X_reached_up (σ : Mem) (h : σ 1 4 = 0) {N : Nat} {ln kd : Nat → Nat} (hp : HP (σ 2) N ln kd) : MetO y_X_reached mi_X_reached [.inr (.inl 0)] σ (.inl (some (.inl (nI (cntP (RS (σ 2) N ln kd) N))), srM σ N ln kd)) := by
  refine met_go ok_X_reached ⟨rfl, rfl⟩ si_X_reached (Nat.le_of_ble_eq_true rfl) ⟨trivial, trivial⟩ [] 60 (fun X hX K R1 T1 hK hR hT => ?_)
  conv => whnf
  refine ⟨Or.inl h, fun h1 => absurd (h.symm.trans h1) (by decide), fun _ => ?_⟩
  conv => whnf
  refine ⟨N, ln, kd, hp, ?_⟩
  conv => whnf
  exact hR _ _ rfl
def mi_X_root : MI := (b_X_root, 2, "RootedWords", some .int, 5, tbl_of 15 f_X_root, fl_X, [(34, (0, 0, ct_X_refuseWhenDown)), (99, (0, 1, ct_X_refuseUnlessRoot)), (102, (0, 1, ct_X_usedRoot))], [])
theorem ok_X_root : MOK mi_X_root := ⟨tbl_ok k_X_root, flok_X rfl, List.forall_mem_cons.mpr ⟨okV 0 (by decide) s_X_refuseWhenDown rfl (Nat.le_of_ble_eq_true rfl) (Nat.le_of_ble_eq_true rfl) (by decide +kernel) lk_X_34 vv_X_refuseWhenDown, List.forall_mem_cons.mpr ⟨okV 0 (by decide) s_X_refuseUnlessRoot rfl (Nat.le_of_ble_eq_true rfl) (Nat.le_of_ble_eq_true rfl) (by decide +kernel) lk_X_99 vv_X_refuseUnlessRoot, List.forall_mem_cons.mpr ⟨okV 0 (by decide) s_X_usedRoot rfl (Nat.le_of_ble_eq_true rfl) (Nat.le_of_ble_eq_true rfl) (by decide +kernel) lk_X_102 vv_X_usedRoot, (fun _ h => absurd h List.not_mem_nil)⟩⟩⟩⟩
theorem si_X_root : ∀ q ∈ m_tr mi_X_root, SiteF mi_X_root q := (fun _ h => absurd h List.not_mem_nil)
theorem c_X_root_down (r : Int32) (σ : Mem) (h : σ 1 4 = 1) : MetO y_X_root mi_X_root [.inr (.inl 0), .inl r] σ (.inr (eIS, σ)) := by
  refine met_go ok_X_root ⟨rfl, rfl⟩ si_X_root (Nat.le_of_ble_eq_true rfl) ⟨trivial, trivial, trivial⟩ [] 60 (fun X hX K R1 T1 hK hR hT => ?_)
  conv => whnf
  refine ⟨Or.inr h, fun _ => ?_, fun h1 => absurd (h.symm.trans h1) (by decide)⟩
  exact hT _ _ _ rfl
theorem c_X_root_no (r : Int32) (σ : Mem) (h : σ 1 4 = 0) (hr : ¬ rt_ok r) : MetO y_X_root mi_X_root [.inr (.inl 0), .inl r] σ (.inr (eIO, σ)) := by
  refine met_go ok_X_root ⟨rfl, rfl⟩ si_X_root (Nat.le_of_ble_eq_true rfl) ⟨trivial, trivial, trivial⟩ [] 60 (fun X hX K R1 T1 hK hR hT => ?_)
  conv => whnf
  refine ⟨Or.inl h, fun h1 => absurd (h.symm.trans h1) (by decide), fun _ => ?_⟩
  conv => whnf
  refine ⟨fun _ => ?_, fun h1 => absurd h1 hr⟩
  exact hT _ _ _ rfl
theorem rt_nat {r : Int32} (h : rt_ok r) : ∃ j, j < 8 ∧ r = nI j := by
  obtain ⟨j, hj, e⟩ := nI_of h.1
  refine ⟨j, ?_, e⟩
  have := h.2
  rw [e] at this
  exact (nI_ltI hj (by decide)).mp this
theorem rt_okN {j : Nat} (h : j < 8) : rt_ok (nI j) := ⟨nI_pos (by omega), nI_lt h (by decide)⟩
theorem c_X_root_ok (j : Nat) (hj : j < 8) (σ : Mem) (h : σ 1 4 = 0) {N : Nat} {ln kd : Nat → Nat} (hp : HP (σ 2) N ln kd) (v : Int32) (hv : (Us N ln kd (σ 2 (257 + j)) → v = σ 2 (257 + j)) ∧ (¬ Us N ln kd (σ 2 (257 + j)) → v = 0)) : MetO y_X_root mi_X_root [.inr (.inl 0), .inl (nI j)] σ (.inl (some (.inl v), lsF σ ln N)) := by
  refine met_go ok_X_root ⟨rfl, rfl⟩ si_X_root (Nat.le_of_ble_eq_true rfl) ⟨trivial, trivial, trivial⟩ [] 60 (fun X hX K R1 T1 hK hR hT => ?_)
  conv => whnf
  refine ⟨Or.inl h, fun h1 => absurd (h.symm.trans h1) (by decide), fun _ => ?_⟩
  conv => whnf
  refine ⟨fun h1 => absurd (rt_okN hj) h1, fun _ => ?_⟩
  conv => whnf
  refine ⟨j, N, ln, kd, rfl, hj, hp, fun q => ?_, fun q => ?_⟩
  · conv => whnf
    exact hR _ _ (by rw [hv.1 q])
  · conv => whnf
    exact hR _ _ (by rw [hv.2 q])
def mi_X_extent : MI := (b_X_extent, 3, "RootedWords", some .int, 3, tbl_of 55 f_X_extent, fl_X, [(34, (0, 0, ct_X_refuseWhenDown)), (72, (0, 1, ct_X_isFreeAt)), (105, (0, 0, ct_X_listExtents))], [(16, "java/lang/IndexOutOfBoundsException")])
theorem ok_X_extent : MOK mi_X_extent := ⟨tbl_ok k_X_extent, flok_X rfl, List.forall_mem_cons.mpr ⟨okV 0 (by decide) s_X_refuseWhenDown rfl (Nat.le_of_ble_eq_true rfl) (Nat.le_of_ble_eq_true rfl) (by decide +kernel) lk_X_34 vv_X_refuseWhenDown, List.forall_mem_cons.mpr ⟨okV 0 (by decide) s_X_isFreeAt rfl (Nat.le_of_ble_eq_true rfl) (Nat.le_of_ble_eq_true rfl) (by decide +kernel) lk_X_72 vv_X_isFreeAt, List.forall_mem_cons.mpr ⟨okV 0 (by decide) s_X_listExtents rfl (Nat.le_of_ble_eq_true rfl) (Nat.le_of_ble_eq_true rfl) (by decide +kernel) lk_X_105 vv_X_listExtents, (fun _ h => absurd h List.not_mem_nil)⟩⟩⟩⟩
theorem si_X_extent : ∀ q ∈ m_tr mi_X_extent, SiteF mi_X_extent q := List.forall_mem_cons.mpr ⟨⟨114, 116, 118, "there is no such extent", ⟨by decide +kernel, by decide +kernel, by decide +kernel, by decide +kernel, by decide +kernel⟩, by decide +kernel, Or.inl th_X_114⟩, (fun _ h => absurd h List.not_mem_nil)⟩
theorem c_X_extent_down (i : Int32) (σ : Mem) (h : σ 1 4 = 1) : MetO y_X_extent mi_X_extent [.inr (.inl 0), .inl i] σ (.inr (eIS, σ)) := by
  refine met_go ok_X_extent ⟨rfl, rfl⟩ si_X_extent (Nat.le_of_ble_eq_true rfl) ⟨trivial, trivial, trivial⟩ [] 60 (fun X hX K R1 T1 hK hR hT => ?_)
  conv => whnf
  refine ⟨Or.inr h, fun _ => ?_, fun h1 => absurd (h.symm.trans h1) (by decide)⟩
  exact hT _ _ _ rfl
theorem c_X_extent_neg (i : Int32) (σ : Mem) (h : σ 1 4 = 0) (hi : i < 0) : MetO y_X_extent mi_X_extent [.inr (.inl 0), .inl i] σ (.inr (eIO, σ)) := by
  refine met_go ok_X_extent ⟨rfl, rfl⟩ si_X_extent (Nat.le_of_ble_eq_true rfl) ⟨trivial, trivial, trivial⟩ [] 60 (fun X hX K R1 T1 hK hR hT => ?_)
  conv => whnf
  refine ⟨Or.inl h, fun h1 => absurd (h.symm.trans h1) (by decide), fun _ => ?_⟩
  conv => whnf
  refine ⟨fun _ => ?_, fun h1 => absurd hi h1⟩
  conv => whnf
  exact hT _ _ _ rfl
theorem c_X_extent_big (i : Int32) (σ : Mem) (h : σ 1 4 = 0) {N : Nat} {ln kd : Nat → Nat} (hp : HP (σ 2) N ln kd) (hi : ¬ i < 0) (hi2 : ¬ i < nI N) : MetO y_X_extent mi_X_extent [.inr (.inl 0), .inl i] σ (.inr (eIO, lsF σ ln N)) := by
  refine met_go ok_X_extent ⟨rfl, rfl⟩ si_X_extent (Nat.le_of_ble_eq_true rfl) ⟨trivial, trivial, trivial⟩ [] 60 (fun X hX K R1 T1 hK hR hT => ?_)
  conv => whnf
  refine ⟨Or.inl h, fun h1 => absurd (h.symm.trans h1) (by decide), fun _ => ?_⟩
  conv => whnf
  refine ⟨fun h1 => absurd h1 hi, fun _ => ?_⟩
  conv => whnf
  refine ⟨N, ln, kd, hp, ?_⟩
  conv => whnf
  refine ⟨fun h1 => absurd h1 hi2, fun _ => ?_⟩
  conv => whnf
  exact hT _ _ _ rfl
theorem c_X_extent_ok (k : Nat) (σ : Mem) (h : σ 1 4 = 0) {N : Nat} {ln kd : Nat → Nat} (hp : HP (σ 2) N ln kd) (hk : k < N) (v : Int32) (hv : (kd k = 0 → v = -nI (pos ln k + 1)) ∧ (kd k ≠ 0 → v = nI (pos ln k + 1))) : MetO y_X_extent mi_X_extent [.inr (.inl 0), .inl (nI k)] σ (.inl (some (.inl v), lsF σ ln N)) := by
  have hN := hp.N85
  have g := hp.lt hk
  have e1 : nI (pos ln k) + nI 1 = nI (pos ln k + 1) := nI_add _ _
  refine met_go ok_X_extent ⟨rfl, rfl⟩ si_X_extent (Nat.le_of_ble_eq_true rfl) ⟨trivial, trivial, trivial⟩ [] 60 (fun X hX K R1 T1 hK hR hT => ?_)
  conv => whnf
  refine ⟨Or.inl h, fun h1 => absurd (h.symm.trans h1) (by decide), fun _ => ?_⟩
  conv => whnf
  refine ⟨fun h1 => absurd h1 (nI_pos (by omega)), fun _ => ?_⟩
  conv => whnf
  refine ⟨N, ln, kd, hp, ?_⟩
  conv => whnf
  refine ⟨fun _ => ?_, fun h1 => absurd (nI_lt hk (by omega)) h1⟩
  conv => whnf
  refine ⟨vp_in_nI (by omega) (by decide), ?_⟩
  rw [nI_clamp (by omega), lsF_4 σ ln N k hk]
  conv => whnf
  refine ⟨vp_in_nI (by omega) (by decide), ?_⟩
  rw [nI_clamp (by omega), lsF_4 σ ln N k hk]
  conv => whnf
  refine ⟨pos ln k, ln k, kd k, rfl, tg_of (w := σ 2) hp hk, ?_⟩
  conv => whnf
  refine ⟨fun h3 => ?_, fun h3 => ?_⟩
  · conv => whnf
    refine hR _ _ ?_
    rw [e1, hv.2 (fr_1.mp h3)]
  · conv => whnf
    refine hR _ _ ?_
    rw [e1, hv.1 (fr_0.mp h3)]
/-! sums over the free extents -/
def fsum (ln kd : Nat → Nat) : Nat → Nat
  | 0 => 0
  | i + 1 => if kd i = 0 then fsum ln kd i + (ln i - 2) else fsum ln kd i
def mi_X_freeWords : MI := (b_X_freeWords, 4, "RootedWords", some .int, 3, tbl_of 52 f_X_freeWords, fl_X, [(34, (0, 0, ct_X_refuseWhenDown)), (72, (0, 1, ct_X_isFreeAt)), (96, (0, 1, ct_X_contentAt)), (105, (0, 0, ct_X_listExtents))], [])
theorem ok_X_freeWords : MOK mi_X_freeWords := ⟨tbl_ok k_X_freeWords, flok_X rfl, List.forall_mem_cons.mpr ⟨okV 0 (by decide) s_X_refuseWhenDown rfl (Nat.le_of_ble_eq_true rfl) (Nat.le_of_ble_eq_true rfl) (by decide +kernel) lk_X_34 vv_X_refuseWhenDown, List.forall_mem_cons.mpr ⟨okV 0 (by decide) s_X_isFreeAt rfl (Nat.le_of_ble_eq_true rfl) (Nat.le_of_ble_eq_true rfl) (by decide +kernel) lk_X_72 vv_X_isFreeAt, List.forall_mem_cons.mpr ⟨okV 0 (by decide) s_X_contentAt rfl (Nat.le_of_ble_eq_true rfl) (Nat.le_of_ble_eq_true rfl) (by decide +kernel) lk_X_96 vv_X_contentAt, List.forall_mem_cons.mpr ⟨okV 0 (by decide) s_X_listExtents rfl (Nat.le_of_ble_eq_true rfl) (Nat.le_of_ble_eq_true rfl) (by decide +kernel) lk_X_105 vv_X_listExtents, (fun _ h => absurd h List.not_mem_nil)⟩⟩⟩⟩⟩
theorem si_X_freeWords : ∀ q ∈ m_tr mi_X_freeWords, SiteF mi_X_freeWords q := (fun _ h => absurd h List.not_mem_nil)
theorem c_X_freeWords_down (σ : Mem) (h : σ 1 4 = 1) : MetO y_X_freeWords mi_X_freeWords [.inr (.inl 0)] σ (.inr (eIS, σ)) := by
  refine met_go ok_X_freeWords ⟨rfl, rfl⟩ si_X_freeWords (Nat.le_of_ble_eq_true rfl) ⟨trivial, trivial⟩ [13] 60 (fun X hX K R1 T1 hK hR hT => ?_)
  conv => whnf
  refine ⟨Or.inr h, fun _ => ?_, fun h1 => absurd (h.symm.trans h1) (by decide)⟩
  exact hT _ _ _ rfl
theorem c_X_freeWords_loop {X : CT} {oc : OC} (hX : CxO X mi_X_freeWords oc) {σ : Mem} {N : Nat} {ln kd : Nat → Nat} (h : HP (σ 2) N ln kd) (hf : ∀ j, j < N → σ 4 j = nI (pos ln j)) (ho : oc = .inl (some (.inl (nI (fsum ln kd N))), σ)) : ∀ (n i : Nat), i + n = N →
    Go X mi_X_freeWords 13 [some (.inr (.inl 0)), some (.inl (nI N)), some (.inl (nI (fsum ln kd i))), some (.inl (nI i))] [] σ := by
  intro n
  have hN := h.N85
  induction n with
  | zero =>
    intro i hi
    obtain rfl : i = N := by omega
    refine Go_run ok_X_freeWords hX [13] 60 (fun K R1 T1 hK hR hT => ?_)
    conv => whnf
    refine ⟨fun _ => ?_, fun h1 => absurd (nI_le (Nat.le_refl _) (by omega)) h1⟩
    conv => whnf
    exact hR _ _ ho
  | succ n ih =>
    intro i hi
    have hi' : i < N := by omega
    have g1 := h.lt hi'
    have g3 := h.ln3 hi'
    have e2 : nI i + nI 1 = nI (i + 1) := nI_add i 1
    have h9 := ih (i + 1) (by omega)
    unfold fsum at h9
    refine Go_run ok_X_freeWords hX [13] 60 (fun K R1 T1 hK hR hT => ?_)
    conv => whnf
    refine ⟨fun h2 => absurd h2 (nI_ge hi' (by omega)), fun _ => ?_⟩
    conv => whnf
    refine ⟨vp_in_nI (by omega) (by decide), ?_⟩
    rw [nI_clamp (by omega), hf i hi']
    conv => whnf
    refine ⟨pos ln i, ln i, kd i, rfl, tg_of h hi', ?_⟩
    conv => whnf
    refine ⟨fun h3 => ?_, fun h3 => ?_⟩
    · conv => whnf
      refine hK _ _ _ _ ?_
      show Go X mi_X_freeWords 13 [some (.inr (.inl 0)), some (.inl (nI N)), some (.inl (nI (fsum ln kd i))), some (.inl (nI i + nI 1))] [] σ
      rw [if_neg (fr_1.mp h3)] at h9
      rw [e2]; exact h9
    · conv => whnf
      refine ⟨vp_in_nI (by omega) (by decide), ?_⟩
      rw [nI_clamp (by omega), hf i hi']
      conv => whnf
      refine ⟨pos ln i, ln i, kd i, rfl, tg_of h hi', by omega, ?_⟩
      conv => whnf
      refine hK _ _ _ _ ?_
      show Go X mi_X_freeWords 13 [some (.inr (.inl 0)), some (.inl (nI N)), some (.inl (nI (fsum ln kd i) + nI (ln i - 2))), some (.inl (nI i + nI 1))] [] σ
      rw [if_pos (fr_0.mp h3)] at h9
      rw [e2, nI_add]; exact h9
theorem c_X_freeWords_up (σ : Mem) (h : σ 1 4 = 0) {N : Nat} {ln kd : Nat → Nat} (hp : HP (σ 2) N ln kd) : MetO y_X_freeWords mi_X_freeWords [.inr (.inl 0)] σ (.inl (some (.inl (nI (fsum ln kd N))), lsF σ ln N)) := by
  refine met_go ok_X_freeWords ⟨rfl, rfl⟩ si_X_freeWords (Nat.le_of_ble_eq_true rfl) ⟨trivial, trivial⟩ [13] 60 (fun X hX K R1 T1 hK hR hT => ?_)
  conv => whnf
  refine ⟨Or.inl h, fun h1 => absurd (h.symm.trans h1) (by decide), fun _ => ?_⟩
  conv => whnf
  refine ⟨N, ln, kd, hp, ?_⟩
  conv => whnf
  exact hK _ _ _ _ (c_X_freeWords_loop hX (σ := lsF σ ln N) hp (fun j hj => lsF_4 σ ln N j hj) rfl N 0 (by omega))
def fmax (ln kd : Nat → Nat) : Nat → Nat
  | 0 => 0
  | i + 1 => if kd i = 0 then max (fmax ln kd i) (ln i - 2) else fmax ln kd i
def mi_X_largestFree : MI := (b_X_largestFree, 4, "RootedWords", some .int, 3, tbl_of 54 f_X_largestFree, fl_X, [(34, (0, 0, ct_X_refuseWhenDown)), (72, (0, 1, ct_X_isFreeAt)), (96, (0, 1, ct_X_contentAt)), (105, (0, 0, ct_X_listExtents)), (109, (99, 2, ct_max))], [])
theorem ok_X_largestFree : MOK mi_X_largestFree := ⟨tbl_ok k_X_largestFree, flok_X rfl, List.forall_mem_cons.mpr ⟨okV 0 (by decide) s_X_refuseWhenDown rfl (Nat.le_of_ble_eq_true rfl) (Nat.le_of_ble_eq_true rfl) (by decide +kernel) lk_X_34 vv_X_refuseWhenDown, List.forall_mem_cons.mpr ⟨okV 0 (by decide) s_X_isFreeAt rfl (Nat.le_of_ble_eq_true rfl) (Nat.le_of_ble_eq_true rfl) (by decide +kernel) lk_X_72 vv_X_isFreeAt, List.forall_mem_cons.mpr ⟨okV 0 (by decide) s_X_contentAt rfl (Nat.le_of_ble_eq_true rfl) (Nat.le_of_ble_eq_true rfl) (by decide +kernel) lk_X_96 vv_X_contentAt, List.forall_mem_cons.mpr ⟨okV 0 (by decide) s_X_listExtents rfl (Nat.le_of_ble_eq_true rfl) (Nat.le_of_ble_eq_true rfl) (by decide +kernel) lk_X_105 vv_X_listExtents, List.forall_mem_cons.mpr ⟨okMax lk_X_109 vs_max.1 vs_max.2.1 vs_max.2.2, (fun _ h => absurd h List.not_mem_nil)⟩⟩⟩⟩⟩⟩
theorem si_X_largestFree : ∀ q ∈ m_tr mi_X_largestFree, SiteF mi_X_largestFree q := (fun _ h => absurd h List.not_mem_nil)
theorem c_X_largestFree_down (σ : Mem) (h : σ 1 4 = 1) : MetO y_X_largestFree mi_X_largestFree [.inr (.inl 0)] σ (.inr (eIS, σ)) := by
  refine met_go ok_X_largestFree ⟨rfl, rfl⟩ si_X_largestFree (Nat.le_of_ble_eq_true rfl) ⟨trivial, trivial⟩ [13] 60 (fun X hX K R1 T1 hK hR hT => ?_)
  conv => whnf
  refine ⟨Or.inr h, fun _ => ?_, fun h1 => absurd (h.symm.trans h1) (by decide)⟩
  exact hT _ _ _ rfl
theorem fmax_le {w : Nat → Int32} {N : Nat} {ln kd : Nat → Nat} (h : HP w N ln kd) : ∀ i, i ≤ N → fmax ln kd i ≤ 256
  | 0, _ => Nat.zero_le _
  | i + 1, hi => by
    have h1 := fmax_le h i (by omega)
    have h2 := h.lt (i := i) (by omega)
    unfold fmax
    split
    · exact Nat.max_le.mpr ⟨h1, by omega⟩
    · exact h1
theorem c_X_largestFree_loop {X : CT} {oc : OC} (hX : CxO X mi_X_largestFree oc) {σ : Mem} {N : Nat} {ln kd : Nat → Nat} (h : HP (σ 2) N ln kd) (hf : ∀ j, j < N → σ 4 j = nI (pos ln j)) (ho : oc = .inl (some (.inl (nI (fmax ln kd N))), σ)) : ∀ (n i : Nat), i + n = N →
    Go X mi_X_largestFree 13 [some (.inr (.inl 0)), some (.inl (nI N)), some (.inl (nI (fmax ln kd i))), some (.inl (nI i))] [] σ := by
  intro n
  have hN := h.N85
  induction n with
  | zero =>
    intro i hi
    obtain rfl : i = N := by omega
    refine Go_run ok_X_largestFree hX [13] 60 (fun K R1 T1 hK hR hT => ?_)
    conv => whnf
    refine ⟨fun _ => ?_, fun h1 => absurd (nI_le (Nat.le_refl _) (by omega)) h1⟩
    conv => whnf
    exact hR _ _ ho
  | succ n ih =>
    intro i hi
    have hi' : i < N := by omega
    have g1 := h.lt hi'
    have g3 := h.ln3 hi'
    have g4 := fmax_le h i (by omega)
    have e2 : nI i + nI 1 = nI (i + 1) := nI_add i 1
    have h9 := ih (i + 1) (by omega)
    unfold fmax at h9
    refine Go_run ok_X_largestFree hX [13] 60 (fun K R1 T1 hK hR hT => ?_)
    conv => whnf
    refine ⟨fun h2 => absurd h2 (nI_ge hi' (by omega)), fun _ => ?_⟩
    conv => whnf
    refine ⟨vp_in_nI (by omega) (by decide), ?_⟩
    rw [nI_clamp (by omega), hf i hi']
    conv => whnf
    refine ⟨pos ln i, ln i, kd i, rfl, tg_of h hi', ?_⟩
    conv => whnf
    refine ⟨fun h3 => ?_, fun h3 => ?_⟩
    · conv => whnf
      refine hK _ _ _ _ ?_
      show Go X mi_X_largestFree 13 [some (.inr (.inl 0)), some (.inl (nI N)), some (.inl (nI (fmax ln kd i))), some (.inl (nI i + nI 1))] [] σ
      rw [if_neg (fr_1.mp h3)] at h9
      rw [e2]; exact h9
    · conv => whnf
      refine ⟨vp_in_nI (by omega) (by decide), ?_⟩
      rw [nI_clamp (by omega), hf i hi']
      conv => whnf
      refine ⟨pos ln i, ln i, kd i, rfl, tg_of h hi', by omega, ?_⟩
      conv => whnf
      refine hK _ _ _ _ ?_
      show Go X mi_X_largestFree 13 [some (.inr (.inl 0)), some (.inl (nI N)), some (.inl (if nI (fmax ln kd i) < nI (ln i - 2) then nI (ln i - 2) else nI (fmax ln kd i))), some (.inl (nI i + nI 1))] [] σ
      rw [if_pos (fr_0.mp h3)] at h9
      have e3 : (if nI (fmax ln kd i) < nI (ln i - 2) then nI (ln i - 2) else nI (fmax ln kd i)) = nI (max (fmax ln kd i) (ln i - 2)) := by
        by_cases q : nI (fmax ln kd i) < nI (ln i - 2)
        · rw [if_pos q]
          have := (nI_ltI (by omega) (by omega)).mp q
          exact nI_eqI (by omega)
        · rw [if_neg q]
          have := (not_congr (nI_ltI (by omega) (by omega))).mp q
          exact nI_eqI (by omega)
      rw [e2, e3]; exact h9
theorem c_X_largestFree_up (σ : Mem) (h : σ 1 4 = 0) {N : Nat} {ln kd : Nat → Nat} (hp : HP (σ 2) N ln kd) : MetO y_X_largestFree mi_X_largestFree [.inr (.inl 0)] σ (.inl (some (.inl (nI (fmax ln kd N))), lsF σ ln N)) := by
  refine met_go ok_X_largestFree ⟨rfl, rfl⟩ si_X_largestFree (Nat.le_of_ble_eq_true rfl) ⟨trivial, trivial⟩ [13] 60 (fun X hX K R1 T1 hK hR hT => ?_)
  conv => whnf
  refine ⟨Or.inl h, fun h1 => absurd (h.symm.trans h1) (by decide), fun _ => ?_⟩
  conv => whnf
  refine ⟨N, ln, kd, hp, ?_⟩
  conv => whnf
  exact hK _ _ _ _ (c_X_largestFree_loop hX (σ := lsF σ ln N) hp (fun j hj => lsF_4 σ ln N j hj) rfl N 0 (by omega))
