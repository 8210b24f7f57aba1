/-! ===== the reference: its face, without changes ===== -/
theorem MP.st7 {σ : Mem} {N : Nat} {ln kd : Nat → Nat} (h : MP σ N ln kd) (k : Nat) (v : Int32) (hk : 1 ≠ k) : MP (st σ 7 k v) N ln kd := by
  refine h.cong ?_ rfl rfl rfl rfl
  rw [st_stA, stA_self, upd_n _ _ hk]
theorem Usd.us {N : Nat} {ln kd : Nat → Nat} {e : Nat} {a : Int32} (h : Usd N ln kd e a) : Us N ln kd a := ⟨e, h⟩
theorem cIn {k : Nat} (h : 0 < k) (h2 : k < 1000 := by decide) : ¬ nI k ≤ 0 := fun z => by
  have := (nI_leI (a := k) (b := 0) (by omega) (by decide)).mp z
  omega
theorem c0n : (0 : Int32) ≤ 0 := by decide
def mi_M_order : MI := (b_M_order, 2, "RootedWordsModel", some .boolean, 0, tbl_of 25 f_M_order, fl_M, [], [])
theorem ok_M_order : MOK mi_M_order := ⟨tbl_ok k_M_order, flok_M rfl, (fun _ h => absurd h List.not_mem_nil)⟩
theorem si_M_order : ∀ q ∈ m_tr mi_M_order, SiteF mi_M_order q := (fun _ h => absurd h List.not_mem_nil)
theorem c_M_order_ok (n : Int32) (σ : Mem) (h : or_ok n) : MetO y_M_order mi_M_order [.inr (.inl 7), .inl n] σ (.inl (some (.inl 1), st (st σ 7 0 0) 7 10 n)) := by
  refine met_go ok_M_order ⟨rfl, rfl⟩ si_M_order (Nat.le_of_ble_eq_true rfl) ⟨trivial, trivial, trivial⟩ [] 60 (fun X hX K R1 T1 hK hR hT => ?_)
  conv => whnf
  refine ⟨fun h1 => absurd h1 h.1, fun _ => ?_⟩
  conv => whnf
  refine ⟨fun _ => ?_, fun h1 => absurd h.2 h1⟩
  conv => whnf
  exact ⟨rfl, hR _ _ rfl⟩
theorem c_M_order_no (n : Int32) (σ : Mem) (h : ¬ or_ok n) : MetO y_M_order mi_M_order [.inr (.inl 7), .inl n] σ (.inl (some (.inl 0), st σ 7 0 0)) := by
  refine met_go ok_M_order ⟨rfl, rfl⟩ si_M_order (Nat.le_of_ble_eq_true rfl) ⟨trivial, trivial, trivial⟩ [] 60 (fun X hX K R1 T1 hK hR hT => ?_)
  conv => whnf
  refine ⟨fun _ => ?_, fun h1 => ?_⟩
  · conv => whnf
    exact ⟨rfl, hR _ _ rfl⟩
  · conv => whnf
    refine ⟨fun h2 => absurd ⟨h1, h2⟩ h, fun _ => ?_⟩
    conv => whnf
    exact ⟨rfl, hR _ _ rfl⟩
def mi_M_writes : MI := (b_M_writes, 1, "RootedWordsModel", some .int, 0, tbl_of 10 f_M_writes, fl_M, [], [])
theorem ok_M_writes : MOK mi_M_writes := ⟨tbl_ok k_M_writes, flok_M rfl, (fun _ h => absurd h List.not_mem_nil)⟩
theorem si_M_writes : ∀ q ∈ m_tr mi_M_writes, SiteF mi_M_writes q := (fun _ h => absurd h List.not_mem_nil)
theorem c_M_writes (σ : Mem) : MetO y_M_writes mi_M_writes [.inr (.inl 7)] σ (.inl (some (.inl (σ 7 9)), st σ 7 0 0)) := by
  refine met_go ok_M_writes ⟨rfl, rfl⟩ si_M_writes (Nat.le_of_ble_eq_true rfl) ⟨trivial, trivial⟩ [] 60 (fun X hX K R1 T1 hK hR hT => ?_)
  conv => whnf
  exact hR _ _ rfl
def mi_M_down : MI := (b_M_down, 1, "RootedWordsModel", some .boolean, 0, tbl_of 10 f_M_down, fl_M, [], [])
theorem ok_M_down : MOK mi_M_down := ⟨tbl_ok k_M_down, flok_M rfl, (fun _ h => absurd h List.not_mem_nil)⟩
theorem si_M_down : ∀ q ∈ m_tr mi_M_down, SiteF mi_M_down q := (fun _ h => absurd h List.not_mem_nil)
theorem c_M_down (σ : Mem) (h : bl (σ 7 11)) : MetO y_M_down mi_M_down [.inr (.inl 7)] σ (.inl (some (.inl (σ 7 11)), st σ 7 0 0)) := by
  refine met_go ok_M_down ⟨rfl, rfl⟩ si_M_down (Nat.le_of_ble_eq_true rfl) ⟨trivial, trivial⟩ [] 60 (fun X hX K R1 T1 hK hR hT => ?_)
  conv => whnf
  exact ⟨bl_and h, hR _ _ rfl⟩
def mi_M_root : MI := (b_M_root, 2, "RootedWordsModel", some .int, 2, tbl_of 44 f_M_root, fl_M, [(77, (99, 1, ct_M_isRoot)), (80, (7, 1, ct_M_rootNow))], [])
theorem ok_M_root : MOK mi_M_root := ⟨tbl_ok k_M_root, flok_M rfl, List.forall_mem_cons.mpr ⟨okS s_M_isRoot rfl (Nat.le_of_ble_eq_true rfl) (Nat.le_of_ble_eq_true rfl) (by decide +kernel) lk_M_77 vs_M_isRoot, List.forall_mem_cons.mpr ⟨okV 2 (by decide) s_M_rootNow rfl (Nat.le_of_ble_eq_true rfl) (Nat.le_of_ble_eq_true rfl) (by decide +kernel) lk_M_80 vv_M_rootNow, (fun _ h => absurd h List.not_mem_nil)⟩⟩⟩
theorem si_M_root : ∀ q ∈ m_tr mi_M_root, SiteF mi_M_root q := (fun _ h => absurd h List.not_mem_nil)
theorem c_M_root_down (r : Int32) (σ : Mem) (hd : σ 7 11 = 1) : MetO y_M_root mi_M_root [.inr (.inl 7), .inl r] σ (.inl (some (.inl 0), st σ 7 0 1)) := by
  refine met_go ok_M_root ⟨rfl, rfl⟩ si_M_root (Nat.le_of_ble_eq_true rfl) ⟨trivial, trivial, trivial⟩ [] 60 (fun X hX K R1 T1 hK hR hT => ?_)
  conv => whnf
  refine ⟨fun z => absurd (hd.symm.trans z) (by decide), fun _ => ?_⟩
  conv => whnf
  refine ⟨fun z => absurd z (cIn (k := 1) (by decide)), fun _ => ?_⟩
  conv => whnf
  exact hR _ _ rfl
theorem c_M_root_no (r : Int32) (σ : Mem) (hd : σ 7 11 = 0) (hr : ¬ rt_ok r) : MetO y_M_root mi_M_root [.inr (.inl 7), .inl r] σ (.inl (some (.inl 0), st σ 7 0 2)) := by
  refine met_go ok_M_root ⟨rfl, rfl⟩ si_M_root (Nat.le_of_ble_eq_true rfl) ⟨trivial, trivial, trivial⟩ [] 60 (fun X hX K R1 T1 hK hR hT => ?_)
  conv => whnf
  refine ⟨fun _ => ?_, fun z => absurd hd z⟩
  conv => whnf
  refine ⟨fun h1 => absurd h1 hr, fun _ => ?_⟩
  conv => whnf
  refine ⟨fun _ => ?_, fun z => absurd rfl z⟩
  conv => whnf
  refine ⟨fun z => absurd z (cIn (k := 2) (by decide)), fun _ => ?_⟩
  conv => whnf
  exact hR _ _ rfl
theorem c_M_root_ok (j : Nat) (hj : j < 8) (σ : Mem) (hd : σ 7 11 = 0) {N : Nat} {ln kd : Nat → Nat} (h : MP σ N ln kd) (v : Int32) (hv : (Us N ln kd (σ 14 j) → v = σ 14 j) ∧ (¬ Us N ln kd (σ 14 j) → v = 0)) : MetO y_M_root mi_M_root [.inr (.inl 7), .inl (nI j)] σ (.inl (some (.inl v), st σ 7 0 0)) := by
  have h' := h.st7 0 0 (by decide)
  refine met_go ok_M_root ⟨rfl, rfl⟩ si_M_root (Nat.le_of_ble_eq_true rfl) ⟨trivial, trivial, trivial⟩ [] 60 (fun X hX K R1 T1 hK hR hT => ?_)
  conv => whnf
  refine ⟨fun _ => ?_, fun z => absurd hd z⟩
  conv => whnf
  refine ⟨fun _ => ?_, fun h1 => absurd (rt_okN hj) h1⟩
  conv => whnf
  refine ⟨fun z => absurd z (by decide), fun _ => ?_⟩
  conv => whnf
  refine ⟨fun _ => ?_, fun z => absurd c0n z⟩
  conv => whnf
  refine ⟨N, ln, kd, j, rfl, h', hj, fun q => ?_, fun q => ?_⟩
  · conv => whnf
    refine hR _ _ ?_
    rw [hv.1 q]; rfl
  · conv => whnf
    refine hR _ _ ?_
    rw [hv.2 q]; rfl
def mi_M_extent : MI := (b_M_extent, 2, "RootedWordsModel", some .int, 0, tbl_of 71 f_M_extent, fl_M, [], [])
theorem ok_M_extent : MOK mi_M_extent := ⟨tbl_ok k_M_extent, flok_M rfl, (fun _ h => absurd h List.not_mem_nil)⟩
theorem si_M_extent : ∀ q ∈ m_tr mi_M_extent, SiteF mi_M_extent q := (fun _ h => absurd h List.not_mem_nil)
theorem c_M_extent_down (i : Int32) (σ : Mem) (hd : σ 7 11 = 1) : MetO y_M_extent mi_M_extent [.inr (.inl 7), .inl i] σ (.inl (some (.inl 0), st σ 7 0 1)) := by
  refine met_go ok_M_extent ⟨rfl, rfl⟩ si_M_extent (Nat.le_of_ble_eq_true rfl) ⟨trivial, trivial, trivial⟩ [] 60 (fun X hX K R1 T1 hK hR hT => ?_)
  conv => whnf
  refine ⟨fun z => absurd (hd.symm.trans z) (by decide), fun _ => ?_⟩
  conv => whnf
  refine ⟨fun z => absurd z (cIn (k := 1) (by decide)), fun _ => ?_⟩
  conv => whnf
  exact hR _ _ rfl
theorem c_M_extent_no (i : Int32) (σ : Mem) (hd : σ 7 11 = 0) {N : Nat} {ln kd : Nat → Nat} (h : MP σ N ln kd) (hi : i < 0 ∨ ¬ i < nI N) : MetO y_M_extent mi_M_extent [.inr (.inl 7), .inl i] σ (.inl (some (.inl 0), st σ 7 0 2)) := by
  refine met_go ok_M_extent ⟨rfl, rfl⟩ si_M_extent (Nat.le_of_ble_eq_true rfl) ⟨trivial, trivial, trivial⟩ [] 60 (fun X hX K R1 T1 hK hR hT => ?_)
  conv => whnf
  refine ⟨fun _ => ?_, fun z => absurd hd z⟩
  conv => whnf
  refine ⟨fun z => ?_, fun z => ?_⟩
  · conv => whnf
    refine ⟨fun z => absurd z (cIn (k := 2) (by decide)), fun _ => ?_⟩
    conv => whnf
    exact hR _ _ rfl
  · have hi := hi.resolve_left z
    conv => whnf
    rw [h.2.1]
    refine ⟨fun z => absurd z hi, fun _ => ?_⟩
    conv => whnf
    refine ⟨fun z => absurd z (cIn (k := 2) (by decide)), fun _ => ?_⟩
    conv => whnf
    exact hR _ _ rfl
theorem c_M_extent_ok (k : Nat) (σ : Mem) (hd : σ 7 11 = 0) {N : Nat} {ln kd : Nat → Nat} (h : MP σ N ln kd) (hk : k < N) (v : Int32) (hv : (kd k = 0 → v = -nI (pos ln k + 1)) ∧ (kd k ≠ 0 → v = nI (pos ln k + 1))) : MetO y_M_extent mi_M_extent [.inr (.inl 7), .inl (nI k)] σ (.inl (some (.inl v), st σ 7 0 0)) := by
  have hN := h.1.N85
  have g := h.1.lt hk
  obtain ⟨m8, m9, m10, m11⟩ := h.2.2 k hk
  have e1 : nI (pos ln k) + nI 1 = nI (pos ln k + 1) := nI_add _ _
  have e2 : -nI (pos ln k) - nI 1 = -nI (pos ln k + 1) := by rw [← e1, Int32.neg_add, Int32.sub_eq_add_neg]
  refine met_go ok_M_extent ⟨rfl, rfl⟩ si_M_extent (Nat.le_of_ble_eq_true rfl) ⟨trivial, trivial, trivial⟩ [] 60 (fun X hX K R1 T1 hK hR hT => ?_)
  conv => whnf
  refine ⟨fun _ => ?_, fun z => absurd hd z⟩
  conv => whnf
  refine ⟨fun z => absurd z (nI_pos (by omega)), fun _ => ?_⟩
  conv => whnf
  rw [h.2.1]
  refine ⟨fun _ => ?_, fun z => absurd (nI_lt hk (by omega)) z⟩
  conv => whnf
  refine ⟨fun _ => ?_, fun z => absurd c0n z⟩
  conv => whnf
  refine ⟨vp_in_nI (by omega) (by decide), ?_⟩
  rw [nI_clamp (by omega)]
  have m10 : st σ 7 0 (nI 0) 10 k = ub (kd k) := m10
  have m8 : st σ 7 0 (nI 0) 8 k = nI (pos ln k) := m8
  rw [m10]
  conv => whnf
  refine ⟨fun z => ?_, fun z => ?_⟩
  · conv => whnf
    refine ⟨vp_in_nI (by omega) (by decide), ?_⟩
    rw [nI_clamp (by omega), m8]
    conv => whnf
    refine hR _ _ ?_
    rw [hv.1 (ub_0.mp z), ← e2]; rfl
  · conv => whnf
    refine ⟨vp_in_nI (by omega) (by decide), ?_⟩
    rw [nI_clamp (by omega), m8]
    conv => whnf
    refine hR _ _ ?_
    rw [hv.2 (fun q => z (ub_0.mpr q)), ← e1]; rfl
def mi_M_size : MI := (b_M_size, 4, "RootedWordsModel", some .int, 1, tbl_of 63 f_M_size, fl_M, [(67, (7, 1, ct_M_at))], [])
theorem ok_M_size : MOK mi_M_size := ⟨tbl_ok k_M_size, flok_M rfl, List.forall_mem_cons.mpr ⟨okV 2 (by decide) s_M_at rfl (Nat.le_of_ble_eq_true rfl) (Nat.le_of_ble_eq_true rfl) (by decide +kernel) lk_M_67 vv_M_at, (fun _ h => absurd h List.not_mem_nil)⟩⟩
theorem si_M_size : ∀ q ∈ m_tr mi_M_size, SiteF mi_M_size q := (fun _ h => absurd h List.not_mem_nil)
theorem c_M_size_down (a x : Int32) (σ : Mem) (hd : σ 7 11 = 1) {N : Nat} {ln kd : Nat → Nat} (h : MP σ N ln kd) : MetO y_M_size mi_M_size [.inr (.inl 7), .inl a, .inl x] σ (.inl (some (.inl 0), st σ 7 0 1)) := by
  refine met_go ok_M_size ⟨rfl, rfl⟩ si_M_size (Nat.le_of_ble_eq_true rfl) ⟨trivial, trivial, trivial, trivial⟩ [] 60 (fun X hX K R1 T1 hK hR hT => ?_)
  conv => whnf
  refine ⟨N, ln, kd, h, fun e' he' => ?_, fun q => ?_⟩
  · conv => whnf
    refine ⟨fun z => absurd (hd.symm.trans z) (by decide), fun _ => ?_⟩
    conv => whnf
    refine ⟨fun z => absurd z (cIn (k := 1) (by decide)), fun _ => ?_⟩
    conv => whnf
    exact hR _ _ rfl
  · conv => whnf
    refine ⟨fun z => absurd (hd.symm.trans z) (by decide), fun _ => ?_⟩
    conv => whnf
    refine ⟨fun z => absurd z (cIn (k := 1) (by decide)), fun _ => ?_⟩
    conv => whnf
    exact hR _ _ rfl
theorem c_M_size_no (a x : Int32) (σ : Mem) (hd : σ 7 11 = 0) {N : Nat} {ln kd : Nat → Nat} (h : MP σ N ln kd) (q : ¬ Us N ln kd a) : MetO y_M_size mi_M_size [.inr (.inl 7), .inl a, .inl x] σ (.inl (some (.inl 0), st σ 7 0 2)) := by
  refine met_go ok_M_size ⟨rfl, rfl⟩ si_M_size (Nat.le_of_ble_eq_true rfl) ⟨trivial, trivial, trivial, trivial⟩ [] 60 (fun X hX K R1 T1 hK hR hT => ?_)
  conv => whnf
  refine ⟨N, ln, kd, h, fun e' he' => absurd he'.us q, fun _ => ?_⟩
  conv => whnf
  refine ⟨fun _ => ?_, fun z => absurd hd z⟩
  conv => whnf
  refine ⟨fun z => absurd z (cIn (k := 2) (by decide)), fun _ => ?_⟩
  conv => whnf
  refine ⟨fun z => absurd z (cIn (k := 2) (by decide)), fun _ => ?_⟩
  conv => whnf
  exact hR _ _ rfl
theorem c_M_size_ok (x : Int32) (σ : Mem) (hd : σ 7 11 = 0) {N : Nat} {ln kd : Nat → Nat} (h : MP σ N ln kd) {a : Int32} {e : Nat} (hu : Usd N ln kd e a) (v : Int32) (hv : (x = 0 → v = nI (ln e - 2)) ∧ (x ≠ 0 → v = nI (kd e - 1))) : MetO y_M_size mi_M_size [.inr (.inl 7), .inl a, .inl x] σ (.inl (some (.inl v), st σ 7 0 0)) := by
  have hN := h.1.N85
  have he := hu.1
  have g3 := h.1.ln3 he
  obtain ⟨m8, m9, m10, m11⟩ := h.2.2 e he
  refine met_go ok_M_size ⟨rfl, rfl⟩ si_M_size (Nat.le_of_ble_eq_true rfl) ⟨trivial, trivial, trivial, trivial⟩ [] 60 (fun X hX K R1 T1 hK hR hT => ?_)
  conv => whnf
  refine ⟨N, ln, kd, h, fun e' he' => ?_, fun q => absurd hu.us q⟩
  obtain rfl := h.1.uniq he' hu
  conv => whnf
  refine ⟨fun _ => ?_, fun z => absurd hd z⟩
  conv => whnf
  refine ⟨fun _ => ?_, fun z => absurd (nI_0le (by omega)) z⟩
  conv => whnf
  refine ⟨fun _ => ?_, fun z => absurd c0n z⟩
  conv => whnf
  refine ⟨fun z => ?_, fun z => ?_⟩
  · conv => whnf
    refine ⟨vp_in_nI (by omega) (by decide), ?_⟩
    rw [nI_clamp (by omega)]
    have m11 : st σ 7 0 (nI 0) 11 e' = nI (kd e' - 1) := m11 hu.2.1
    rw [m11]
    conv => whnf
    refine hR _ _ ?_
    rw [hv.2 z]; rfl
  · conv => whnf
    refine ⟨vp_in_nI (by omega) (by decide), ?_⟩
    rw [nI_clamp (by omega)]
    have m9 : st σ 7 0 (nI 0) 9 e' = nI (ln e') := m9
    rw [m9]
    conv => whnf
    refine hR _ _ ?_
    rw [hv.1 z, ← pk_sub (by omega)]; rfl
def mi_M_load : MI := (b_M_load, 4, "RootedWordsModel", some .int, 1, tbl_of 63 f_M_load, fl_M, [(67, (7, 1, ct_M_at)), (73, (7, 2, ct_M_isWord))], [])
theorem ok_M_load : MOK mi_M_load := ⟨tbl_ok k_M_load, flok_M rfl, List.forall_mem_cons.mpr ⟨okV 2 (by decide) s_M_at rfl (Nat.le_of_ble_eq_true rfl) (Nat.le_of_ble_eq_true rfl) (by decide +kernel) lk_M_67 vv_M_at, List.forall_mem_cons.mpr ⟨okV 2 (by decide) s_M_isWord rfl (Nat.le_of_ble_eq_true rfl) (Nat.le_of_ble_eq_true rfl) (by decide +kernel) lk_M_73 vv_M_isWord, (fun _ h => absurd h List.not_mem_nil)⟩⟩⟩
theorem si_M_load : ∀ q ∈ m_tr mi_M_load, SiteF mi_M_load q := (fun _ h => absurd h List.not_mem_nil)
theorem c_M_load_down (a x : Int32) (σ : Mem) (hd : σ 7 11 = 1) {N : Nat} {ln kd : Nat → Nat} (h : MP σ N ln kd) : MetO y_M_load mi_M_load [.inr (.inl 7), .inl a, .inl x] σ (.inl (some (.inl 0), st σ 7 0 1)) := by
  refine met_go ok_M_load ⟨rfl, rfl⟩ si_M_load (Nat.le_of_ble_eq_true rfl) ⟨trivial, trivial, trivial, trivial⟩ [] 60 (fun X hX K R1 T1 hK hR hT => ?_)
  conv => whnf
  refine ⟨N, ln, kd, h, fun e' he' => ?_, fun q => ?_⟩
  · conv => whnf
    refine ⟨fun z => absurd (hd.symm.trans z) (by decide), fun _ => ?_⟩
    conv => whnf
    refine ⟨fun z => absurd z (cIn (k := 1) (by decide)), fun _ => ?_⟩
    conv => whnf
    exact hR _ _ rfl
  · conv => whnf
    refine ⟨fun z => absurd (hd.symm.trans z) (by decide), fun _ => ?_⟩
    conv => whnf
    refine ⟨fun z => absurd z (cIn (k := 1) (by decide)), fun _ => ?_⟩
    conv => whnf
    exact hR _ _ rfl
theorem c_M_load_no (a x : Int32) (σ : Mem) (hd : σ 7 11 = 0) {N : Nat} {ln kd : Nat → Nat} (h : MP σ N ln kd) (q : ¬ Us N ln kd a) : MetO y_M_load mi_M_load [.inr (.inl 7), .inl a, .inl x] σ (.inl (some (.inl 0), st σ 7 0 2)) := by
  refine met_go ok_M_load ⟨rfl, rfl⟩ si_M_load (Nat.le_of_ble_eq_true rfl) ⟨trivial, trivial, trivial, trivial⟩ [] 60 (fun X hX K R1 T1 hK hR hT => ?_)
  conv => whnf
  refine ⟨N, ln, kd, h, fun e' he' => absurd he'.us q, fun _ => ?_⟩
  conv => whnf
  refine ⟨fun _ => ?_, fun z => absurd hd z⟩
  conv => whnf
  refine ⟨fun z => absurd z (cIn (k := 2) (by decide)), fun _ => ?_⟩
  conv => whnf
  refine ⟨fun z => absurd z (cIn (k := 2) (by decide)), fun _ => ?_⟩
  conv => whnf
  exact hR _ _ rfl
theorem c_M_load_word (x : Int32) (σ : Mem) (hd : σ 7 11 = 0) {N : Nat} {ln kd : Nat → Nat} (h : MP σ N ln kd) {a : Int32} {e : Nat} (hu : Usd N ln kd e a) (q : ¬ wd_ok x (ln e)) : MetO y_M_load mi_M_load [.inr (.inl 7), .inl a, .inl x] σ (.inl (some (.inl 0), st σ 7 0 3)) := by
  have hN := h.1.N85
  have he := hu.1
  refine met_go ok_M_load ⟨rfl, rfl⟩ si_M_load (Nat.le_of_ble_eq_true rfl) ⟨trivial, trivial, trivial, trivial⟩ [] 60 (fun X hX K R1 T1 hK hR hT => ?_)
  conv => whnf
  refine ⟨N, ln, kd, h, fun e' he' => ?_, fun q => absurd hu.us q⟩
  obtain rfl := h.1.uniq he' hu
  conv => whnf
  refine ⟨fun _ => ?_, fun z => absurd hd z⟩
  conv => whnf
  refine ⟨fun _ => ?_, fun z => absurd (nI_0le (by omega)) z⟩
  conv => whnf
  refine ⟨N, ln, kd, e', x, rfl, h, he, fun z => absurd z q, fun _ => ?_⟩
  conv => whnf
  refine ⟨fun _ => ?_, fun z => absurd rfl z⟩
  conv => whnf
  refine ⟨fun z => absurd z (cIn (k := 3) (by decide)), fun _ => ?_⟩
  conv => whnf
  exact hR _ _ rfl
theorem c_M_load_ok (j : Nat) (σ : Mem) (hd : σ 7 11 = 0) {N : Nat} {ln kd : Nat → Nat} (h : MP σ N ln kd) {e : Nat} (he : e < N) (hk : kd e ≠ 0) (q : j < ln e - 2) : MetO y_M_load mi_M_load [.inr (.inl 7), .inl (nI (pos ln e + 1)), .inl (nI j)] σ (.inl (some (.inl (σ 13 (pos ln e + 1 + j))), st σ 7 0 0)) := by
  have hN := h.1.N85
  have g := h.1.lt he
  have g4 := h.1.end he
  have hu : Usd N ln kd e (nI (pos ln e + 1)) := ⟨he, hk, rfl⟩
  have e1 : nI (pos ln e + 1) + nI j = nI (pos ln e + 1 + j) := nI_add _ _
  refine met_go ok_M_load ⟨rfl, rfl⟩ si_M_load (Nat.le_of_ble_eq_true rfl) ⟨trivial, trivial, trivial, trivial⟩ [] 60 (fun X hX K R1 T1 hK hR hT => ?_)
  conv => whnf
  refine ⟨N, ln, kd, h, fun e' he' => ?_, fun q => absurd hu.us q⟩
  obtain rfl := h.1.uniq he' hu
  conv => whnf
  refine ⟨fun _ => ?_, fun z => absurd hd z⟩
  conv => whnf
  refine ⟨fun _ => ?_, fun z => absurd (nI_0le (by omega)) z⟩
  conv => whnf
  refine ⟨N, ln, kd, e', nI j, rfl, h, he, fun _ => ?_, fun z => absurd (wd_okN q (by omega)) z⟩
  conv => whnf
  refine ⟨fun z => absurd z (by decide), fun _ => ?_⟩
  conv => whnf
  refine ⟨fun _ => ?_, fun z => absurd c0n z⟩
  conv => whnf
  rw [e1]
  refine ⟨vp_in_nI (by omega) (by decide), ?_⟩
  rw [nI_clamp (by omega)]
  conv => whnf
  exact hR _ _ rfl
def mi_M_freeWords : MI := (b_M_freeWords, 3, "RootedWordsModel", some .int, 0, tbl_of 67 f_M_freeWords, fl_M, [], [])
theorem ok_M_freeWords : MOK mi_M_freeWords := ⟨tbl_ok k_M_freeWords, flok_M rfl, (fun _ h => absurd h List.not_mem_nil)⟩
theorem si_M_freeWords : ∀ q ∈ m_tr mi_M_freeWords, SiteF mi_M_freeWords q := (fun _ h => absurd h List.not_mem_nil)
theorem c_M_freeWords_down (σ : Mem) (hd : σ 7 11 = 1) {N : Nat} {ln kd : Nat → Nat} (h : MP σ N ln kd) : MetO y_M_freeWords mi_M_freeWords [.inr (.inl 7)] σ (.inl (some (.inl 0), st σ 7 0 1)) := by
  have hN := h.1.N85
  have hN1 := h.1.pos1
  refine met_go ok_M_freeWords ⟨rfl, rfl⟩ si_M_freeWords (Nat.le_of_ble_eq_true rfl) ⟨trivial, trivial⟩ [] 60 (fun X hX K R1 T1 hK hR hT => ?_)
  conv => whnf
  refine ⟨fun z => absurd (hd.symm.trans z) (by decide), fun _ => ?_⟩
  conv => whnf
  have m : st σ 7 0 (nI 1) 7 1 = nI N := h.2.1
  rw [m]
  refine ⟨fun z => absurd z (nI_ge (a := 0) (by omega) (by omega)), fun _ => ?_⟩
  conv => whnf
  refine ⟨fun _ => ?_, fun z => absurd z (show ¬ nI 1 = 0 by decide)⟩
  conv => whnf
  exact hR _ _ rfl
theorem c_M_freeWords_loop {X : CT} {oc : OC} (hX : CxO X mi_M_freeWords oc) {σ : Mem} {N : Nat} {ln kd : Nat → Nat} (h : MP σ N ln kd) (hc : σ 7 0 = 0) (ho : oc = .inl (some (.inl (nI (fsum ln kd N))), σ)) : ∀ (n i : Nat), i + n = N →
    Go X mi_M_freeWords 20 [some (.inr (.inl 7)), some (.inl (nI (fsum ln kd i))), some (.inl (nI i))] [] σ := by
  intro n
  have hN := h.1.N85
  induction n with
  | zero =>
    intro i hi
    obtain rfl : i = N := by omega
    refine Go_run ok_M_freeWords hX [20] 60 (fun K R1 T1 hK hR hT => ?_)
    conv => whnf
    rw [h.2.1]
    refine ⟨fun _ => ?_, fun h1 => absurd (nI_le (Nat.le_refl _) (by omega)) h1⟩
    conv => whnf
    exact hR _ _ ho
  | succ n ih =>
    intro i hi
    have hi' : i < N := by omega
    have g1 := h.1.lt hi'
    have g3 := h.1.ln3 hi'
    obtain ⟨m8, m9, m10, m11⟩ := h.2.2 i hi'
    have e2 : nI i + nI 1 = nI (i + 1) := nI_add i 1
    have h9 := ih (i + 1) (by omega)
    unfold fsum at h9
    refine Go_run ok_M_freeWords hX [20] 60 (fun K R1 T1 hK hR hT => ?_)
    conv => whnf
    rw [h.2.1]
    refine ⟨fun h2 => absurd h2 (nI_ge hi' (by omega)), fun _ => ?_⟩
    conv => whnf
    refine ⟨fun h2 => absurd hc h2, fun _ => ?_⟩
    conv => whnf
    refine ⟨vp_in_nI (by omega) (by decide), ?_⟩
    rw [nI_clamp (by omega), m10]
    conv => whnf
    refine ⟨fun h3 => ?_, fun h3 => ?_⟩
    · conv => whnf
      refine ⟨vp_in_nI (by omega) (by decide), ?_⟩
      rw [nI_clamp (by omega), m9]
      conv => whnf
      refine hK _ _ _ _ ?_
      show Go X mi_M_freeWords 20 [some (.inr (.inl 7)), some (.inl (nI (fsum ln kd i) + nI (ln i) - nI 2)), some (.inl (nI i + nI 1))] [] σ
      rw [if_pos (ub_0.mp h3)] at h9
      rw [e2, nI_add, pk_sub (by omega), Nat.add_sub_assoc (by omega)]
      exact h9
    · conv => whnf
      refine hK _ _ _ _ ?_
      show Go X mi_M_freeWords 20 [some (.inr (.inl 7)), some (.inl (nI (fsum ln kd i))), some (.inl (nI i + nI 1))] [] σ
      rw [if_neg (fun z => h3 (ub_0.mpr z))] at h9
      rw [e2]
      exact h9
theorem c_M_freeWords_up (σ : Mem) (hd : σ 7 11 = 0) {N : Nat} {ln kd : Nat → Nat} (h : MP σ N ln kd) : MetO y_M_freeWords mi_M_freeWords [.inr (.inl 7)] σ (.inl (some (.inl (nI (fsum ln kd N))), st σ 7 0 0)) := by
  refine met_go ok_M_freeWords ⟨rfl, rfl⟩ si_M_freeWords (Nat.le_of_ble_eq_true rfl) ⟨trivial, trivial⟩ [20] 60 (fun X hX K R1 T1 hK hR hT => ?_)
  conv => whnf
  refine ⟨fun _ => ?_, fun z => absurd hd z⟩
  conv => whnf
  exact hK _ _ _ _ (c_M_freeWords_loop hX (h.st7 0 0 (by decide)) rfl rfl N 0 (by omega))
def mi_M_largestFree : MI := (b_M_largestFree, 3, "RootedWordsModel", some .int, 0, tbl_of 77 f_M_largestFree, fl_M, [], [])
theorem ok_M_largestFree : MOK mi_M_largestFree := ⟨tbl_ok k_M_largestFree, flok_M rfl, (fun _ h => absurd h List.not_mem_nil)⟩
theorem si_M_largestFree : ∀ q ∈ m_tr mi_M_largestFree, SiteF mi_M_largestFree q := (fun _ h => absurd h List.not_mem_nil)
theorem fmax_le' {N : Nat} {ln kd : Nat → Nat} (h : HL N ln kd) : ∀ i, i ≤ N → fmax ln kd i ≤ 256
  | 0, _ => Nat.zero_le _
  | i + 1, hi => by
    have h1 := fmax_le' h i (by omega)
    have h2 := h.lt (i := i) (by omega)
    unfold fmax
    split
    · exact Nat.max_le.mpr ⟨h1, by omega⟩
    · exact h1
theorem c_M_largestFree_down (σ : Mem) (hd : σ 7 11 = 1) {N : Nat} {ln kd : Nat → Nat} (h : MP σ N ln kd) : MetO y_M_largestFree mi_M_largestFree [.inr (.inl 7)] σ (.inl (some (.inl 0), st σ 7 0 1)) := by
  have hN := h.1.N85
  have hN1 := h.1.pos1
  refine met_go ok_M_largestFree ⟨rfl, rfl⟩ si_M_largestFree (Nat.le_of_ble_eq_true rfl) ⟨trivial, trivial⟩ [] 60 (fun X hX K R1 T1 hK hR hT => ?_)
  conv => whnf
  refine ⟨fun z => absurd (hd.symm.trans z) (by decide), fun _ => ?_⟩
  conv => whnf
  have m : st σ 7 0 (nI 1) 7 1 = nI N := h.2.1
  rw [m]
  refine ⟨fun z => absurd z (nI_ge (a := 0) (by omega) (by omega)), fun _ => ?_⟩
  conv => whnf
  refine ⟨fun _ => ?_, fun z => absurd z (show ¬ nI 1 = 0 by decide)⟩
  conv => whnf
  exact hR _ _ rfl
theorem c_M_largestFree_loop {X : CT} {oc : OC} (hX : CxO X mi_M_largestFree oc) {σ : Mem} {N : Nat} {ln kd : Nat → Nat} (h : MP σ N ln kd) (hc : σ 7 0 = 0) (ho : oc = .inl (some (.inl (nI (fmax ln kd N))), σ)) : ∀ (n i : Nat), i + n = N →
    Go X mi_M_largestFree 20 [some (.inr (.inl 7)), some (.inl (nI (fmax ln kd i))), some (.inl (nI i))] [] σ := by
  intro n
  have hN := h.1.N85
  induction n with
  | zero =>
    intro i hi
    obtain rfl : i = N := by omega
    refine Go_run ok_M_largestFree hX [20] 60 (fun K R1 T1 hK hR hT => ?_)
    conv => whnf
    rw [h.2.1]
    refine ⟨fun _ => ?_, fun h1 => absurd (nI_le (Nat.le_refl _) (by omega)) h1⟩
    conv => whnf
    exact hR _ _ ho
  | succ n ih =>
    intro i hi
    have hi' : i < N := by omega
    have g1 := h.1.lt hi'
    have g3 := h.1.ln3 hi'
    obtain ⟨m8, m9, m10, m11⟩ := h.2.2 i hi'
    have e2 : nI i + nI 1 = nI (i + 1) := nI_add i 1
    have h9 := ih (i + 1) (by omega)
    unfold fmax at h9
    refine Go_run ok_M_largestFree hX [20] 60 (fun K R1 T1 hK hR hT => ?_)
    conv => whnf
    rw [h.2.1]
    refine ⟨fun h2 => absurd h2 (nI_ge hi' (by omega)), fun _ => ?_⟩
    conv => whnf
    refine ⟨fun h2 => absurd hc h2, fun _ => ?_⟩
    conv => whnf
    refine ⟨vp_in_nI (by omega) (by decide), ?_⟩
    rw [nI_clamp (by omega), m10]
    conv => whnf
    have g4 : fmax ln kd i ≤ 256 := fmax_le' h.1 i (by omega)
    refine ⟨fun h3 => ?_, fun h3 => ?_⟩
    · conv => whnf
      refine hK _ _ _ _ ?_
      show Go X mi_M_largestFree 20 [some (.inr (.inl 7)), some (.inl (nI (fmax ln kd i))), some (.inl (nI i + nI 1))] [] σ
      rw [if_neg (fun z => h3 (ub_0.mpr z))] at h9
      rw [e2]
      exact h9
    · have h4 : kd i = 0 := ub_0.mp h3
      rw [if_pos h4] at h9
      conv => whnf
      refine ⟨vp_in_nI (by omega) (by decide), ?_⟩
      rw [nI_clamp (by omega), m9]
      conv => whnf
      rw [pk_sub (a := ln i) (b := 2) (by omega)]
      refine ⟨fun z => ?_, fun z => ?_⟩
      · conv => whnf
        have z1 := (nI_leI (by omega) (by omega)).mp z
        refine hK _ _ _ _ ?_
        show Go X mi_M_largestFree 20 [some (.inr (.inl 7)), some (.inl (nI (fmax ln kd i))), some (.inl (nI i + nI 1))] [] σ
        rw [Nat.max_eq_left z1] at h9
        rw [e2]
        exact h9
      · conv => whnf
        have z1 := (not_congr (nI_leI (a := ln i - 2) (b := fmax ln kd i) (by omega) (by omega))).mp z
        refine ⟨vp_in_nI (by omega) (by decide), ?_⟩
        rw [nI_clamp (by omega), m9]
        conv => whnf
        refine hK _ _ _ _ ?_
        show Go X mi_M_largestFree 20 [some (.inr (.inl 7)), some (.inl (nI (ln i) - nI 2)), some (.inl (nI i + nI 1))] [] σ
        rw [Nat.max_eq_right (by omega)] at h9
        rw [e2, pk_sub (by omega)]
        exact h9
theorem c_M_largestFree_up (σ : Mem) (hd : σ 7 11 = 0) {N : Nat} {ln kd : Nat → Nat} (h : MP σ N ln kd) : MetO y_M_largestFree mi_M_largestFree [.inr (.inl 7)] σ (.inl (some (.inl (nI (fmax ln kd N))), st σ 7 0 0)) := by
  refine met_go ok_M_largestFree ⟨rfl, rfl⟩ si_M_largestFree (Nat.le_of_ble_eq_true rfl) ⟨trivial, trivial⟩ [20] 60 (fun X hX K R1 T1 hK hR hT => ?_)
  conv => whnf
  refine ⟨fun _ => ?_, fun z => absurd hd z⟩
  conv => whnf
  exact hK _ _ _ _ (c_M_largestFree_loop hX (h.st7 0 0 (by decide)) rfl rfl N 0 (by omega))
