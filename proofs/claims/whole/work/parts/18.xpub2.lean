/-! ===== the class: its face, second half ===== -/
def mi_X_load : MI := (b_X_load, 3, "RootedWords", some .int, 5, tbl_of 26 f_X_load, fl_X, [(34, (0, 0, ct_X_refuseWhenDown)), (69, (0, 1, ct_X_refuseUnlessUsed)), (79, (0, 2, ct_X_refuseUnlessWord)), (90, (1, 1, ct_D_word))], [])
theorem ok_X_load : MOK mi_X_load := ⟨tbl_ok k_X_load, flok_X rfl, List.forall_mem_cons.mpr ⟨okV 0 (by decide) s_X_refuseWhenDown rfl (Nat.le_of_ble_eq_true rfl) (Nat.le_of_ble_eq_true rfl) (by decide +kernel) lk_X_34 vv_X_refuseWhenDown, List.forall_mem_cons.mpr ⟨okV 0 (by decide) s_X_refuseUnlessUsed rfl (Nat.le_of_ble_eq_true rfl) (Nat.le_of_ble_eq_true rfl) (by decide +kernel) lk_X_69 vv_X_refuseUnlessUsed, List.forall_mem_cons.mpr ⟨okV 0 (by decide) s_X_refuseUnlessWord rfl (Nat.le_of_ble_eq_true rfl) (Nat.le_of_ble_eq_true rfl) (by decide +kernel) lk_X_79 vv_X_refuseUnlessWord, List.forall_mem_cons.mpr ⟨okV 1 (by decide) s_D_word rfl (Nat.le_of_ble_eq_true rfl) (Nat.le_of_ble_eq_true rfl) (by decide +kernel) lk_X_90 vv_D_word, (fun _ h => absurd h List.not_mem_nil)⟩⟩⟩⟩⟩
theorem si_X_load : ∀ q ∈ m_tr mi_X_load, SiteF mi_X_load q := (fun _ h => absurd h List.not_mem_nil)
theorem c_X_load_down (a i : Int32) (σ : Mem) (h : σ 1 4 = 1) : MetO y_X_load mi_X_load [.inr (.inl 0), .inl a, .inl i] σ (.inr (eIS, σ)) := by
  refine met_go ok_X_load ⟨rfl, rfl⟩ si_X_load (Nat.le_of_ble_eq_true rfl) ⟨trivial, trivial, trivial, trivial⟩ [] 60 (fun X hX K R1 T1 hK hR hT => ?_)
  conv => whnf
  refine ⟨Or.inr h, fun _ => ?_, fun h1 => absurd (h.symm.trans h1) (by decide)⟩
  exact hT _ _ _ rfl
theorem c_X_load_no (a i : Int32) (σ : Mem) (h : σ 1 4 = 0) {N : Nat} {ln kd : Nat → Nat} (hp : HP (σ 2) N ln kd) (q : ¬ Us N ln kd a) : MetO y_X_load mi_X_load [.inr (.inl 0), .inl a, .inl i] σ (.inr (eNE, lsF σ ln N)) := by
  refine met_go ok_X_load ⟨rfl, rfl⟩ si_X_load (Nat.le_of_ble_eq_true rfl) ⟨trivial, trivial, trivial, trivial⟩ [] 60 (fun X hX K R1 T1 hK hR hT => ?_)
  conv => whnf
  refine ⟨Or.inl h, fun h1 => absurd (h.symm.trans h1) (by decide), fun _ => ?_⟩
  conv => whnf
  refine ⟨N, ln, kd, hp, fun _ => ?_, fun h1 => absurd h1 q⟩
  exact hT _ _ _ rfl
theorem c_X_load_word (i : Int32) (σ : Mem) (h : σ 1 4 = 0) {N : Nat} {ln kd : Nat → Nat} (hp : HP (σ 2) N ln kd) {e : Nat} (he : e < N) (hk : kd e ≠ 0) (q : ¬ wd_ok i (ln e)) : MetO y_X_load mi_X_load [.inr (.inl 0), .inl (nI (pos ln e + 1)), .inl i] σ (.inr (eIO, lsF σ ln N)) := by
  have g3 := hp.ln3 he
  refine met_go ok_X_load ⟨rfl, rfl⟩ si_X_load (Nat.le_of_ble_eq_true rfl) ⟨trivial, trivial, trivial, trivial⟩ [] 60 (fun X hX K R1 T1 hK hR hT => ?_)
  conv => whnf
  refine ⟨Or.inl h, fun h1 => absurd (h.symm.trans h1) (by decide), fun _ => ?_⟩
  conv => whnf
  refine ⟨N, ln, kd, hp, fun h1 => absurd ⟨e, he, hk, rfl⟩ h1, fun _ => ?_⟩
  conv => whnf
  refine ⟨pos ln e, ln e, kd e, i, rfl, tg_of (w := σ 2) hp he, by omega, fun _ => ?_, fun h1 => absurd h1 q⟩
  exact hT _ _ _ rfl
theorem wd_nat {i : Int32} {n : Nat} (h : wd_ok i n) (hn : n < 1000) : ∃ j, j < n - 2 ∧ i = nI j := by
  obtain ⟨j, hj, e⟩ := nI_of h.1
  refine ⟨j, ?_, e⟩
  have := h.2
  rw [e] at this
  exact (nI_ltI hj (by omega)).mp this
theorem wd_okN {j n : Nat} (h : j < n - 2) (hn : n < 1000) : wd_ok (nI j) n := ⟨nI_pos (by omega), nI_lt h (by omega)⟩
theorem c_X_load_ok (j : Nat) (σ : Mem) (h : σ 1 4 = 0) {N : Nat} {ln kd : Nat → Nat} (hp : HP (σ 2) N ln kd) {e : Nat} (he : e < N) (hk : kd e ≠ 0) (q : j < ln e - 2) : MetO y_X_load mi_X_load [.inr (.inl 0), .inl (nI (pos ln e + 1)), .inl (nI j)] σ (.inl (some (.inl (σ 2 (pos ln e + 1 + j))), lsF σ ln N)) := by
  have g3 := hp.ln3 he
  have g := hp.lt he
  have g4 := hp.end he
  have e1 : nI (pos ln e + 1) + nI j = nI (pos ln e + 1 + j) := nI_add _ _
  refine met_go ok_X_load ⟨rfl, rfl⟩ si_X_load (Nat.le_of_ble_eq_true rfl) ⟨trivial, trivial, trivial, trivial⟩ [] 60 (fun X hX K R1 T1 hK hR hT => ?_)
  conv => whnf
  refine ⟨Or.inl h, fun h1 => absurd (h.symm.trans h1) (by decide), fun _ => ?_⟩
  conv => whnf
  refine ⟨N, ln, kd, hp, fun h1 => absurd ⟨e, he, hk, rfl⟩ h1, fun _ => ?_⟩
  conv => whnf
  refine ⟨pos ln e, ln e, kd e, nI j, rfl, tg_of (w := σ 2) hp he, by omega, fun h1 => absurd (wd_okN q (by omega)) h1, fun _ => ?_⟩
  conv => whnf
  rw [e1]
  refine ⟨vp_in_nI (by omega) (by decide), ?_⟩
  rw [nI_clamp (by omega)]
  conv => whnf
  exact hR _ _ rfl
def mi_X_size : MI := (b_X_size, 3, "RootedWords", some .int, 5, tbl_of 31 f_X_size, fl_X, [(34, (0, 0, ct_X_refuseWhenDown)), (69, (0, 1, ct_X_refuseUnlessUsed)), (82, (0, 1, ct_X_pointersAt)), (96, (0, 1, ct_X_contentAt))], [])
theorem ok_X_size : MOK mi_X_size := ⟨tbl_ok k_X_size, flok_X rfl, List.forall_mem_cons.mpr ⟨okV 0 (by decide) s_X_refuseWhenDown rfl (Nat.le_of_ble_eq_true rfl) (Nat.le_of_ble_eq_true rfl) (by decide +kernel) lk_X_34 vv_X_refuseWhenDown, List.forall_mem_cons.mpr ⟨okV 0 (by decide) s_X_refuseUnlessUsed rfl (Nat.le_of_ble_eq_true rfl) (Nat.le_of_ble_eq_true rfl) (by decide +kernel) lk_X_69 vv_X_refuseUnlessUsed, List.forall_mem_cons.mpr ⟨okV 0 (by decide) s_X_pointersAt rfl (Nat.le_of_ble_eq_true rfl) (Nat.le_of_ble_eq_true rfl) (by decide +kernel) lk_X_82 vv_X_pointersAt, List.forall_mem_cons.mpr ⟨okV 0 (by decide) s_X_contentAt rfl (Nat.le_of_ble_eq_true rfl) (Nat.le_of_ble_eq_true rfl) (by decide +kernel) lk_X_96 vv_X_contentAt, (fun _ h => absurd h List.not_mem_nil)⟩⟩⟩⟩⟩
theorem si_X_size : ∀ q ∈ m_tr mi_X_size, SiteF mi_X_size q := (fun _ h => absurd h List.not_mem_nil)
theorem c_X_size_down (a x : Int32) (σ : Mem) (h : σ 1 4 = 1) : MetO y_X_size mi_X_size [.inr (.inl 0), .inl a, .inl x] σ (.inr (eIS, σ)) := by
  refine met_go ok_X_size ⟨rfl, rfl⟩ si_X_size (Nat.le_of_ble_eq_true rfl) ⟨trivial, trivial, trivial, trivial⟩ [] 60 (fun X hX K R1 T1 hK hR hT => ?_)
  conv => whnf
  refine ⟨Or.inr h, fun _ => ?_, fun h1 => absurd (h.symm.trans h1) (by decide)⟩
  exact hT _ _ _ rfl
theorem c_X_size_no (a x : Int32) (σ : Mem) (h : σ 1 4 = 0) {N : Nat} {ln kd : Nat → Nat} (hp : HP (σ 2) N ln kd) (q : ¬ Us N ln kd a) : MetO y_X_size mi_X_size [.inr (.inl 0), .inl a, .inl x] σ (.inr (eNE, lsF σ ln N)) := by
  refine met_go ok_X_size ⟨rfl, rfl⟩ si_X_size (Nat.le_of_ble_eq_true rfl) ⟨trivial, trivial, trivial, trivial⟩ [] 60 (fun X hX K R1 T1 hK hR hT => ?_)
  conv => whnf
  refine ⟨Or.inl h, fun h1 => absurd (h.symm.trans h1) (by decide), fun _ => ?_⟩
  conv => whnf
  refine ⟨N, ln, kd, hp, fun _ => ?_, fun h1 => absurd h1 q⟩
  exact hT _ _ _ rfl
theorem c_X_size_ok (x : Int32) (σ : Mem) (h : σ 1 4 = 0) {N : Nat} {ln kd : Nat → Nat} (hp : HP (σ 2) N ln kd) {e : Nat} (he : e < N) (hk : kd e ≠ 0) (v : Int32) (hv : (x = 0 → v = nI (ln e - 2)) ∧ (x ≠ 0 → v = nI (kd e - 1))) : MetO y_X_size mi_X_size [.inr (.inl 0), .inl (nI (pos ln e + 1)), .inl x] σ (.inl (some (.inl v), lsF σ ln N)) := by
  have g3 := hp.ln3 he
  have g := hp.lt he
  refine met_go ok_X_size ⟨rfl, rfl⟩ si_X_size (Nat.le_of_ble_eq_true rfl) ⟨trivial, trivial, trivial, trivial⟩ [] 60 (fun X hX K R1 T1 hK hR hT => ?_)
  conv => whnf
  refine ⟨Or.inl h, fun h1 => absurd (h.symm.trans h1) (by decide), fun _ => ?_⟩
  conv => whnf
  refine ⟨N, ln, kd, hp, fun h1 => absurd ⟨e, he, hk, rfl⟩ h1, fun _ => ?_⟩
  conv => whnf
  refine ⟨fun h1 => ?_, fun h1 => ?_⟩
  · conv => whnf
    refine ⟨pos ln e, ln e, kd e, congrArg (fun x => [(.inl x : AV)]) (nI_pred _), tg_of (w := σ 2) hp he, by omega, ?_⟩
    conv => whnf
    exact hR _ _ (by rw [hv.2 h1])
  · conv => whnf
    refine ⟨pos ln e, ln e, kd e, congrArg (fun x => [(.inl x : AV)]) (nI_pred _), tg_of (w := σ 2) hp he, by omega, ?_⟩
    conv => whnf
    exact hR _ _ (by rw [hv.1 h1])
def mi_X_store : MI := (b_X_store, 5, "RootedWords", some .int, 5, tbl_of 71 f_X_store, fl_X, [(34, (0, 0, ct_X_refuseWhenDown)), (69, (0, 1, ct_X_refuseUnlessUsed)), (79, (0, 2, ct_X_refuseUnlessWord)), (82, (0, 1, ct_X_pointersAt)), (85, (0, 1, ct_X_isUsedAddress)), (90, (1, 1, ct_D_word)), (93, (0, 2, ct_X_changeWord))], [(38, "java/lang/IllegalArgumentException")])
theorem ok_X_store : MOK mi_X_store := ⟨tbl_ok k_X_store, flok_X rfl, List.forall_mem_cons.mpr ⟨okV 0 (by decide) s_X_refuseWhenDown rfl (Nat.le_of_ble_eq_true rfl) (Nat.le_of_ble_eq_true rfl) (by decide +kernel) lk_X_34 vv_X_refuseWhenDown, List.forall_mem_cons.mpr ⟨okV 0 (by decide) s_X_refuseUnlessUsed rfl (Nat.le_of_ble_eq_true rfl) (Nat.le_of_ble_eq_true rfl) (by decide +kernel) lk_X_69 vv_X_refuseUnlessUsed, List.forall_mem_cons.mpr ⟨okV 0 (by decide) s_X_refuseUnlessWord rfl (Nat.le_of_ble_eq_true rfl) (Nat.le_of_ble_eq_true rfl) (by decide +kernel) lk_X_79 vv_X_refuseUnlessWord, List.forall_mem_cons.mpr ⟨okV 0 (by decide) s_X_pointersAt rfl (Nat.le_of_ble_eq_true rfl) (Nat.le_of_ble_eq_true rfl) (by decide +kernel) lk_X_82 vv_X_pointersAt, List.forall_mem_cons.mpr ⟨okV 0 (by decide) s_X_isUsedAddress rfl (Nat.le_of_ble_eq_true rfl) (Nat.le_of_ble_eq_true rfl) (by decide +kernel) lk_X_85 vv_X_isUsedAddress, List.forall_mem_cons.mpr ⟨okV 1 (by decide) s_D_word rfl (Nat.le_of_ble_eq_true rfl) (Nat.le_of_ble_eq_true rfl) (by decide +kernel) lk_X_90 vv_D_word, List.forall_mem_cons.mpr ⟨okV 0 (by decide) s_X_changeWord rfl (Nat.le_of_ble_eq_true rfl) (Nat.le_of_ble_eq_true rfl) (by decide +kernel) lk_X_93 vv_X_changeWord, (fun _ h => absurd h List.not_mem_nil)⟩⟩⟩⟩⟩⟩⟩⟩
theorem si_X_store : ∀ q ∈ m_tr mi_X_store, SiteF mi_X_store q := List.forall_mem_cons.mpr ⟨⟨37, 88, 41, "a pointer is 0 or a used address", ⟨by decide +kernel, by decide +kernel, by decide +kernel, by decide +kernel, by decide +kernel⟩, by decide +kernel, Or.inl th_X_37⟩, (fun _ h => absurd h List.not_mem_nil)⟩
theorem c_X_store_down (a i w : Int32) (σ : Mem) (h : σ 1 4 = 1) : MetO y_X_store mi_X_store [.inr (.inl 0), .inl a, .inl i, .inl w] σ (.inr (eIS, σ)) := by
  refine met_go ok_X_store ⟨rfl, rfl⟩ si_X_store (Nat.le_of_ble_eq_true rfl) ⟨trivial, trivial, trivial, trivial, trivial⟩ [] 60 (fun X hX K R1 T1 hK hR hT => ?_)
  conv => whnf
  refine ⟨Or.inr h, fun _ => ?_, fun h1 => absurd (h.symm.trans h1) (by decide)⟩
  exact hT _ _ _ rfl
theorem c_X_store_no (a i w : Int32) (σ : Mem) (h : σ 1 4 = 0) {N : Nat} {ln kd : Nat → Nat} (hp : HP (σ 2) N ln kd) (q : ¬ Us N ln kd a) : MetO y_X_store mi_X_store [.inr (.inl 0), .inl a, .inl i, .inl w] σ (.inr (eNE, lsF σ ln N)) := by
  refine met_go ok_X_store ⟨rfl, rfl⟩ si_X_store (Nat.le_of_ble_eq_true rfl) ⟨trivial, trivial, trivial, trivial, trivial⟩ [] 60 (fun X hX K R1 T1 hK hR hT => ?_)
  conv => whnf
  refine ⟨Or.inl h, fun h1 => absurd (h.symm.trans h1) (by decide), fun _ => ?_⟩
  conv => whnf
  refine ⟨N, ln, kd, hp, fun _ => ?_, fun h1 => absurd h1 q⟩
  exact hT _ _ _ rfl
theorem c_X_store_word (i w : Int32) (σ : Mem) (h : σ 1 4 = 0) {N : Nat} {ln kd : Nat → Nat} (hp : HP (σ 2) N ln kd) {e : Nat} (he : e < N) (hk : kd e ≠ 0) (q : ¬ wd_ok i (ln e)) : MetO y_X_store mi_X_store [.inr (.inl 0), .inl (nI (pos ln e + 1)), .inl i, .inl w] σ (.inr (eIO, lsF σ ln N)) := by
  have g3 := hp.ln3 he
  refine met_go ok_X_store ⟨rfl, rfl⟩ si_X_store (Nat.le_of_ble_eq_true rfl) ⟨trivial, trivial, trivial, trivial, trivial⟩ [] 60 (fun X hX K R1 T1 hK hR hT => ?_)
  conv => whnf
  refine ⟨Or.inl h, fun h1 => absurd (h.symm.trans h1) (by decide), fun _ => ?_⟩
  conv => whnf
  refine ⟨N, ln, kd, hp, fun h1 => absurd ⟨e, he, hk, rfl⟩ h1, fun _ => ?_⟩
  conv => whnf
  refine ⟨pos ln e, ln e, kd e, i, rfl, tg_of (w := σ 2) hp he, by omega, fun _ => ?_, fun h1 => absurd h1 q⟩
  exact hT _ _ _ rfl
theorem c_X_store_ptr (j : Nat) (w : Int32) (σ : Mem) (h : σ 1 4 = 0) {N : Nat} {ln kd : Nat → Nat} (hp : HP (σ 2) N ln kd) {e : Nat} (he : e < N) (hk : kd e ≠ 0) (q : j < ln e - 2) (b : j + 1 < kd e ∧ w ≠ 0 ∧ ¬ Us N ln kd w) : MetO y_X_store mi_X_store [.inr (.inl 0), .inl (nI (pos ln e + 1)), .inl (nI j), .inl w] σ (.inr (eIA, lsF σ ln N)) := by
  have g3 := hp.ln3 he
  have g := hp.lt he
  refine met_go ok_X_store ⟨rfl, rfl⟩ si_X_store (Nat.le_of_ble_eq_true rfl) ⟨trivial, trivial, trivial, trivial, trivial⟩ [] 60 (fun X hX K R1 T1 hK hR hT => ?_)
  conv => whnf
  refine ⟨Or.inl h, fun h1 => absurd (h.symm.trans h1) (by decide), fun _ => ?_⟩
  conv => whnf
  refine ⟨N, ln, kd, hp, fun h1 => absurd ⟨e, he, hk, rfl⟩ h1, fun _ => ?_⟩
  conv => whnf
  refine ⟨pos ln e, ln e, kd e, nI j, rfl, tg_of (w := σ 2) hp he, by omega, fun h1 => absurd (wd_okN q (by omega)) h1, fun _ => ?_⟩
  conv => whnf
  refine ⟨pos ln e, ln e, kd e, congrArg (fun x => [(.inl x : AV)]) (nI_pred _), tg_of (w := σ 2) hp he, by omega, ?_⟩
  conv => whnf
  refine ⟨fun h1 => absurd h1 (nI_ge (by omega) (by omega)), fun _ => ?_⟩
  conv => whnf
  refine ⟨fun h1 => absurd h1 b.2.1, fun _ => ?_⟩
  conv => whnf
  refine ⟨N, ln, kd, hp, fun h1 => absurd h1 b.2.2, fun _ => ?_⟩
  conv => whnf
  refine ⟨fun h1 => absurd rfl h1, fun _ => ?_⟩
  conv => whnf
  refine hT _ _ _ ?_
  rw [lsF_lsF]; rfl
theorem c_X_store_end {X : CT} {oc : OC} (hX : CxO X mi_X_store oc) (j p : Nat) (w : Int32) (σ : Mem) (hpl : p + j < 265) (ho : oc = wou (pwF σ (p + j) w) (chgL (pwF σ (p + j) w 3) 1) (some (.inl (σ 2 (p + j))))) : Go X mi_X_store 48 [some (.inr (.inl 0)), some (.inl (nI p)), some (.inl (nI j)), some (.inl w), none] [] σ := by
  have e1 : nI p + nI j = nI (p + j) := nI_add _ _
  refine Go_run ok_X_store hX [] 60 (fun K R1 T1 hK hR hT => ?_)
  conv => whnf
  rw [e1]
  refine ⟨vp_in_nI (by omega) (by decide), ?_⟩
  rw [nI_clamp (by omega)]
  conv => whnf
  rw [e1]
  refine ⟨p + j, w, rfl, hpl, fun σ' h2 => ?_, fun σ' h2 => ?_⟩
  · conv => whnf
    refine hR _ _ ?_
    rw [ho]
    unfold wou
    rw [h2]; rfl
  · refine hT _ _ _ ?_
    rw [ho]
    unfold wou
    rw [h2]; rfl
theorem c_X_store_ok (j : Nat) (w : Int32) (σ : Mem) (h : σ 1 4 = 0) {N : Nat} {ln kd : Nat → Nat} (hp : HP (σ 2) N ln kd) {e : Nat} (he : e < N) (hk : kd e ≠ 0) (q : j < ln e - 2) (b : ¬ (j + 1 < kd e ∧ w ≠ 0 ∧ ¬ Us N ln kd w)) : MetO y_X_store mi_X_store [.inr (.inl 0), .inl (nI (pos ln e + 1)), .inl (nI j), .inl w] σ (wou (pwF (lsF σ ln N) (pos ln e + 1 + j) w) (chgL (pwF (lsF σ ln N) (pos ln e + 1 + j) w 3) 1) (some (.inl (σ 2 (pos ln e + 1 + j))))) := by
  have g3 := hp.ln3 he
  have g := hp.lt he
  have g4 := hp.end he
  refine met_go ok_X_store ⟨rfl, rfl⟩ si_X_store (Nat.le_of_ble_eq_true rfl) ⟨trivial, trivial, trivial, trivial, trivial⟩ [48] 60 (fun X hX K R1 T1 hK hR hT => ?_)
  have hend := c_X_store_end hX j (pos ln e + 1) w (lsF σ ln N) (by omega) rfl
  conv => whnf
  refine ⟨Or.inl h, fun h1 => absurd (h.symm.trans h1) (by decide), fun _ => ?_⟩
  conv => whnf
  refine ⟨N, ln, kd, hp, fun h1 => absurd ⟨e, he, hk, rfl⟩ h1, fun _ => ?_⟩
  conv => whnf
  refine ⟨pos ln e, ln e, kd e, nI j, rfl, tg_of (w := σ 2) hp he, by omega, fun h1 => absurd (wd_okN q (by omega)) h1, fun _ => ?_⟩
  conv => whnf
  refine ⟨pos ln e, ln e, kd e, congrArg (fun x => [(.inl x : AV)]) (nI_pred _), tg_of (w := σ 2) hp he, by omega, ?_⟩
  conv => whnf
  refine ⟨fun h1 => ?_, fun h1 => ?_⟩
  · conv => whnf
    exact hK _ _ _ _ hend
  conv => whnf
  refine ⟨fun h2 => ?_, fun h2 => ?_⟩
  · conv => whnf
    exact hK _ _ _ _ hend
  conv => whnf
  refine ⟨N, ln, kd, hp, fun h3 => ?_, fun h3 => ?_⟩
  · conv => whnf
    refine ⟨fun _ => ?_, fun h4 => absurd h4 (by decide)⟩
    conv => whnf
    refine hK _ _ _ _ ?_
    rw [lsF_lsF]; exact hend
  · have := (not_congr (nI_leI (a := kd e - 1) (b := j) (by omega) (by omega))).mp h1
    exact absurd ⟨by omega, h2, h3⟩ b
def mi_X_setRoot : MI := (b_X_setRoot, 4, "RootedWords", some .int, 5, tbl_of 36 f_X_setRoot, fl_X, [(34, (0, 0, ct_X_refuseWhenDown)), (69, (0, 1, ct_X_refuseUnlessUsed)), (93, (0, 2, ct_X_changeWord)), (99, (0, 1, ct_X_refuseUnlessRoot)), (102, (0, 1, ct_X_usedRoot))], [])
theorem ok_X_setRoot : MOK mi_X_setRoot := ⟨tbl_ok k_X_setRoot, flok_X rfl, List.forall_mem_cons.mpr ⟨okV 0 (by decide) s_X_refuseWhenDown rfl (Nat.le_of_ble_eq_true rfl) (Nat.le_of_ble_eq_true rfl) (by decide +kernel) lk_X_34 vv_X_refuseWhenDown, List.forall_mem_cons.mpr ⟨okV 0 (by decide) s_X_refuseUnlessUsed rfl (Nat.le_of_ble_eq_true rfl) (Nat.le_of_ble_eq_true rfl) (by decide +kernel) lk_X_69 vv_X_refuseUnlessUsed, List.forall_mem_cons.mpr ⟨okV 0 (by decide) s_X_changeWord rfl (Nat.le_of_ble_eq_true rfl) (Nat.le_of_ble_eq_true rfl) (by decide +kernel) lk_X_93 vv_X_changeWord, List.forall_mem_cons.mpr ⟨okV 0 (by decide) s_X_refuseUnlessRoot rfl (Nat.le_of_ble_eq_true rfl) (Nat.le_of_ble_eq_true rfl) (by decide +kernel) lk_X_99 vv_X_refuseUnlessRoot, List.forall_mem_cons.mpr ⟨okV 0 (by decide) s_X_usedRoot rfl (Nat.le_of_ble_eq_true rfl) (Nat.le_of_ble_eq_true rfl) (by decide +kernel) lk_X_102 vv_X_usedRoot, (fun _ h => absurd h List.not_mem_nil)⟩⟩⟩⟩⟩⟩
theorem si_X_setRoot : ∀ q ∈ m_tr mi_X_setRoot, SiteF mi_X_setRoot q := (fun _ h => absurd h List.not_mem_nil)
theorem c_X_setRoot_down (r w : Int32) (σ : Mem) (h : σ 1 4 = 1) : MetO y_X_setRoot mi_X_setRoot [.inr (.inl 0), .inl r, .inl w] σ (.inr (eIS, σ)) := by
  refine met_go ok_X_setRoot ⟨rfl, rfl⟩ si_X_setRoot (Nat.le_of_ble_eq_true rfl) ⟨trivial, trivial, trivial, trivial⟩ [] 60 (fun X hX K R1 T1 hK hR hT => ?_)
  conv => whnf
  refine ⟨Or.inr h, fun _ => ?_, fun h1 => absurd (h.symm.trans h1) (by decide)⟩
  exact hT _ _ _ rfl
theorem c_X_setRoot_no (r w : Int32) (σ : Mem) (h : σ 1 4 = 0) (hr : ¬ rt_ok r) : MetO y_X_setRoot mi_X_setRoot [.inr (.inl 0), .inl r, .inl w] σ (.inr (eIO, σ)) := by
  refine met_go ok_X_setRoot ⟨rfl, rfl⟩ si_X_setRoot (Nat.le_of_ble_eq_true rfl) ⟨trivial, trivial, trivial, trivial⟩ [] 60 (fun X hX K R1 T1 hK hR hT => ?_)
  conv => whnf
  refine ⟨Or.inl h, fun h1 => absurd (h.symm.trans h1) (by decide), fun _ => ?_⟩
  conv => whnf
  refine ⟨fun _ => ?_, fun h1 => absurd h1 hr⟩
  exact hT _ _ _ rfl
theorem c_X_setRoot_bad (j : Nat) (hj : j < 8) (w : Int32) (σ : Mem) (h : σ 1 4 = 0) {N : Nat} {ln kd : Nat → Nat} (hp : HP (σ 2) N ln kd) (hw : w ≠ 0) (q : ¬ Us N ln kd w) : MetO y_X_setRoot mi_X_setRoot [.inr (.inl 0), .inl (nI j), .inl w] σ (.inr (eNE, lsF σ ln N)) := by
  refine met_go ok_X_setRoot ⟨rfl, rfl⟩ si_X_setRoot (Nat.le_of_ble_eq_true rfl) ⟨trivial, trivial, trivial, trivial⟩ [] 60 (fun X hX K R1 T1 hK hR hT => ?_)
  conv => whnf
  refine ⟨Or.inl h, fun h1 => absurd (h.symm.trans h1) (by decide), fun _ => ?_⟩
  conv => whnf
  refine ⟨fun h1 => absurd (rt_okN hj) h1, fun _ => ?_⟩
  conv => whnf
  refine ⟨fun h1 => absurd h1 hw, fun _ => ?_⟩
  conv => whnf
  refine ⟨N, ln, kd, hp, fun _ => ?_, fun h1 => absurd h1 q⟩
  exact hT _ _ _ rfl
theorem c_X_setRoot_end {X : CT} {oc : OC} (hX : CxO X mi_X_setRoot oc) (j : Nat) (hj : j < 8) (w v : Int32) (σ : Mem) {N : Nat} {ln kd : Nat → Nat} (hp : HP (σ 2) N ln kd) (hv : (Us N ln kd (σ 2 (257 + j)) → v = σ 2 (257 + j)) ∧ (¬ Us N ln kd (σ 2 (257 + j)) → v = 0))
    (ho : oc = wou (pwF (lsF σ ln N) (257 + j) w) (chgL (pwF (lsF σ ln N) (257 + j) w 3) 1) (some (.inl v))) : Go X mi_X_setRoot 18 [some (.inr (.inl 0)), some (.inl (nI j)), some (.inl w), none] [] σ := by
  have e1 : nI 257 + nI j = nI (257 + j) := nI_add _ _
  have key : ∀ (K : Nat → List (Option AV) → List AV → Mem → Prop) (R1 : Option AV → Mem → Prop) (T1 : Nat → String → Mem → Prop), (∀ r σ, RtO oc r σ → R1 r σ) → (∀ pc E σ, ThO oc pc E σ → T1 pc E σ) → wpn mi_X_setRoot [] 50 23 [some (.inr (.inl 0)), some (.inl (nI j)), some (.inl w), none] [.inl v] (lsF σ ln N) K R1 T1 := by
    intro K R1 T1 hR hT
    conv => whnf
    rw [e1]
    refine ⟨257 + j, w, rfl, by omega, fun σ' h2 => ?_, fun σ' h2 => ?_⟩
    · conv => whnf
      refine hR _ _ ?_
      rw [ho]
      unfold wou
      rw [h2]; rfl
    · refine hT _ _ _ ?_
      rw [ho]
      unfold wou
      rw [h2]; rfl
  refine Go_run ok_X_setRoot hX [] 53 (fun K R1 T1 hK hR hT => ?_)
  conv => whnf
  refine ⟨j, N, ln, kd, rfl, hj, hp, fun q => ?_, fun q => ?_⟩
  · rw [← hv.1 q]
    exact key K R1 T1 hR hT
  · rw [hv.2 q] at key
    exact key K R1 T1 hR hT
theorem c_X_setRoot_ok (j : Nat) (hj : j < 8) (w v : Int32) (σ : Mem) (h : σ 1 4 = 0) {N : Nat} {ln kd : Nat → Nat} (hp : HP (σ 2) N ln kd) (hw : w = 0 ∨ Us N ln kd w) (hv : (Us N ln kd (σ 2 (257 + j)) → v = σ 2 (257 + j)) ∧ (¬ Us N ln kd (σ 2 (257 + j)) → v = 0)) :
    MetO y_X_setRoot mi_X_setRoot [.inr (.inl 0), .inl (nI j), .inl w] σ (wou (pwF (lsF σ ln N) (257 + j) w) (chgL (pwF (lsF σ ln N) (257 + j) w 3) 1) (some (.inl v))) := by
  refine met_go ok_X_setRoot ⟨rfl, rfl⟩ si_X_setRoot (Nat.le_of_ble_eq_true rfl) ⟨trivial, trivial, trivial, trivial⟩ [18] 60 (fun X hX K R1 T1 hK hR hT => ?_)
  conv => whnf
  refine ⟨Or.inl h, fun h1 => absurd (h.symm.trans h1) (by decide), fun _ => ?_⟩
  conv => whnf
  refine ⟨fun h1 => absurd (rt_okN hj) h1, fun _ => ?_⟩
  conv => whnf
  refine ⟨fun h1 => ?_, fun h1 => ?_⟩
  · conv => whnf
    exact hK _ _ _ _ (c_X_setRoot_end hX j hj w v σ hp hv rfl)
  · conv => whnf
    refine ⟨N, ln, kd, hp, fun h2 => absurd (hw.resolve_left h1) h2, fun _ => ?_⟩
    conv => whnf
    exact hK _ _ _ _ (c_X_setRoot_end hX j hj w v (lsF σ ln N) hp hv (by rw [lsF_lsF]))
