/-! ===== the reference: store and setRoot ===== -/
def mi_M_store : MI := (b_M_store, 6, "RootedWordsModel", some .int, 3, tbl_of 123 f_M_store, fl_M, [(59, (7, 1, ct_M_does)), (67, (7, 1, ct_M_at)), (73, (7, 2, ct_M_isWord))], [])
theorem ok_M_store : MOK mi_M_store := ⟨tbl_ok k_M_store, flok_M rfl, List.forall_mem_cons.mpr ⟨okV 2 (by decide) s_M_does rfl (Nat.le_of_ble_eq_true rfl) (Nat.le_of_ble_eq_true rfl) (by decide +kernel) lk_M_59 vv_M_does, List.forall_mem_cons.mpr ⟨okV 2 (by decide) s_M_at rfl (Nat.le_of_ble_eq_true rfl) (Nat.le_of_ble_eq_true rfl) (by decide +kernel) lk_M_67 vv_M_at, List.forall_mem_cons.mpr ⟨okV 2 (by decide) s_M_isWord rfl (Nat.le_of_ble_eq_true rfl) (Nat.le_of_ble_eq_true rfl) (by decide +kernel) lk_M_73 vv_M_isWord, (fun _ h => absurd h List.not_mem_nil)⟩⟩⟩⟩
theorem si_M_store : ∀ q ∈ m_tr mi_M_store, SiteF mi_M_store q := (fun _ h => absurd h List.not_mem_nil)
theorem c_M_store_down (a x w : Int32) (σ : Mem) (hd : σ 7 11 = 1) {N : Nat} {ln kd : Nat → Nat} (h : MP σ N ln kd) : MetO y_M_store mi_M_store [.inr (.inl 7), .inl a, .inl x, .inl w] σ (.inl (some (.inl 0), st σ 7 0 1)) := by
  refine met_go ok_M_store ⟨rfl, rfl⟩ si_M_store (Nat.le_of_ble_eq_true rfl) ⟨trivial, trivial, trivial, trivial, trivial⟩ [] 60 (fun X hX K R1 T1 hK hR hT => ?_)
  conv => whnf
  refine ⟨N, ln, kd, h, fun e' he' => ?_, fun q => ?_⟩
  · conv => whnf
    refine ⟨fun z => absurd (hd.symm.trans z) (by decide), fun _ => ?_⟩
    conv => whnf
    refine ⟨fun z => absurd z (cIn (k := 1) (by decide)), fun _ => ?_⟩
    conv => whnf
    exact hR _ _ rfl
  · conv => whnf
    refine ⟨fun z => absurd (hd.symm.trans z) (by decide), fun _ => ?_⟩
    conv => whnf
    refine ⟨fun z => absurd z (cIn (k := 1) (by decide)), fun _ => ?_⟩
    conv => whnf
    exact hR _ _ rfl
theorem c_M_store_no (a x w : Int32) (σ : Mem) (hd : σ 7 11 = 0) {N : Nat} {ln kd : Nat → Nat} (h : MP σ N ln kd) (q : ¬ Us N ln kd a) : MetO y_M_store mi_M_store [.inr (.inl 7), .inl a, .inl x, .inl w] σ (.inl (some (.inl 0), st σ 7 0 2)) := by
  refine met_go ok_M_store ⟨rfl, rfl⟩ si_M_store (Nat.le_of_ble_eq_true rfl) ⟨trivial, trivial, trivial, trivial, trivial⟩ [] 60 (fun X hX K R1 T1 hK hR hT => ?_)
  conv => whnf
  refine ⟨N, ln, kd, h, fun e' he' => absurd he'.us q, fun _ => ?_⟩
  conv => whnf
  refine ⟨fun _ => ?_, fun z => absurd hd z⟩
  conv => whnf
  refine ⟨fun z => absurd z (by decide), fun _ => ?_⟩
  conv => whnf
  refine ⟨fun z => absurd z (cIn (k := 2) (by decide)), fun _ => ?_⟩
  conv => whnf
  exact hR _ _ rfl
theorem c_M_store_word (x w : Int32) (σ : Mem) (hd : σ 7 11 = 0) {N : Nat} {ln kd : Nat → Nat} (h : MP σ N ln kd) {a : Int32} {e : Nat} (hu : Usd N ln kd e a) (q : ¬ wd_ok x (ln e)) : MetO y_M_store mi_M_store [.inr (.inl 7), .inl a, .inl x, .inl w] σ (.inl (some (.inl 0), st σ 7 0 3)) := by
  have hN := h.1.N85
  have he := hu.1
  refine met_go ok_M_store ⟨rfl, rfl⟩ si_M_store (Nat.le_of_ble_eq_true rfl) ⟨trivial, trivial, trivial, trivial, trivial⟩ [] 60 (fun X hX K R1 T1 hK hR hT => ?_)
  conv => whnf
  refine ⟨N, ln, kd, h, fun e' he' => ?_, fun q => absurd hu.us q⟩
  obtain rfl := h.1.uniq he' hu
  conv => whnf
  refine ⟨fun _ => ?_, fun z => absurd hd z⟩
  conv => whnf
  refine ⟨fun _ => ?_, fun z => absurd (nI_0le (by omega)) z⟩
  conv => whnf
  refine ⟨N, ln, kd, e', x, rfl, h, he, fun z => absurd z q, fun _ => ?_⟩
  conv => whnf
  refine ⟨fun z => absurd rfl z, fun _ => ?_⟩
  conv => whnf
  refine ⟨fun z => absurd z (cIn (k := 3) (by decide)), fun _ => ?_⟩
  conv => whnf
  exact hR _ _ rfl
theorem c_M_store_ptr (j : Nat) (w : Int32) (σ : Mem) (hd : σ 7 11 = 0) {N : Nat} {ln kd : Nat → Nat} (h : MP σ N ln kd) {a : Int32} {e : Nat} (hu : Usd N ln kd e a) (q : j < ln e - 2) (hj : j + 1 < kd e) (hw : w ≠ 0) (hw2 : ¬ Us N ln kd w) : MetO y_M_store mi_M_store [.inr (.inl 7), .inl a, .inl (nI j), .inl w] σ (.inl (some (.inl 0), st σ 7 0 4)) := by
  have hN := h.1.N85
  have he := hu.1
  have g := h.1.lt he
  obtain ⟨m8, m9, m10, m11⟩ := h.2.2 e he
  refine met_go ok_M_store ⟨rfl, rfl⟩ si_M_store (Nat.le_of_ble_eq_true rfl) ⟨trivial, trivial, trivial, trivial, trivial⟩ [69] 60 (fun X hX K R1 T1 hK hR hT => ?_)
  conv => whnf
  refine ⟨N, ln, kd, h, fun e' he' => ?_, fun q => absurd hu.us q⟩
  obtain rfl := h.1.uniq he' hu
  conv => whnf
  refine ⟨fun _ => ?_, fun z => absurd hd z⟩
  conv => whnf
  refine ⟨fun _ => ?_, fun z => absurd (nI_0le (by omega)) z⟩
  conv => whnf
  refine ⟨N, ln, kd, e', nI j, rfl, h, he, fun _ => ?_, fun z => absurd (wd_okN q (by omega)) z⟩
  conv => whnf
  refine ⟨fun _ => ?_, fun z => absurd z (by decide)⟩
  conv => whnf
  refine ⟨vp_in_nI (by omega) (by decide), ?_⟩
  rw [nI_clamp (by omega), m11 hu.2.1]
  conv => whnf
  refine ⟨fun z => absurd z (nI_ge (by omega) (by omega)), fun _ => ?_⟩
  conv => whnf
  refine ⟨fun z => absurd z hw, fun _ => ?_⟩
  conv => whnf
  refine ⟨N, ln, kd, h, fun e2 he2 => absurd he2.us hw2, fun _ => ?_⟩
  conv => whnf
  refine ⟨fun z => absurd z (by decide), fun _ => ?_⟩
  conv => whnf
  refine ⟨fun z => absurd z (cIn (k := 4) (by decide)), fun _ => ?_⟩
  conv => whnf
  exact hR _ _ rfl
theorem c_M_store_69 {X : CT} {oc : OC} (hX : CxO X mi_M_store oc) {σ : Mem} (hb : bl (σ 7 11)) (hl : lOK (σ 7 10)) {r : Nat} {σ1 : Mem} (hds : Dz (st σ 7 0 (nI 0)) 1 r σ1) (a j : Nat) (w : Int32) (x y : Option AV) (ha : a + j < 257) (ho : oc = .inl (some (.inl (if r = 0 then σ 13 (a + j) else 0)), if r < 2 then st σ1 13 (a + j) w else σ1)) : Go X mi_M_store 69 [some (.inr (.inl 7)), some (.inl (nI a)), some (.inl (nI j)), some (.inl w), x, y] [.inr (.inl 7)] σ := by
  have e1 : nI a + nI j = nI (a + j) := nI_add a j
  refine Go_run ok_M_store hX [] 80 (fun K R1 T1 hK hR hT => ?_)
  conv => whnf
  refine ⟨fun _ => ?_, fun z => absurd c0n z⟩
  conv => whnf
  rw [e1]
  refine ⟨vp_in_nI (by omega) (by decide), ?_⟩
  rw [nI_clamp (by omega)]
  conv => whnf
  refine ⟨1, rfl, by decide, hb, hl, fun r' σ' hd' => ?_⟩
  obtain ⟨rfl, rfl⟩ := Dz.uniq (by decide) hds hd'
  conv => whnf
  refine ⟨fun z => ?_, fun z => ?_⟩
  · have z2 := Dz.v0 z
    conv => whnf
    rw [hds.code]
    refine ⟨fun z => absurd (dc_0 z) (by omega), fun _ => ?_⟩
    conv => whnf
    refine hR _ _ ?_
    rw [ho, if_neg (by omega), if_neg (by omega)]; rfl
  · have z2 := Dz.v1 z
    conv => whnf
    rw [e1]
    refine ⟨vp_in_nI (by omega) (by decide), ?_⟩
    rw [nI_clamp (by omega)]
    conv => whnf
    have hc : st σ1 13 (a + j) w 7 0 = dc r := hds.code
    rw [hc]
    refine ⟨fun z => ?_, fun z => ?_⟩
    · conv => whnf
      refine hR _ _ ?_
      rw [ho, if_pos (dc_0 z), if_pos z2]; rfl
    · conv => whnf
      refine hR _ _ ?_
      rw [ho, if_neg (dc_1 z), if_pos z2]; rfl
theorem c_M_store_ok (j : Nat) (w : Int32) (σ : Mem) (hd : σ 7 11 = 0) (hl : lOK (σ 7 10)) {N : Nat} {ln kd : Nat → Nat} (h : MP σ N ln kd) {e : Nat} (he : e < N) (hk : kd e ≠ 0) (q : j < ln e - 2) (hp : j + 1 < kd e → w ≠ 0 → Us N ln kd w) {r : Nat} {σ1 : Mem} (hds : Dz (st σ 7 0 (nI 0)) 1 r σ1) :
    MetO y_M_store mi_M_store [.inr (.inl 7), .inl (nI (pos ln e + 1)), .inl (nI j), .inl w] σ (.inl (some (.inl (if r = 0 then σ 13 (pos ln e + 1 + j) else 0)), if r < 2 then st σ1 13 (pos ln e + 1 + j) w else σ1)) := by
  have hN := h.1.N85
  have hu : Usd N ln kd e (nI (pos ln e + 1)) := ⟨he, hk, rfl⟩
  have g := h.1.lt he
  have g4 := h.1.end he
  obtain ⟨m8, m9, m10, m11⟩ := h.2.2 e he
  refine met_go ok_M_store ⟨rfl, rfl⟩ si_M_store (Nat.le_of_ble_eq_true rfl) ⟨trivial, trivial, trivial, trivial, trivial⟩ [69] 60 (fun X hX K R1 T1 hK hR hT => ?_)
  have h69 := fun x y => c_M_store_69 hX (Or.inl hd) hl hds (pos ln e + 1) j w x y (by omega) rfl
  conv => whnf
  refine ⟨N, ln, kd, h, fun e' he' => ?_, fun q => absurd hu.us q⟩
  obtain rfl := h.1.uniq he' hu
  conv => whnf
  refine ⟨fun _ => ?_, fun z => absurd hd z⟩
  conv => whnf
  refine ⟨fun _ => ?_, fun z => absurd (nI_0le (by omega)) z⟩
  conv => whnf
  refine ⟨N, ln, kd, e', nI j, rfl, h, he, fun _ => ?_, fun z => absurd (wd_okN q (by omega)) z⟩
  conv => whnf
  refine ⟨fun _ => ?_, fun z => absurd z (by decide)⟩
  conv => whnf
  refine ⟨vp_in_nI (by omega) (by decide), ?_⟩
  rw [nI_clamp (by omega), m11 hu.2.1]
  conv => whnf
  refine ⟨fun _ => ?_, fun z => ?_⟩
  · conv => whnf
    exact hK _ _ _ _ (h69 _ _)
  have z1 := (not_congr (nI_leI (a := kd e' - 1) (b := j) (by omega) (by omega))).mp z
  conv => whnf
  refine ⟨fun _ => ?_, fun z2 => ?_⟩
  · conv => whnf
    exact hK _ _ _ _ (h69 _ _)
  conv => whnf
  refine ⟨N, ln, kd, h, fun e2 he2 => ?_, fun q2 => absurd (hp (by omega) z2) q2⟩
  have he3 := he2.1
  conv => whnf
  refine ⟨fun _ => ?_, fun z => absurd (nI_0le (by omega)) z⟩
  conv => whnf
  exact hK _ _ _ _ (h69 _ _)
def mi_M_setRoot : MI := (b_M_setRoot, 4, "RootedWordsModel", some .int, 3, tbl_of 86 f_M_setRoot, fl_M, [(59, (7, 1, ct_M_does)), (67, (7, 1, ct_M_at)), (77, (99, 1, ct_M_isRoot)), (80, (7, 1, ct_M_rootNow))], [])
theorem ok_M_setRoot : MOK mi_M_setRoot := ⟨tbl_ok k_M_setRoot, flok_M rfl, List.forall_mem_cons.mpr ⟨okV 2 (by decide) s_M_does rfl (Nat.le_of_ble_eq_true rfl) (Nat.le_of_ble_eq_true rfl) (by decide +kernel) lk_M_59 vv_M_does, List.forall_mem_cons.mpr ⟨okV 2 (by decide) s_M_at rfl (Nat.le_of_ble_eq_true rfl) (Nat.le_of_ble_eq_true rfl) (by decide +kernel) lk_M_67 vv_M_at, List.forall_mem_cons.mpr ⟨okS s_M_isRoot rfl (Nat.le_of_ble_eq_true rfl) (Nat.le_of_ble_eq_true rfl) (by decide +kernel) lk_M_77 vs_M_isRoot, List.forall_mem_cons.mpr ⟨okV 2 (by decide) s_M_rootNow rfl (Nat.le_of_ble_eq_true rfl) (Nat.le_of_ble_eq_true rfl) (by decide +kernel) lk_M_80 vv_M_rootNow, (fun _ h => absurd h List.not_mem_nil)⟩⟩⟩⟩⟩
theorem si_M_setRoot : ∀ q ∈ m_tr mi_M_setRoot, SiteF mi_M_setRoot q := (fun _ h => absurd h List.not_mem_nil)
theorem c_M_setRoot_down (x w : Int32) (σ : Mem) (hd : σ 7 11 = 1) : MetO y_M_setRoot mi_M_setRoot [.inr (.inl 7), .inl x, .inl w] σ (.inl (some (.inl 0), st σ 7 0 1)) := by
  refine met_go ok_M_setRoot ⟨rfl, rfl⟩ si_M_setRoot (Nat.le_of_ble_eq_true rfl) ⟨trivial, trivial, trivial, trivial⟩ [] 60 (fun X hX K R1 T1 hK hR hT => ?_)
  conv => whnf
  refine ⟨fun z => absurd (hd.symm.trans z) (by decide), fun _ => ?_⟩
  conv => whnf
  refine ⟨fun z => absurd z (cIn (k := 1) (by decide)), fun _ => ?_⟩
  conv => whnf
  exact hR _ _ rfl
theorem c_M_setRoot_no (x w : Int32) (σ : Mem) (hd : σ 7 11 = 0) (hr : ¬ rt_ok x) : MetO y_M_setRoot mi_M_setRoot [.inr (.inl 7), .inl x, .inl w] σ (.inl (some (.inl 0), st σ 7 0 2)) := by
  refine met_go ok_M_setRoot ⟨rfl, rfl⟩ si_M_setRoot (Nat.le_of_ble_eq_true rfl) ⟨trivial, trivial, trivial, trivial⟩ [] 60 (fun X hX K R1 T1 hK hR hT => ?_)
  conv => whnf
  refine ⟨fun _ => ?_, fun z => absurd hd z⟩
  conv => whnf
  refine ⟨fun z => absurd z hr, fun _ => ?_⟩
  conv => whnf
  refine ⟨fun z => absurd rfl z, fun _ => ?_⟩
  conv => whnf
  refine ⟨fun z => absurd z (cIn (k := 2) (by decide)), fun _ => ?_⟩
  conv => whnf
  exact hR _ _ rfl
theorem c_M_setRoot_bad (j : Nat) (hj : j < 8) (w : Int32) (σ : Mem) (hd : σ 7 11 = 0) {N : Nat} {ln kd : Nat → Nat} (h : MP σ N ln kd) (hw : w ≠ 0) (hw2 : ¬ Us N ln kd w) : MetO y_M_setRoot mi_M_setRoot [.inr (.inl 7), .inl (nI j), .inl w] σ (.inl (some (.inl 0), st σ 7 0 3)) := by
  refine met_go ok_M_setRoot ⟨rfl, rfl⟩ si_M_setRoot (Nat.le_of_ble_eq_true rfl) ⟨trivial, trivial, trivial, trivial⟩ [39] 60 (fun X hX K R1 T1 hK hR hT => ?_)
  conv => whnf
  refine ⟨fun _ => ?_, fun z => absurd hd z⟩
  conv => whnf
  refine ⟨fun _ => ?_, fun z => absurd (rt_okN hj) z⟩
  conv => whnf
  refine ⟨fun _ => ?_, fun z => absurd z (by decide)⟩
  conv => whnf
  refine ⟨fun z => absurd z hw, fun _ => ?_⟩
  conv => whnf
  refine ⟨N, ln, kd, h, fun e2 he2 => absurd he2.us hw2, fun _ => ?_⟩
  conv => whnf
  refine ⟨fun z => absurd z (by decide), fun _ => ?_⟩
  conv => whnf
  refine ⟨fun z => absurd z (cIn (k := 3) (by decide)), fun _ => ?_⟩
  conv => whnf
  exact hR _ _ rfl
theorem c_M_setRoot_39 {X : CT} {oc : OC} (hX : CxO X mi_M_setRoot oc) {σ : Mem} (hb : bl (σ 7 11)) (hl : lOK (σ 7 10)) {N : Nat} {ln kd : Nat → Nat} (h : MP σ N ln kd) {r : Nat} {σ1 : Mem} (hds : Dz (st σ 7 0 (nI 0)) 1 r σ1) (j : Nat) (hj : j < 8) (w : Int32) (v : Int32) (hv : (Us N ln kd (σ 14 j) → v = σ 14 j) ∧ (¬ Us N ln kd (σ 14 j) → v = 0)) (y : Option AV) (ho : oc = .inl (some (.inl (if r = 0 then v else 0)), if r < 2 then st σ1 14 j w else σ1)) : Go X mi_M_setRoot 39 [some (.inr (.inl 7)), some (.inl (nI j)), some (.inl w), y] [.inr (.inl 7)] σ := by
  have h' := h.st7 0 (nI 0) (by decide)
  have tail : ∀ σ2 (u : Int32), u = v → σ2 7 0 = dc r → (if r < 2 then st σ1 14 j w else σ1) = σ2 → Go X mi_M_setRoot 73 [some (.inr (.inl 7)), some (.inl (nI j)), some (.inl w), some (.inl u)] [] σ2 := by
    intro σ2 u hu hc2 he2
    subst hu
    refine Go_run ok_M_setRoot hX [] 80 (fun K R1 T1 hK hR hT => ?_)
    conv => whnf
    rw [hc2]
    refine ⟨fun z => ?_, fun z => ?_⟩
    · conv => whnf
      refine hR _ _ ?_
      rw [ho, if_pos (dc_0 z), he2]; rfl
    · conv => whnf
      refine hR _ _ ?_
      rw [ho, if_neg (dc_1 z), he2]; rfl
  have rest : ∀ u : Int32, u = v → Go X mi_M_setRoot 58 [some (.inr (.inl 7)), some (.inl (nI j)), some (.inl w), some (.inl u)] [] (st σ 7 0 (nI 0)) := by
    intro u hu
    refine Go_run ok_M_setRoot hX [73] 80 (fun K R1 T1 hK hR hT => ?_)
    conv => whnf
    refine ⟨1, rfl, by decide, hb, hl, fun r' σ' hd' => ?_⟩
    obtain ⟨rfl, rfl⟩ := Dz.uniq (by decide) hds hd'
    conv => whnf
    refine ⟨fun z => ?_, fun z => ?_⟩
    · have z2 := Dz.v0 z
      conv => whnf
      exact hK _ _ _ _ (tail σ1 u hu hds.code (if_neg (by omega)))
    · have z2 := Dz.v1 z
      conv => whnf
      refine ⟨vp_in_nI (by omega) (by decide), ?_⟩
      rw [nI_clamp (by omega)]
      conv => whnf
      exact hK _ _ _ _ (tail (st σ1 14 j w) u hu hds.code (if_pos z2))
  refine Go_run ok_M_setRoot hX [58] 80 (fun K R1 T1 hK hR hT => ?_)
  conv => whnf
  refine ⟨fun _ => ?_, fun z => absurd c0n z⟩
  conv => whnf
  refine ⟨N, ln, kd, j, rfl, h', hj, fun q => ?_, fun q => ?_⟩
  · conv => whnf
    exact hK _ _ _ _ (rest _ (hv.1 q).symm)
  · conv => whnf
    exact hK _ _ _ _ (rest _ (hv.2 q).symm)
theorem c_M_setRoot_ok (j : Nat) (hj : j < 8) (w : Int32) (σ : Mem) (hd : σ 7 11 = 0) (hl : lOK (σ 7 10)) {N : Nat} {ln kd : Nat → Nat} (h : MP σ N ln kd) (hp : w ≠ 0 → Us N ln kd w) {r : Nat} {σ1 : Mem} (hds : Dz (st σ 7 0 (nI 0)) 1 r σ1) (v : Int32) (hv : (Us N ln kd (σ 14 j) → v = σ 14 j) ∧ (¬ Us N ln kd (σ 14 j) → v = 0)) :
    MetO y_M_setRoot mi_M_setRoot [.inr (.inl 7), .inl (nI j), .inl w] σ (.inl (some (.inl (if r = 0 then v else 0)), if r < 2 then st σ1 14 j w else σ1)) := by
  have hN := h.1.N85
  refine met_go ok_M_setRoot ⟨rfl, rfl⟩ si_M_setRoot (Nat.le_of_ble_eq_true rfl) ⟨trivial, trivial, trivial, trivial⟩ [39] 60 (fun X hX K R1 T1 hK hR hT => ?_)
  have h39 := fun y => c_M_setRoot_39 hX (Or.inl hd) hl h hds j hj w v hv y rfl
  conv => whnf
  refine ⟨fun _ => ?_, fun z => absurd hd z⟩
  conv => whnf
  refine ⟨fun _ => ?_, fun z => absurd (rt_okN hj) z⟩
  conv => whnf
  refine ⟨fun _ => ?_, fun z => absurd z (by decide)⟩
  conv => whnf
  refine ⟨fun _ => ?_, fun z2 => ?_⟩
  · conv => whnf
    exact hK _ _ _ _ (h39 _)
  conv => whnf
  refine ⟨N, ln, kd, h, fun e2 he2 => ?_, fun q2 => absurd (hp z2) q2⟩
  have he3 := he2.1
  conv => whnf
  refine ⟨fun _ => ?_, fun z => absurd (nI_0le (by omega)) z⟩
  conv => whnf
  exact hK _ _ _ _ (h39 _)
