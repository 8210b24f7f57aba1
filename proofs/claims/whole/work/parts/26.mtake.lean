/-! ===== the reference: give and take ===== -/
theorem MP.dz {σ : Mem} {N : Nat} {ln kd : Nat → Nat} (h : MP σ N ln kd) {k r : Nat} {σ1 : Mem} (hds : Dz σ k r σ1) : MP σ1 N ln kd := h.cong hds.n (hds.ne 8 (by decide)) (hds.ne 9 (by decide)) (hds.ne 10 (by decide)) (hds.ne 11 (by decide))
theorem gv_le {N : Nat} {kd : Nat → Nat} {e : Nat} (he : e < N) : gv0 kd e ≤ e ∧ e ≤ gv1 N kd e ∧ gv1 N kd e < N := by
  refine ⟨?_, ?_, ?_⟩
  · unfold gv0; split <;> omega
  · unfold gv1; split <;> omega
  · unfold gv1; split <;> omega
def mi_M_give : MI := (b_M_give, 6, "RootedWordsModel", some .int, 3, tbl_of 131 f_M_give, fl_M, [(59, (7, 1, ct_M_does)), (67, (7, 1, ct_M_at)), (70, (7, 2, ct_M_join))], [])
theorem ok_M_give : MOK mi_M_give := ⟨tbl_ok k_M_give, flok_M rfl, List.forall_mem_cons.mpr ⟨okV 2 (by decide) s_M_does rfl (Nat.le_of_ble_eq_true rfl) (Nat.le_of_ble_eq_true rfl) (by decide +kernel) lk_M_59 vv_M_does, List.forall_mem_cons.mpr ⟨okV 2 (by decide) s_M_at rfl (Nat.le_of_ble_eq_true rfl) (Nat.le_of_ble_eq_true rfl) (by decide +kernel) lk_M_67 vv_M_at, List.forall_mem_cons.mpr ⟨okV 2 (by decide) s_M_join rfl (Nat.le_of_ble_eq_true rfl) (Nat.le_of_ble_eq_true rfl) (by decide +kernel) lk_M_70 vv_M_join, (fun _ h => absurd h List.not_mem_nil)⟩⟩⟩⟩
theorem si_M_give : ∀ q ∈ m_tr mi_M_give, SiteF mi_M_give q := (fun _ h => absurd h List.not_mem_nil)
theorem c_M_give_down (a : Int32) (σ : Mem) (hd : σ 7 11 = 1) {N : Nat} {ln kd : Nat → Nat} (h : MP σ N ln kd) : MetO y_M_give mi_M_give [.inr (.inl 7), .inl a] σ (.inl (some (.inl 0), st σ 7 0 1)) := by
  refine met_go ok_M_give ⟨rfl, rfl⟩ si_M_give (Nat.le_of_ble_eq_true rfl) ⟨trivial, trivial, trivial⟩ [] 60 (fun X hX K R1 T1 hK hR hT => ?_)
  conv => whnf
  refine ⟨N, ln, kd, h, fun e' he' => ?_, fun q => ?_⟩
  · conv => whnf
    refine ⟨fun z => absurd (hd.symm.trans z) (by decide), fun _ => ?_⟩
    conv => whnf
    refine ⟨fun z => absurd z (cIn (k := 1) (by decide)), fun _ => ?_⟩
    conv => whnf
    exact hR _ _ rfl
  · conv => whnf
    refine ⟨fun z => absurd (hd.symm.trans z) (by decide), fun _ => ?_⟩
    conv => whnf
    refine ⟨fun z => absurd z (cIn (k := 1) (by decide)), fun _ => ?_⟩
    conv => whnf
    exact hR _ _ rfl
theorem c_M_give_no (a : Int32) (σ : Mem) (hd : σ 7 11 = 0) {N : Nat} {ln kd : Nat → Nat} (h : MP σ N ln kd) (q : ¬ Us N ln kd a) : MetO y_M_give mi_M_give [.inr (.inl 7), .inl a] σ (.inl (some (.inl 0), st σ 7 0 2)) := by
  refine met_go ok_M_give ⟨rfl, rfl⟩ si_M_give (Nat.le_of_ble_eq_true rfl) ⟨trivial, trivial, trivial⟩ [] 60 (fun X hX K R1 T1 hK hR hT => ?_)
  conv => whnf
  refine ⟨N, ln, kd, h, fun e' he' => absurd he'.us q, fun _ => ?_⟩
  conv => whnf
  refine ⟨fun _ => ?_, fun z => absurd hd z⟩
  conv => whnf
  refine ⟨fun z => absurd z (by decide), fun _ => ?_⟩
  conv => whnf
  refine ⟨fun z => absurd z (cIn (k := 2) (by decide)), fun _ => ?_⟩
  conv => whnf
  exact hR _ _ rfl
theorem c_M_give_92 {X : CT} {oc : OC} (hX : CxO X mi_M_give oc) {σ : Mem} (hb : bl (σ 7 11)) (hl : lOK (σ 7 10)) {N : Nat} {ln kd : Nat → Nat} (h : MP σ N ln kd) (hm : ∀ j, bl (σ 12 j)) {r : Nat} {σ1 : Mem} (hds : Dz σ 2 r σ1) (f t : Nat) (hft : f ≤ t) (ht : t < N) (a e x : Option AV)
    (ho : oc = .inl (some (.inl (if r = 0 then nI (pos ln f + 1) else 0)), if r < 2 then jnM σ1 ln f t N else σ1)) : Go X mi_M_give 92 [some (.inr (.inl 7)), a, e, some (.inl (nI f)), some (.inl (nI t)), x] [] σ := by
  have hN := h.1.N85
  obtain ⟨m8, m9, m10, m11⟩ := h.2.2 f (by omega)
  have e1 : nI (pos ln f) + nI 1 = nI (pos ln f + 1) := nI_add _ _
  refine Go_run ok_M_give hX [] 80 (fun K R1 T1 hK hR hT => ?_)
  conv => whnf
  refine ⟨vp_in_nI (by omega) (by decide), ?_⟩
  rw [nI_clamp (by omega), m8]
  conv => whnf
  refine ⟨2, rfl, by decide, hb, hl, fun r' σ' hd' => ?_⟩
  obtain ⟨rfl, rfl⟩ := Dz.uniq (by decide) hds hd'
  conv => whnf
  refine ⟨fun z => ?_, fun z => ?_⟩
  · have z2 := Dz.v0 z
    conv => whnf
    rw [hds.code]
    refine ⟨fun z => absurd (dc_0 z) (by omega), fun _ => ?_⟩
    conv => whnf
    refine hR _ _ ?_
    rw [ho, if_neg (by omega), if_neg (by omega)]; rfl
  · have z2 := Dz.v1 z
    conv => whnf
    refine ⟨N, ln, kd, f, t, rfl, h.dz hds, hft, ht, fun j => by rw [hds.ne 12 (by decide)]; exact hm j, ?_⟩
    conv => whnf
    have hc : jnM σ1 ln f t N 7 0 = dc r := (jnM_7 _ _ _ _ _ _ (by decide)).trans hds.code
    rw [hc]
    refine ⟨fun z => ?_, fun z => ?_⟩
    · conv => whnf
      refine hR _ _ ?_
      rw [ho, if_pos (dc_0 z), if_pos z2, ← e1]; rfl
    · conv => whnf
      refine hR _ _ ?_
      rw [ho, if_neg (dc_1 z), if_pos z2]; rfl
theorem c_M_give_62 {X : CT} {oc : OC} (hX : CxO X mi_M_give oc) {σ : Mem} (hb : bl (σ 7 11)) (hl : lOK (σ 7 10)) {N : Nat} {ln kd : Nat → Nat} (h : MP σ N ln kd) (hm : ∀ j, bl (σ 12 j)) {r : Nat} {σ1 : Mem} (hds : Dz σ 2 r σ1) (e : Nat) (he : e < N) (a x y : Option AV)
    (ho : oc = .inl (some (.inl (if r = 0 then nI (pos ln (gv0 kd e) + 1) else 0)), if r < 2 then jnM σ1 ln (gv0 kd e) (gv1 N kd e) N else σ1)) : Go X mi_M_give 62 [some (.inr (.inl 7)), a, some (.inl (nI e)), some (.inl (nI (gv0 kd e))), x, y] [] σ := by
  have hN := h.1.N85
  have hg := gv_le (kd := kd) he
  have e1 : nI e + nI 1 = nI (e + 1) := nI_add _ _
  have h92 := fun t (q : gv1 N kd e = t) => c_M_give_92 hX hb hl h hm hds (gv0 kd e) t (by omega) (by omega) a (some (.inl (nI e))) y (by rw [ho, q])
  refine Go_run ok_M_give hX [92] 80 (fun K R1 T1 hK hR hT => ?_)
  conv => whnf
  rw [e1, h.2.1]
  refine ⟨fun z => ?_, fun z => ?_⟩
  · conv => whnf
    have z1 := (nI_leI (by omega) (by omega)).mp z
    exact hK _ _ _ _ (h92 e (by unfold gv1; rw [if_neg (by omega)]))
  have z1 := (not_congr (nI_leI (a := N) (b := e + 1) (by omega) (by omega))).mp z
  obtain ⟨m8, m9, m10, m11⟩ := h.2.2 (e + 1) (by omega)
  conv => whnf
  rw [e1]
  refine ⟨vp_in_nI (by omega) (by decide), ?_⟩
  rw [nI_clamp (by omega), m10]
  conv => whnf
  refine ⟨fun z2 => ?_, fun z2 => ?_⟩
  · conv => whnf
    exact hK _ _ _ _ (h92 e (by unfold gv1; rw [if_neg (fun q => z2 (ub_0.mpr q.2))]))
  · conv => whnf
    refine hK _ _ _ _ ?_
    show Go X mi_M_give 92 [some (.inr (.inl 7)), a, some (.inl (nI e)), some (.inl (nI (gv0 kd e))), some (.inl (nI e + nI 1)), y] [] σ
    rw [e1]
    exact h92 (e + 1) (by unfold gv1; rw [if_pos ⟨by omega, ub_0.mp z2⟩])
theorem c_M_give_ok (σ : Mem) (hd : σ 7 11 = 0) (hl : lOK (σ 7 10)) {N : Nat} {ln kd : Nat → Nat} (h : MP σ N ln kd) (hm : ∀ j, bl (σ 12 j)) {e : Nat} {a : Int32} (hu : Usd N ln kd e a) {r : Nat} {σ1 : Mem} (hds : Dz (st σ 7 0 (nI 0)) 2 r σ1) :
    MetO y_M_give mi_M_give [.inr (.inl 7), .inl a] σ (.inl (some (.inl (if r = 0 then nI (pos ln (gv0 kd e) + 1) else 0)), if r < 2 then jnM σ1 ln (gv0 kd e) (gv1 N kd e) N else σ1)) := by
  have hN := h.1.N85
  have he := hu.1
  have h' := h.st7 0 (nI 0) (by decide)
  refine met_go ok_M_give ⟨rfl, rfl⟩ si_M_give (Nat.le_of_ble_eq_true rfl) ⟨trivial, trivial, trivial⟩ [62] 60 (fun X hX K R1 T1 hK hR hT => ?_)
  have h62 := fun f (q : gv0 kd e = f) x y => q ▸ c_M_give_62 hX (σ := st σ 7 0 (nI 0)) (Or.inl hd) hl h' hm hds e he (some (.inl a)) x y rfl
  conv => whnf
  refine ⟨N, ln, kd, h, fun e' he' => ?_, fun q => absurd hu.us q⟩
  obtain rfl := h.1.uniq he' hu
  conv => whnf
  refine ⟨fun _ => ?_, fun z => absurd hd z⟩
  conv => whnf
  refine ⟨fun _ => ?_, fun z => absurd (nI_0le (by omega)) z⟩
  conv => whnf
  refine ⟨fun _ => ?_, fun z => absurd c0n z⟩
  conv => whnf
  refine ⟨fun z => ?_, fun z => ?_⟩
  · conv => whnf
    have z1 : e' = 0 := by have := (nI_leI (a := e') (b := 0) (by omega) (by decide)).mp z; omega
    exact hK _ _ _ _ (h62 e' (by unfold gv0; rw [if_neg (by omega)]) _ _)
  have z1 : ¬ e' ≤ 0 := (not_congr (nI_leI (a := e') (b := 0) (by omega) (by decide))).mp z
  have e3 : nI e' - nI 1 = nI (e' - 1) := pk_sub (by omega)
  obtain ⟨m8, m9, m10, m11⟩ := h'.2.2 (e' - 1) (by omega)
  conv => whnf
  rw [e3]
  refine ⟨vp_in_nI (by omega) (by decide), ?_⟩
  rw [nI_clamp (by omega), m10]
  conv => whnf
  refine ⟨fun z2 => ?_, fun z2 => ?_⟩
  · conv => whnf
    exact hK _ _ _ _ (h62 e' (by unfold gv0; rw [if_neg (fun q => z2 (ub_0.mpr q.2))]) _ _)
  · conv => whnf
    refine hK _ _ _ _ ?_
    show Go X mi_M_give 62 [some (.inr (.inl 7)), some (.inl a), some (.inl (nI e')), some (.inl (nI e' - nI 1)), none, none] [] (st σ 7 0 (nI 0))
    rw [e3]
    exact h62 (e' - 1) (by unfold gv0; rw [if_pos ⟨by omega, ub_0.mp z2⟩]) _ _
/-- words cleared -/
def clr (f : Nat → Int32) (a n : Nat) : Nat → Int32 := fun j => if a ≤ j ∧ j < a + n then 0 else f j
theorem clr_0 (f : Nat → Int32) (a : Nat) : clr f a 0 = f := by
  funext j
  exact if_neg (fun h => by omega)
theorem clr_s (f : Nat → Int32) (a n : Nat) : upd (clr f a n) (a + n) 0 = clr f a (n + 1) := by
  funext j
  unfold upd clr
  by_cases q : j = a + n
  · rw [if_pos q, if_pos (by omega)]
  · rw [if_neg q]
    by_cases q2 : a ≤ j ∧ j < a + n
    · rw [if_pos q2, if_pos (by omega)]
    · rw [if_neg q2, if_neg (by omega)]
def mi_M_take : MI := (b_M_take, 7, "RootedWordsModel", some .int, 3, tbl_of 284 f_M_take, fl_M, [(49, (7, 1, ct_M_spend)), (59, (7, 1, ct_M_does)), (63, (7, 2, ct_M_cut))], [])
theorem ok_M_take : MOK mi_M_take := ⟨tbl_ok k_M_take, flok_M rfl, List.forall_mem_cons.mpr ⟨okV 2 (by decide) s_M_spend rfl (Nat.le_of_ble_eq_true rfl) (Nat.le_of_ble_eq_true rfl) (by decide +kernel) lk_M_49 vv_M_spend, List.forall_mem_cons.mpr ⟨okV 2 (by decide) s_M_does rfl (Nat.le_of_ble_eq_true rfl) (Nat.le_of_ble_eq_true rfl) (by decide +kernel) lk_M_59 vv_M_does, List.forall_mem_cons.mpr ⟨okV 2 (by decide) s_M_cut rfl (Nat.le_of_ble_eq_true rfl) (Nat.le_of_ble_eq_true rfl) (by decide +kernel) lk_M_63 vv_M_cut, (fun _ h => absurd h List.not_mem_nil)⟩⟩⟩⟩
theorem si_M_take : ∀ q ∈ m_tr mi_M_take, SiteF mi_M_take q := (fun _ h => absurd h List.not_mem_nil)
theorem c_M_take_30 {X : CT} {oc : OC} (hX : CxO X mi_M_take oc) {σ : Mem} {N : Nat} {ln kd : Nat → Nat} (h : MP σ N ln kd) (x : Int32) (a2 a3 a5 a6 : Option AV)
    (hG : ∀ e, e ≤ N → (∀ j, j < e → kd j ≠ 0 ∨ nI (ln j) < x + nI 2) → (e < N → kd e = 0 ∧ ¬ nI (ln e) < x + nI 2) → Go X mi_M_take 71 [some (.inr (.inl 7)), some (.inl x), a2, a3, some (.inl (nI e)), a5, a6] [] σ) : ∀ (n i : Nat), i + n = N → (∀ j, j < i → kd j ≠ 0 ∨ nI (ln j) < x + nI 2) →
    Go X mi_M_take 30 [some (.inr (.inl 7)), some (.inl x), a2, a3, some (.inl (nI i)), a5, a6] [] σ := by
  have hN := h.1.N85
  intro n
  induction n with
  | zero =>
    intro i hi hp
    obtain rfl : i = N := by omega
    refine Go_run ok_M_take hX [71] 60 (fun K R1 T1 hK hR hT => ?_)
    conv => whnf
    rw [h.2.1]
    refine ⟨fun _ => ?_, fun z => absurd (nI_le (Nat.le_refl _) (by omega)) z⟩
    conv => whnf
    exact hK _ _ _ _ (hG i (Nat.le_refl _) hp (fun z => absurd z (Nat.lt_irrefl _)))
  | succ n ih =>
    intro i hi hp
    have hi' : i < N := by omega
    obtain ⟨m8, m9, m10, m11⟩ := h.2.2 i hi'
    have e2 : nI i + nI 1 = nI (i + 1) := nI_add i 1
    have nxt : (kd i ≠ 0 ∨ nI (ln i) < x + nI 2) → Go X mi_M_take 30 [some (.inr (.inl 7)), some (.inl x), a2, a3, some (.inl (nI i + nI 1)), a5, a6] [] σ := by
      intro q
      rw [e2]
      refine ih (i + 1) (by omega) (fun j hj => ?_)
      rcases Nat.lt_or_ge j i with z | z
      · exact hp j z
      · obtain rfl : j = i := by omega
        exact q
    refine Go_run ok_M_take hX [30, 71] 60 (fun K R1 T1 hK hR hT => ?_)
    conv => whnf
    rw [h.2.1]
    refine ⟨fun z => absurd z (nI_ge hi' (by omega)), fun _ => ?_⟩
    conv => whnf
    refine ⟨vp_in_nI (by omega) (by decide), ?_⟩
    rw [nI_clamp (by omega), m10]
    conv => whnf
    refine ⟨fun z => ?_, fun z => ?_⟩
    · conv => whnf
      exact hK _ _ _ _ (nxt (Or.inl (fun q => z (ub_0.mpr q))))
    · conv => whnf
      refine ⟨vp_in_nI (by omega) (by decide), ?_⟩
      rw [nI_clamp (by omega), m9]
      conv => whnf
      refine ⟨fun z2 => ?_, fun z2 => ?_⟩
      · conv => whnf
        exact hK _ _ _ _ (hG i (by omega) hp (fun _ => ⟨ub_0.mp z, Int32.not_lt.mpr z2⟩))
      · conv => whnf
        exact hK _ _ _ _ (nxt (Or.inr (Int32.not_le.mp z2)))
theorem c_M_take_down (x p : Int32) (σ : Mem) (hd : σ 7 11 = 1) {N : Nat} {ln kd : Nat → Nat} (h : MP σ N ln kd) : MetO y_M_take mi_M_take [.inr (.inl 7), .inl x, .inl p] σ (.inl (some (.inl 0), st σ 7 0 1)) := by
  have rest : ∀ {X : CT} {oc : OC} (hX : CxO X mi_M_take oc) (ho : oc = .inl (some (.inl 0), st σ 7 0 1)) (d : Int32), Go X mi_M_take 27 [some (.inr (.inl 7)), some (.inl x), some (.inl p), some (.inl d), none, none, none] [] σ := by
    intro X oc hX ho d
    refine Go_run ok_M_take hX [30] 60 (fun K R1 T1 hK hR hT => ?_)
    conv => whnf
    refine hK _ _ _ _ (c_M_take_30 hX h x _ _ _ _ (fun e _ _ _ => ?_) N 0 (by omega) (fun j hj => absurd hj (Nat.not_lt_zero j)))
    refine Go_run ok_M_take hX [] 60 (fun K R1 T1 hK hR hT => ?_)
    conv => whnf
    refine ⟨fun z => absurd (hd.symm.trans z) (by decide), fun _ => ?_⟩
    conv => whnf
    refine ⟨fun z => absurd z (cIn (k := 1) (by decide)), fun _ => ?_⟩
    conv => whnf
    refine hR _ _ ?_
    rw [ho]; rfl
  refine met_go ok_M_take ⟨rfl, rfl⟩ si_M_take (Nat.le_of_ble_eq_true rfl) ⟨trivial, trivial, trivial, trivial⟩ [27] 60 (fun X hX K R1 T1 hK hR hT => ?_)
  conv => whnf
  refine ⟨fun _ => ?_, fun _ => ?_⟩
  · conv => whnf
    exact hK _ _ _ _ (rest hX rfl _)
  conv => whnf
  refine ⟨fun _ => ?_, fun _ => ?_⟩
  · conv => whnf
    exact hK _ _ _ _ (rest hX rfl _)
  conv => whnf
  refine ⟨fun _ => ?_, fun _ => ?_⟩
  · conv => whnf
    exact hK _ _ _ _ (rest hX rfl _)
  conv => whnf
  refine ⟨fun _ => ?_, fun _ => ?_⟩
  · conv => whnf
    exact hK _ _ _ _ (rest hX rfl _)
  · conv => whnf
    exact hK _ _ _ _ (rest hX rfl _)
theorem c_M_take_odd (x p : Int32) (σ : Mem) (hd : σ 7 11 = 0) {N : Nat} {ln kd : Nat → Nat} (h : MP σ N ln kd) (q : ¬ tk_ok x p) : MetO y_M_take mi_M_take [.inr (.inl 7), .inl x, .inl p] σ (.inl (some (.inl 0), st σ 7 0 2)) := by
  have rest : ∀ {X : CT} {oc : OC} (hX : CxO X mi_M_take oc) (ho : oc = .inl (some (.inl 0), st σ 7 0 2)), Go X mi_M_take 27 [some (.inr (.inl 7)), some (.inl x), some (.inl p), some (.inl (nI 1)), none, none, none] [] σ := by
    intro X oc hX ho
    refine Go_run ok_M_take hX [30] 60 (fun K R1 T1 hK hR hT => ?_)
    conv => whnf
    refine hK _ _ _ _ (c_M_take_30 hX h x _ _ _ _ (fun e _ _ _ => ?_) N 0 (by omega) (fun j hj => absurd hj (Nat.not_lt_zero j)))
    refine Go_run ok_M_take hX [] 60 (fun K R1 T1 hK hR hT => ?_)
    conv => whnf
    refine ⟨fun _ => ?_, fun z => absurd hd z⟩
    conv => whnf
    refine ⟨fun z => absurd z (by decide), fun _ => ?_⟩
    conv => whnf
    refine ⟨fun z => absurd z (cIn (k := 2) (by decide)), fun _ => ?_⟩
    conv => whnf
    refine hR _ _ ?_
    rw [ho]; rfl
  refine met_go ok_M_take ⟨rfl, rfl⟩ si_M_take (Nat.le_of_ble_eq_true rfl) ⟨trivial, trivial, trivial, trivial⟩ [27] 60 (fun X hX K R1 T1 hK hR hT => ?_)
  conv => whnf
  refine ⟨fun z1 => ?_, fun z1 => ?_⟩
  · conv => whnf
    exact hK _ _ _ _ (rest hX rfl)
  conv => whnf
  refine ⟨fun z2 => ?_, fun z2 => ?_⟩
  · conv => whnf
    exact hK _ _ _ _ (rest hX rfl)
  conv => whnf
  refine ⟨fun z3 => ?_, fun z3 => ?_⟩
  · conv => whnf
    exact hK _ _ _ _ (rest hX rfl)
  conv => whnf
  refine ⟨fun z4 => absurd ⟨z1, Int32.not_lt.mp z2, z3, z4⟩ q, fun z4 => ?_⟩
  conv => whnf
  exact hK _ _ _ _ (rest hX rfl)
/-- the scan of a take that isn't odd -/
theorem c_M_take_scan {X : CT} {oc : OC} (hX : CxO X mi_M_take oc) {σ : Mem} {N : Nat} {ln kd : Nat → Nat} (h : MP σ N ln kd) (m k : Nat) (h1 : 1 ≤ m) (h2 : m ≤ 254) (h3 : k ≤ m)
    (hG : ∀ e, e ≤ N → (∀ j, j < e → ¬ Fit ln kd m j) → (e < N → Fit ln kd m e) → Go X mi_M_take 71 [some (.inr (.inl 7)), some (.inl (nI m)), some (.inl (nI k)), some (.inl (nI 0)), some (.inl (nI e)), none, none] [] σ) :
    Go X mi_M_take 30 [some (.inr (.inl 7)), some (.inl (nI m)), some (.inl (nI k)), some (.inl (nI 0)), some (.inl (nI 0)), none, none] [] σ := by
  have e1 : nI m + nI 2 = nI (m + 2) := nI_add _ _
  refine c_M_take_30 hX h (nI m) _ _ _ _ (fun e he hp hq => ?_) N 0 (by omega) (fun j hj => absurd hj (Nat.not_lt_zero j))
  rw [e1] at hp hq
  refine hG e he (fun j hj hf => ?_) (fun z => ?_)
  · have g := h.1.lt (i := j) (by omega)
    rcases hp j hj with y | y
    · exact y hf.1
    · have := (nI_ltI (by omega) (by omega)).mp y
      have := hf.2
      omega
  · have g := h.1.lt z
    obtain ⟨y1, y2⟩ := hq z
    refine ⟨y1, ?_⟩
    have := (not_congr (nI_ltI (a := ln e) (b := m + 2) (by omega) (by omega))).mp y2
    omega
theorem c_M_take_none (m k : Nat) (h1 : 1 ≤ m) (h2 : m ≤ 254) (h3 : k ≤ m) (σ : Mem) (hd : σ 7 11 = 0) {N : Nat} {ln kd : Nat → Nat} (h : MP σ N ln kd) (q : ∀ i, i < N → ¬ Fit ln kd m i) : MetO y_M_take mi_M_take [.inr (.inl 7), .inl (nI m), .inl (nI k)] σ (.inl (some (.inl 0), st σ 7 0 3)) := by
  obtain ⟨t1, t2, t3, t4⟩ := tk_okN h1 h2 h3
  refine met_go ok_M_take ⟨rfl, rfl⟩ si_M_take (Nat.le_of_ble_eq_true rfl) ⟨trivial, trivial, trivial, trivial⟩ [30] 60 (fun X hX K R1 T1 hK hR hT => ?_)
  conv => whnf
  refine ⟨fun z => absurd z t1, fun _ => ?_⟩
  conv => whnf
  refine ⟨fun z => absurd z (Int32.not_lt.mpr t2), fun _ => ?_⟩
  conv => whnf
  refine ⟨fun z => absurd z t3, fun _ => ?_⟩
  conv => whnf
  refine ⟨fun _ => ?_, fun z => absurd t4 z⟩
  conv => whnf
  refine hK _ _ _ _ (c_M_take_scan hX h m k h1 h2 h3 (fun e e1 e2 e3 => ?_))
  obtain rfl : e = N := by
    rcases Nat.lt_or_ge e N with z | z
    · exact absurd (e3 z) (q e z)
    · omega
  refine Go_run ok_M_take hX [] 60 (fun K R1 T1 hK hR hT => ?_)
  conv => whnf
  refine ⟨fun _ => ?_, fun z => absurd hd z⟩
  conv => whnf
  refine ⟨fun _ => ?_, fun z => absurd rfl z⟩
  conv => whnf
  rw [h.2.1]
  refine ⟨fun z => absurd rfl z, fun _ => ?_⟩
  conv => whnf
  refine ⟨fun z => absurd z (cIn (k := 3) (by decide)), fun _ => ?_⟩
  conv => whnf
  exact hR _ _ rfl
/-- the rows behind a take -/
def mkM (σ : Mem) (ln : Nat → Nat) (e m k N : Nat) : Mem := st (st (if m + 5 ≤ ln e then cuM σ ln e (m + 2) N else σ) 10 e 1) 11 e (nI k)
def tkR (σ : Mem) (ln : Nat → Nat) (e m k N : Nat) : Mem := stA (mkM σ ln e m k N) 13 (clr (σ 13) (pos ln e + 1) (tkL (ln e) m - 2))
theorem c_M_take_227 {X : CT} {oc : OC} (hX : CxO X mi_M_take oc) {σ : Mem} {e p L : Nat} (he : e < 86) (hp : p + L ≤ 257) (hL : 2 ≤ L) (h8 : σ 8 e = nI p) (h9 : σ 9 e = nI L) {r : Nat} (hc : σ 7 0 = dc r) (a1 a2 a3 a5 : Option AV)
    (ho : oc = .inl (some (.inl (if r = 0 then nI (p + 1) else 0)), stA σ 13 (clr (σ 13) (p + 1) (L - 2)))) : ∀ (n i : Nat), i + n = L - 2 →
    Go X mi_M_take 227 [some (.inr (.inl 7)), a1, a2, a3, some (.inl (nI e)), a5, some (.inl (nI (p + 1 + i)))] [] (stA σ 13 (clr (σ 13) (p + 1) i)) := by
  have e1 : nI p + nI L - nI 1 = nI (p + L - 1) := by rw [nI_add, pk_sub (by omega)]
  have e3 : nI p + nI 1 = nI (p + 1) := nI_add _ _
  intro n
  induction n with
  | zero =>
    intro i hi
    have ei : i = L - 2 := by omega
    refine Go_run ok_M_take hX [] 60 (fun K R1 T1 hK hR hT => ?_)
    conv => whnf
    have g8 : stA σ 13 (clr (σ 13) (p + 1) i) 8 e = nI p := h8
    have g9 : stA σ 13 (clr (σ 13) (p + 1) i) 9 e = nI L := h9
    have gc : stA σ 13 (clr (σ 13) (p + 1) i) 7 0 = dc r := hc
    refine ⟨vp_in_nI (by omega) (by decide), ?_⟩
    rw [nI_clamp (by omega), g8]
    conv => whnf
    refine ⟨vp_in_nI (by omega) (by decide), ?_⟩
    rw [nI_clamp (by omega), g9]
    conv => whnf
    rw [e1]
    refine ⟨fun _ => ?_, fun z => absurd (nI_le (by omega) (by omega)) z⟩
    conv => whnf
    rw [gc]
    refine ⟨fun z => ?_, fun z => ?_⟩
    · conv => whnf
      refine ⟨vp_in_nI (by omega) (by decide), ?_⟩
      rw [nI_clamp (by omega), g8]
      conv => whnf
      refine hR _ _ ?_
      rw [ho, if_pos (dc_0 z), e3, ei]; rfl
    · conv => whnf
      refine hR _ _ ?_
      rw [ho, if_neg (dc_1 z), ei]; rfl
  | succ n ih =>
    intro i hi
    have e2 : nI (p + 1 + i) + nI 1 = nI (p + 1 + (i + 1)) := nI_add _ _
    refine Go_run ok_M_take hX [227] 60 (fun K R1 T1 hK hR hT => ?_)
    conv => whnf
    have g8 : stA σ 13 (clr (σ 13) (p + 1) i) 8 e = nI p := h8
    have g9 : stA σ 13 (clr (σ 13) (p + 1) i) 9 e = nI L := h9
    refine ⟨vp_in_nI (by omega) (by decide), ?_⟩
    rw [nI_clamp (by omega), g8]
    conv => whnf
    refine ⟨vp_in_nI (by omega) (by decide), ?_⟩
    rw [nI_clamp (by omega), g9]
    conv => whnf
    rw [e1]
    refine ⟨fun z => absurd z (nI_ge (by omega) (by omega)), fun _ => ?_⟩
    conv => whnf
    refine ⟨vp_in_nI (by omega) (by decide), ?_⟩
    rw [nI_clamp (by omega)]
    conv => whnf
    refine hK _ _ _ _ ?_
    show Go X mi_M_take 227 [some (.inr (.inl 7)), a1, a2, a3, some (.inl (nI e)), a5, some (.inl (nI (p + 1 + i) + nI 1))] [] (st (stA σ 13 (clr (σ 13) (p + 1) i)) 13 (p + 1 + i) 0)
    rw [e2, st_stA, stA_stA, stA_self, clr_s]
    exact ih (i + 1) (by omega)
theorem c_M_take_200 {X : CT} {oc : OC} (hX : CxO X mi_M_take oc) {σ : Mem} {e p L k : Nat} (he : e < 86) (hp : p + L ≤ 257) (hL : 2 ≤ L) (h8 : σ 8 e = nI p) (h9 : σ 9 e = nI L) {r : Nat} (hc : σ 7 0 = dc r) (a1 a3 a5 : Option AV)
    (ho : oc = .inl (some (.inl (if r = 0 then nI (p + 1) else 0)), stA (st (st σ 10 e 1) 11 e (nI k)) 13 (clr (σ 13) (p + 1) (L - 2)))) :
    Go X mi_M_take 200 [some (.inr (.inl 7)), a1, some (.inl (nI k)), a3, some (.inl (nI e)), a5, none] [] σ := by
  have e3 : nI p + nI 1 = nI (p + 1) := nI_add _ _
  refine Go_run ok_M_take hX [227] 60 (fun K R1 T1 hK hR hT => ?_)
  conv => whnf
  refine ⟨vp_in_nI (by omega) (by decide), ?_⟩
  rw [nI_clamp (by omega)]
  conv => whnf
  refine ⟨vp_in_nI (by omega) (by decide), ?_⟩
  rw [nI_clamp (by omega)]
  conv => whnf
  refine ⟨vp_in_nI (by omega) (by decide), ?_⟩
  rw [nI_clamp (by omega)]
  conv => whnf
  refine hK _ _ _ _ ?_
  have h := c_M_take_227 hX (σ := st (st σ 10 e 1) 11 e (nI k)) he hp hL h8 h9 hc a1 (some (.inl (nI k))) a3 a5 ho (L - 2) 0 (by omega)
  have e4 : (st (st σ 10 e 1) 11 e (nI k)) 13 = σ 13 := rfl
  rw [clr_0, stA_id] at h
  show Go X mi_M_take 227 [some (.inr (.inl 7)), a1, some (.inl (nI k)), a3, some (.inl (nI e)), a5, some (.inl (σ 8 e + nI 1))] [] (st (st σ 10 e 1) 11 e (nI k))
  rw [h8, e3]
  exact h
theorem c_M_take_137 {X : CT} {oc : OC} (hX : CxO X mi_M_take oc) {σ : Mem} (hb : bl (σ 7 11)) (hl : lOK (σ 7 10)) {N : Nat} {ln kd : Nat → Nat} (h : MP σ N ln kd) (m k e : Nat) (h1 : 1 ≤ m) (h3 : k ≤ m) (he : e < N) (hf : Fit ln kd m e) (a3 : Option AV) (cu : Int32) (hcu : (m + 5 ≤ ln e → cu = nI 1) ∧ (¬ m + 5 ≤ ln e → cu = nI 0))
    (hA : ∀ j, j < tkL (ln e) m - 2 → j ≤ 1000 → σ 7 10 = nI j → oc = .inl (some (.inl 0), st (spF σ j) 7 0 1))
    (hB : lGo (σ 7 10) (tkL (ln e) m - 2) → ∀ r σ1, Dz (spO σ (tkL (ln e) m - 2)) (tkC (ln e) m) r σ1 → oc = .inl (some (.inl (if r = 0 then nI (pos ln e + 1) else 0)), if r < 2 then tkR σ1 ln e m k N else σ1)) :
    Go X mi_M_take 137 [some (.inr (.inl 7)), some (.inl (nI m)), some (.inl (nI k)), a3, some (.inl (nI e)), some (.inl cu), none] [] σ := by
  have hN := h.1.N85
  have g := h.1.lt he
  have g3 := h.1.ln3 he
  have g4 := h.1.end he
  have hm2 := hf.2
  obtain ⟨m8, m9, m10, m11⟩ := h.2.2 e he
  have tail : ∀ (x : Int32) (q : x = nI (tkL (ln e) m - 2)), Go X mi_M_take 156 [some (.inr (.inl 7)), some (.inl (nI m)), some (.inl (nI k)), a3, some (.inl (nI e)), some (.inl cu), none] [.inl x, .inr (.inl 7)] σ := by
    intro x q
    subst q
    have hL : tkL (ln e) m ≤ ln e ∧ 3 ≤ tkL (ln e) m := by unfold tkL; split <;> omega
    refine Go_run ok_M_take hX [180] 80 (fun K R1 T1 hK hR hT => ?_)
    conv => whnf
    refine ⟨tkL (ln e) m - 2, rfl, by omega, hb, hl, fun hgo => ?_, fun j j1 j2 j3 => ?_⟩
    · conv => whnf
      refine ⟨fun _ => ?_, fun z => absurd (by decide) z⟩
      have hb' : bl (spO σ (tkL (ln e) m - 2) 7 11) := hb
      have hl' : lOK (spO σ (tkL (ln e) m - 2) 7 10) := by
        show lOK (lsub (σ 7 10) _)
        unfold lsub
        rcases hgo with w | ⟨j, w1, w2, w3⟩
        · rw [w, if_pos m1_lt]; exact Or.inl rfl
        · rw [w3, if_neg (nI_pos (by omega)), pk_sub w1]; exact Or.inr ⟨_, by omega, rfl⟩
      have h' : MP (spO σ (tkL (ln e) m - 2)) N ln kd := h.cong rfl rfl rfl rfl rfl
      have rest : ∀ y : Int32, y = nI (tkC (ln e) m) → Go X mi_M_take 180 [some (.inr (.inl 7)), some (.inl (nI m)), some (.inl (nI k)), a3, some (.inl (nI e)), some (.inl cu), none] [.inl y, .inr (.inl 7)] (spO σ (tkL (ln e) m - 2)) := by
        intro y q
        subst q
        refine Go_run ok_M_take hX [200] 80 (fun K R1 T1 hK hR hT => ?_)
        conv => whnf
        refine ⟨tkC (ln e) m, rfl, by unfold tkC; split <;> omega, hb', hl', fun r σ1 hds => ?_⟩
        have ho := hB hgo r σ1 hds
        have h1' := h'.dz hds
        obtain ⟨n8, n9, n10, n11⟩ := h1'.2.2 e he
        conv => whnf
        refine ⟨fun z => ?_, fun z => ?_⟩
        · have z2 := Dz.v0 z
          conv => whnf
          rw [hds.code]
          refine ⟨fun z => absurd (dc_0 z) (by omega), fun _ => ?_⟩
          conv => whnf
          refine hR _ _ ?_
          rw [ho, if_neg (by omega), if_neg (by omega)]; rfl
        · have z2 := Dz.v1 z
          rw [if_pos z2] at ho
          by_cases c : m + 5 ≤ ln e
          · have hL5 : tkL (ln e) m = m + 2 := by unfold tkL; rw [if_pos c]
            have e5 : nI m + nI 2 = nI (m + 2) := nI_add _ _
            conv => whnf
            rw [hcu.1 c]
            refine ⟨fun z => absurd z (by decide), fun _ => ?_⟩
            conv => whnf
            rw [e5]
            refine ⟨N, ln, kd, e, m + 2, rfl, h1', he, by omega, by omega, ?_⟩
            conv => whnf
            refine hK _ _ _ _ (c_M_take_200 hX (σ := cuM σ1 ln e (m + 2) N) (e := e) (p := pos ln e) (L := m + 2) (r := r) (by omega) (by omega) (by omega) ?_ ?_ hds.code _ _ _ ?_)
            · show upd (suF (σ1 8) (e + 1) N) (e + 1) _ e = _
              rw [upd_n _ _ (by omega), suF_lo _ (by omega)]
              exact n8
            · show upd (upd (suF (σ1 9) (e + 1) N) (e + 1) _) e _ e = _
              rw [upd_s]
            · rw [ho]
              unfold tkR mkM
              rw [if_pos c, hL5]; rfl
          · have hL5 : tkL (ln e) m = ln e := by unfold tkL; rw [if_neg c]
            conv => whnf
            rw [hcu.2 c]
            refine ⟨fun _ => ?_, fun z => absurd rfl z⟩
            conv => whnf
            refine hK _ _ _ _ (c_M_take_200 hX (e := e) (p := pos ln e) (L := ln e) (r := r) (by omega) (by omega) (by omega) n8 n9 hds.code _ _ _ ?_)
            rw [ho]
            unfold tkR mkM
            rw [if_neg c, hL5]
      by_cases c : m + 5 ≤ ln e
      · conv => whnf
        rw [hcu.1 c]
        refine ⟨fun z => absurd z (by decide), fun _ => ?_⟩
        conv => whnf
        refine hK _ _ _ _ ?_
        exact hcu.1 c ▸ rest (nI 4) (by unfold tkC; rw [if_pos c])
      · conv => whnf
        rw [hcu.2 c]
        refine ⟨fun _ => ?_, fun z => absurd rfl z⟩
        conv => whnf
        refine hK _ _ _ _ ?_
        exact hcu.2 c ▸ rest (nI 2) (by unfold tkC; rw [if_neg c])
    · conv => whnf
      refine ⟨fun z => absurd z (nI_pos (by omega)), fun _ => ?_⟩
      conv => whnf
      refine hR _ _ ?_
      rw [hA j j1 j2 j3]; rfl
  refine Go_run ok_M_take hX [156] 80 (fun K R1 T1 hK hR hT => ?_)
  by_cases c : m + 5 ≤ ln e
  · conv => whnf
    rw [hcu.1 c]
    refine ⟨fun z => absurd z (by decide), fun _ => ?_⟩
    conv => whnf
    refine hK _ _ _ _ ?_
    exact hcu.1 c ▸ tail (nI m) (by unfold tkL; rw [if_pos c]; rfl)
  · conv => whnf
    rw [hcu.2 c]
    refine ⟨fun _ => ?_, fun z => absurd rfl z⟩
    conv => whnf
    refine ⟨vp_in_nI (by omega) (by decide), ?_⟩
    rw [nI_clamp (by omega), m9]
    conv => whnf
    refine hK _ _ _ _ ?_
    exact hcu.2 c ▸ tail (nI (ln e) - nI 2) (by unfold tkL; rw [if_neg c, pk_sub (by omega)])
theorem c_M_take_ok (m k : Nat) (h1 : 1 ≤ m) (h2 : m ≤ 254) (h3 : k ≤ m) (σ : Mem) (hd : σ 7 11 = 0) (hl : lOK (σ 7 10)) {N : Nat} {ln kd : Nat → Nat} (h : MP σ N ln kd) {e : Nat} (he : e < N) (hf : Fit ln kd m e) (hlo : ∀ j, j < e → ¬ Fit ln kd m j) (oc : OC)
    (hA : ∀ j, j < tkL (ln e) m - 2 → j ≤ 1000 → σ 7 10 = nI j → oc = .inl (some (.inl 0), st (spF (st σ 7 0 (nI 0)) j) 7 0 1))
    (hB : lGo (σ 7 10) (tkL (ln e) m - 2) → ∀ r σ1, Dz (spO (st σ 7 0 (nI 0)) (tkL (ln e) m - 2)) (tkC (ln e) m) r σ1 → oc = .inl (some (.inl (if r = 0 then nI (pos ln e + 1) else 0)), if r < 2 then tkR σ1 ln e m k N else σ1)) :
    MetO y_M_take mi_M_take [.inr (.inl 7), .inl (nI m), .inl (nI k)] σ oc := by
  have hN := h.1.N85
  have g := h.1.lt he
  have e5 : nI m + nI 5 = nI (m + 5) := nI_add _ _
  have h' := h.st7 0 (nI 0) (by decide)
  obtain ⟨m8, m9, m10, m11⟩ := h'.2.2 e he
  obtain ⟨t1, t2, t3, t4⟩ := tk_okN h1 h2 h3
  refine met_go ok_M_take ⟨rfl, rfl⟩ si_M_take (Nat.le_of_ble_eq_true rfl) ⟨trivial, trivial, trivial, trivial⟩ [30] 60 (fun X hX K R1 T1 hK hR hT => ?_)
  conv => whnf
  refine ⟨fun z => absurd z t1, fun _ => ?_⟩
  conv => whnf
  refine ⟨fun z => absurd z (Int32.not_lt.mpr t2), fun _ => ?_⟩
  conv => whnf
  refine ⟨fun z => absurd z t3, fun _ => ?_⟩
  conv => whnf
  refine ⟨fun _ => ?_, fun z => absurd t4 z⟩
  conv => whnf
  refine hK _ _ _ _ (c_M_take_scan hX h m k h1 h2 h3 (fun e' e1 e2 e3 => ?_))
  obtain rfl : e' = e := by
    rcases Nat.lt_trichotomy e' e with z | z | z
    · exact absurd (e3 (by omega)) (hlo e' z)
    · exact z
    · exact absurd hf (e2 e z)
  have h137 := fun a3 cu hcu => c_M_take_137 hX (σ := st σ 7 0 (nI 0)) (Or.inl hd) hl h' m k e' h1 h3 he hf a3 cu hcu hA hB
  refine Go_run ok_M_take hX [137] 60 (fun K R1 T1 hK hR hT => ?_)
  conv => whnf
  refine ⟨fun _ => ?_, fun z => absurd hd z⟩
  conv => whnf
  refine ⟨fun _ => ?_, fun z => absurd rfl z⟩
  conv => whnf
  rw [h.2.1]
  refine ⟨fun _ => ?_, fun z => absurd (nI_inj (a := e') (b := N) (by omega) (by omega) z) (by omega)⟩
  conv => whnf
  refine ⟨fun _ => ?_, fun z => absurd c0n z⟩
  conv => whnf
  refine ⟨vp_in_nI (by omega) (by decide), ?_⟩
  rw [nI_clamp (by omega), m9]
  conv => whnf
  rw [e5]
  refine ⟨fun z => ?_, fun z => ?_⟩
  · conv => whnf
    have z1 := (nI_ltI (by omega) (by omega)).mp z
    exact hK _ _ _ _ (h137 _ _ ⟨fun q => by omega, fun _ => rfl⟩)
  · conv => whnf
    have z1 := (not_congr (nI_ltI (a := ln e') (b := m + 5) (by omega) (by omega))).mp z
    exact hK _ _ _ _ (h137 _ _ ⟨fun _ => rfl, fun q => by omega⟩)
theorem MP.mk_c {σ : Mem} {N : Nat} {ln kd : Nat → Nat} (h : MP σ N ln kd) {e m k : Nat} (he : e < N) (hk : k ≤ m) (hm : 1 ≤ m) (c : m + 5 ≤ ln e) : MP (mkM σ ln e m k N) (N + 1) (xln ln e (m + 2)) (xkd kd e (k + 1)) := by
  refine ⟨h.1.xn he (by omega) (by omega) (by omega), ?_, fun i hi => ?_⟩
  · unfold mkM; rw [if_pos c]; rfl
  · unfold mkM; rw [if_pos c]
    show upd (suF (σ 8) (e + 1) N) (e + 1) (nI (pos ln e + (m + 2))) i = _ ∧ upd (upd (suF (σ 9) (e + 1) N) (e + 1) (nI (ln e - (m + 2)))) e (nI (m + 2)) i = _ ∧ upd (upd (suF (σ 10) (e + 1) N) (e + 1) 0) e 1 i = _ ∧ (_ → upd (suF (σ 11) (e + 1) N) e (nI k) i = _)
    rcases Nat.lt_trichotomy i e with q | q | q
    · obtain ⟨m8, m9, m10, m11⟩ := h.2.2 i (by omega)
      rw [upd_n _ _ (by omega), upd_n _ _ (by omega), upd_n _ _ (by omega), upd_n _ _ (by omega), upd_n _ _ (by omega), upd_n _ _ (by omega), suF_lo _ (by omega), suF_lo _ (by omega), suF_lo _ (by omega), suF_lo _ (by omega), xln_lo q, xkd_lo q, xpos_lo (by omega)]
      exact ⟨m8, m9, m10, m11⟩
    · subst q
      obtain ⟨m8, m9, m10, m11⟩ := h.2.2 i (by omega)
      rw [upd_n _ _ (by omega), upd_s, upd_s, upd_s, suF_lo _ (by omega), xln_at, xkd_at, xpos_lo (by omega)]
      exact ⟨m8, rfl, by unfold ub; rw [if_neg (by omega)], fun _ => rfl⟩
    · rcases Nat.lt_or_ge (e + 1) i with q2 | q2
      · obtain ⟨m8, m9, m10, m11⟩ := h.2.2 (i - 1) (by omega)
        rw [upd_n _ _ (by omega), upd_n _ _ (by omega), upd_n _ _ (by omega), upd_n _ _ (by omega), upd_n _ _ (by omega), upd_n _ _ (by omega), suF_hi _ q2 (by omega), suF_hi _ q2 (by omega), suF_hi _ q2 (by omega), suF_hi _ q2 (by omega), xln_hi q2, xkd_hi q2, xpos_hi (by omega) q2]
        exact ⟨m8, m9, m10, m11⟩
      · obtain rfl : i = e + 1 := by omega
        rw [upd_s, upd_n _ _ (by omega), upd_s, upd_n _ _ (by omega), upd_s, xln_a1, xkd_a1, xpos_a1]
        exact ⟨rfl, rfl, rfl, fun z => absurd rfl z⟩
theorem MP.mk_n {σ : Mem} {N : Nat} {ln kd : Nat → Nat} (h : MP σ N ln kd) {e m k : Nat} (he : e < N) (hk : k ≤ m) (hm : m + 2 ≤ ln e) (c : ¬ m + 5 ≤ ln e) : MP (mkM σ ln e m k N) N ln (ukd kd e (k + 1)) := by
  refine ⟨h.1.un he (by omega), ?_, fun i hi => ?_⟩
  · unfold mkM; rw [if_neg c]; exact h.2.1
  · unfold mkM; rw [if_neg c]
    show σ 8 i = _ ∧ σ 9 i = _ ∧ upd (σ 10) e 1 i = _ ∧ (_ → upd (σ 11) e (nI k) i = _)
    obtain ⟨m8, m9, m10, m11⟩ := h.2.2 i hi
    unfold ukd
    by_cases q : i = e
    · subst q
      rw [upd_s, upd_s, if_pos rfl]
      exact ⟨m8, m9, by unfold ub; rw [if_neg (by omega)], fun _ => rfl⟩
    · rw [upd_n _ _ q, upd_n _ _ q, if_neg q]
      exact ⟨m8, m9, m10, m11⟩
