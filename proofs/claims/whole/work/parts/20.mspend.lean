/-! ===== the reference: counts of writes ===== -/
def lOK (x : Int32) : Prop := x = -1 ∨ ∃ j, j ≤ 1000 ∧ x = nI j
/-- so many writes take place -/
def lGo (x : Int32) (k : Nat) : Prop := x = -1 ∨ ∃ j, k ≤ j ∧ j ≤ 1000 ∧ x = nI j
def lsub (x : Int32) (k : Nat) : Int32 := if x < 0 then -1 else x - nI k
def spF (σ : Mem) (j : Nat) : Mem := st (st (st σ 7 9 (σ 7 9 + nI j)) 7 10 (-1)) 7 11 1
def spO (σ : Mem) (k : Nat) : Mem := st (st (st σ 7 9 (σ 7 9 + nI k)) 7 10 (lsub (σ 7 10) k)) 7 11 (σ 7 11)
theorem lGo_or {x : Int32} (h : lOK x) (k : Nat) : lGo x k ∨ ∃ j, j < k ∧ j ≤ 1000 ∧ x = nI j := by
  rcases h with h | ⟨j, h1, h2⟩
  · exact Or.inl (Or.inl h)
  · rcases Nat.lt_or_ge j k with q | q
    · exact Or.inr ⟨j, q, h1, h2⟩
    · exact Or.inl (Or.inr ⟨j, q, h1, h2⟩)
theorem m1_lt : (-1 : Int32) < 0 := by decide
def mi_M_thrown : MI := (b_M_thrown, 1, "RootedWordsModel", some .int, 0, tbl_of 5 f_M_thrown, fl_M, [], [])
theorem ok_M_thrown : MOK mi_M_thrown := ⟨tbl_ok k_M_thrown, flok_M rfl, (fun _ h => absurd h List.not_mem_nil)⟩
theorem si_M_thrown : ∀ q ∈ m_tr mi_M_thrown, SiteF mi_M_thrown q := (fun _ h => absurd h List.not_mem_nil)
theorem c_M_thrown (σ : Mem) : MetO y_M_thrown mi_M_thrown [.inr (.inl 7)] σ (.inl (some (.inl (σ 7 0)), σ)) := by
  refine met_go ok_M_thrown ⟨rfl, rfl⟩ si_M_thrown (Nat.le_of_ble_eq_true rfl) ⟨trivial, trivial⟩ [] 60 (fun X hX K R1 T1 hK hR hT => ?_)
  conv => whnf
  exact hR _ _ rfl
def mi_M_spend : MI := (b_M_spend, 4, "RootedWordsModel", some .int, 0, tbl_of 100 f_M_spend, fl_M, [], [])
theorem ok_M_spend : MOK mi_M_spend := ⟨tbl_ok k_M_spend, flok_M rfl, (fun _ h => absurd h List.not_mem_nil)⟩
theorem si_M_spend : ∀ q ∈ m_tr mi_M_spend, SiteF mi_M_spend q := (fun _ h => absurd h List.not_mem_nil)
theorem c_M_spend_tail {X : CT} {oc : OC} (hX : CxO X mi_M_spend oc) (σ : Mem) (k : Nat) (hk : k < 100000) (hb : bl (σ 7 11)) (h : lGo (σ 7 10) k) (ho : oc = .inl (some (.inl (-1)), spO σ k)) (x : Option AV) : Go X mi_M_spend 22 [some (.inr (.inl 7)), some (.inl (nI k)), x, none] [] σ := by
  refine Go_run ok_M_spend hX [] 60 (fun K R1 T1 hK hR hT => ?_)
  conv => whnf
  refine ⟨fun _ => ?_, fun z => absurd (nI_le (Nat.le_refl _) (by omega)) z⟩
  conv => whnf
  refine ⟨fun z => absurd rfl z, fun _ => ?_⟩
  conv => whnf
  refine ⟨fun z => ?_, fun z => ?_⟩
  · conv => whnf
    refine ⟨fun z2 => ?_, fun z2 => ?_⟩
    · conv => whnf
      refine ⟨Or.inr rfl, ?_⟩
      conv => whnf
      refine ⟨fun _ => ?_, fun z => absurd rfl z⟩
      conv => whnf
      refine hR _ _ ?_
      have hb1 : σ 7 11 = 1 := hb.resolve_left z2
      rw [ho]
      unfold spO lsub
      have z : 0 ≤ σ 7 10 := z
      rw [if_neg (Int32.not_lt.mpr z), hb1]; rfl
    · conv => whnf
      refine ⟨fun _ => ?_, fun z => absurd rfl z⟩
      conv => whnf
      refine ⟨Or.inl rfl, ?_⟩
      conv => whnf
      refine ⟨fun _ => ?_, fun z => absurd rfl z⟩
      conv => whnf
      refine hR _ _ ?_
      have hb1 : σ 7 11 = 0 := z2
      rw [ho]
      unfold spO lsub
      have z : 0 ≤ σ 7 10 := z
      rw [if_neg (Int32.not_lt.mpr z), hb1]; rfl
  · conv => whnf
    refine ⟨fun z2 => ?_, fun z2 => ?_⟩
    · conv => whnf
      refine ⟨Or.inr rfl, ?_⟩
      conv => whnf
      refine ⟨fun _ => ?_, fun z => absurd rfl z⟩
      conv => whnf
      refine hR _ _ ?_
      have hb1 : σ 7 11 = 1 := hb.resolve_left z2
      rw [ho]
      unfold spO lsub
      have z : ¬ 0 ≤ σ 7 10 := z
      rw [if_pos (Int32.not_le.mp z), hb1]; rfl
    · conv => whnf
      refine ⟨fun _ => ?_, fun z => absurd rfl z⟩
      conv => whnf
      refine ⟨Or.inl rfl, ?_⟩
      conv => whnf
      refine ⟨fun _ => ?_, fun z => absurd rfl z⟩
      conv => whnf
      refine hR _ _ ?_
      have hb1 : σ 7 11 = 0 := z2
      rw [ho]
      unfold spO lsub
      have z : ¬ 0 ≤ σ 7 10 := z
      rw [if_pos (Int32.not_le.mp z), hb1]; rfl
theorem c_M_spend_o (σ : Mem) (k : Nat) (hk : k < 100000) (hb : bl (σ 7 11)) (h : lGo (σ 7 10) k) : MetO y_M_spend mi_M_spend [.inr (.inl 7), .inl (nI k)] σ (.inl (some (.inl (-1)), spO σ k)) := by
  refine met_go ok_M_spend ⟨rfl, rfl⟩ si_M_spend (Nat.le_of_ble_eq_true rfl) ⟨trivial, trivial, trivial⟩ [22] 60 (fun X hX K R1 T1 hK hR hT => ?_)
  conv => whnf
  refine ⟨fun _ => ?_, fun z => ?_⟩
  · conv => whnf
    exact hK _ _ _ _ (c_M_spend_tail hX σ k hk hb h rfl none)
  · conv => whnf
    refine ⟨fun _ => ?_, fun z2 => ?_⟩
    · conv => whnf
      exact hK _ _ _ _ (c_M_spend_tail hX σ k hk hb h rfl none)
    · exfalso
      rcases h with h | ⟨j, h1, h2, h3⟩
      · exact z (by rw [h]; exact m1_lt)
      · exact z2 (by rw [h3]; exact nI_le h1 (by omega))
theorem c_M_spend_f (σ : Mem) (k j : Nat) (hk : k < 100000) (hb : bl (σ 7 11)) (hj : j < k) (h : σ 7 10 = nI j) : MetO y_M_spend mi_M_spend [.inr (.inl 7), .inl (nI k)] σ (.inl (some (.inl (nI j)), spF σ j)) := by
  refine met_go ok_M_spend ⟨rfl, rfl⟩ si_M_spend (Nat.le_of_ble_eq_true rfl) ⟨trivial, trivial, trivial⟩ [] 60 (fun X hX K R1 T1 hK hR hT => ?_)
  conv => whnf
  refine ⟨fun z => absurd z (by rw [h]; exact nI_pos (by omega)), fun _ => ?_⟩
  conv => whnf
  rw [h]
  refine ⟨fun z => absurd z (nI_ge hj (by omega)), fun _ => ?_⟩
  conv => whnf
  rw [h]
  refine ⟨fun z => absurd z (nI_ge hj (by omega)), fun _ => ?_⟩
  conv => whnf
  refine ⟨fun _ => ?_, fun z => absurd z (by decide)⟩
  conv => whnf
  refine ⟨fun z2 => ?_, fun z2 => ?_⟩
  · conv => whnf
    refine ⟨Or.inr rfl, ?_⟩
    conv => whnf
    refine ⟨fun z => absurd z (by decide), fun _ => ?_⟩
    conv => whnf
    exact hR _ _ rfl
  · conv => whnf
    refine ⟨fun z => absurd z (by decide), fun _ => ?_⟩
    conv => whnf
    refine ⟨Or.inr rfl, ?_⟩
    conv => whnf
    refine ⟨fun z => absurd z (by decide), fun _ => ?_⟩
    conv => whnf
    exact hR _ _ rfl
def ct_M_spend : CTy := fun as σ KN _ => ∃ k, as = [.inl (nI k)] ∧ k < 100000 ∧ bl (σ 7 11) ∧ lOK (σ 7 10) ∧ (lGo (σ 7 10) k → KN (some (.inl (-1))) (spO σ k)) ∧ (∀ j, j < k → j ≤ 1000 → σ 7 10 = nI j → KN (some (.inl (nI j))) (spF σ j))
theorem s_M_spend : Snd y_M_spend mi_M_spend 7 1 ct_M_spend := by
  intro as σ KN KX _ ⟨k, e, hk, hb, hl, h1, h2⟩
  subst e
  rcases lGo_or hl k with q | ⟨j, q1, q2, q3⟩
  · exact ⟨.inl (_, _), h1 q, c_M_spend_o σ k hk hb q⟩
  · exact ⟨.inl (_, _), h2 j q1 q2 q3, c_M_spend_f σ k j hk hb q1 q3⟩
def mi_M_change : MI := (b_M_change, 3, "RootedWordsModel", some .int, 1, tbl_of 45 f_M_change, fl_M, [(49, (7, 1, ct_M_spend))], [])
theorem ok_M_change : MOK mi_M_change := ⟨tbl_ok k_M_change, flok_M rfl, List.forall_mem_cons.mpr ⟨okV 2 (by decide) s_M_spend rfl (Nat.le_of_ble_eq_true rfl) (Nat.le_of_ble_eq_true rfl) (by decide +kernel) lk_M_49 vv_M_spend, (fun _ h => absurd h List.not_mem_nil)⟩⟩
theorem si_M_change : ∀ q ∈ m_tr mi_M_change, SiteF mi_M_change q := (fun _ h => absurd h List.not_mem_nil)
theorem c_M_change_o (σ : Mem) (k : Nat) (hk : k ≤ 4) (hb : bl (σ 7 11)) (h : lGo (σ 7 10) (3 * k + 2)) : MetO y_M_change mi_M_change [.inr (.inl 7), .inl (nI k)] σ (.inl (some (.inl 0), spO σ (3 * k + 2))) := by
  have e1 : nI 3 * nI k + nI 2 = nI (3 * k + 2) := by rw [pk_mul, nI_add]
  have hl : lOK (σ 7 10) := h.elim Or.inl (fun ⟨j, h1, h2, h3⟩ => Or.inr ⟨j, h2, h3⟩)
  refine met_go ok_M_change ⟨rfl, rfl⟩ si_M_change (Nat.le_of_ble_eq_true rfl) ⟨trivial, trivial, trivial⟩ [] 60 (fun X hX K R1 T1 hK hR hT => ?_)
  conv => whnf
  rw [e1]
  refine ⟨3 * k + 2, rfl, by omega, hb, hl, fun _ => ?_, fun j j1 j2 j3 => ?_⟩
  · conv => whnf
    refine ⟨fun z => absurd z (by decide), fun _ => ?_⟩
    conv => whnf
    exact hR _ _ rfl
  · exfalso
    rcases h with h | ⟨j', h1, h2, h3⟩
    · have h5 := nI_toInt (n := j) (by omega)
      rw [← j3, h] at h5
      have h6 : (-1 : Int32).toInt = -1 := by decide
      rw [h6] at h5
      omega
    · have := nI_inj (by omega) (by omega) (h3.symm.trans j3)
      omega
theorem not_lGo {x : Int32} {k j : Nat} (hj : j < k) (hj2 : j ≤ 1000) (h : x = nI j) : ¬ lGo x k := by
  rintro (h1 | ⟨j', h1, h2, h3⟩)
  · have h5 := nI_toInt (n := j) (by omega)
    rw [← h, h1] at h5
    have h6 : (-1 : Int32).toInt = -1 := by decide
    rw [h6] at h5
    omega
  · have := nI_inj (by omega) (by omega) (h3.symm.trans h)
    omega
theorem c_M_change_f (σ : Mem) (k j : Nat) (hk : k ≤ 4) (hb : bl (σ 7 11)) (hj : j < 3 * k + 2) (h : σ 7 10 = nI j) (r v : Int32) (hr : (2 * k < j → r = 1 ∧ v = nI k) ∧ (j ≤ 2 * k → r = 2 ∧ v = 0)) : MetO y_M_change mi_M_change [.inr (.inl 7), .inl (nI k)] σ (.inl (some (.inl r), st (spF σ j) 7 12 v)) := by
  have e1 : nI 3 * nI k + nI 2 = nI (3 * k + 2) := by rw [pk_mul, nI_add]
  have e2 : nI 2 * nI k = nI (2 * k) := pk_mul _ _
  refine met_go ok_M_change ⟨rfl, rfl⟩ si_M_change (Nat.le_of_ble_eq_true rfl) ⟨trivial, trivial, trivial⟩ [] 60 (fun X hX K R1 T1 hK hR hT => ?_)
  conv => whnf
  rw [e1]
  refine ⟨3 * k + 2, rfl, by omega, hb, Or.inr ⟨j, by omega, h⟩, fun q => absurd q (not_lGo hj (by omega) h), fun j' j1 j2 j3 => ?_⟩
  obtain rfl : j' = j := nI_inj (by omega) (by omega) (j3.symm.trans h)
  conv => whnf
  refine ⟨fun _ => ?_, fun z => absurd (nI_pos' (by omega)) z⟩
  conv => whnf
  rw [e2]
  refine ⟨fun z => ?_, fun z => ?_⟩
  · have z1 := (nI_leI (by omega) (by omega)).mp z
    conv => whnf
    rw [e2]
    refine ⟨fun _ => ?_, fun z2 => absurd z z2⟩
    conv => whnf
    refine hR _ _ ?_
    rw [(hr.2 z1).1, (hr.2 z1).2]; rfl
  · have z1 := (not_congr (nI_leI (a := j') (b := 2 * k) (by omega) (by omega))).mp z
    conv => whnf
    rw [e2]
    refine ⟨fun z2 => absurd z2 z, fun _ => ?_⟩
    conv => whnf
    refine hR _ _ ?_
    rw [(hr.1 (by omega)).1, (hr.1 (by omega)).2]; rfl
def ct_M_change : CTy := fun as σ KN _ => ∃ k, as = [.inl (nI k)] ∧ k ≤ 4 ∧ bl (σ 7 11) ∧ lOK (σ 7 10) ∧ (lGo (σ 7 10) (3 * k + 2) → KN (some (.inl 0)) (spO σ (3 * k + 2))) ∧ (∀ j, 2 * k < j → j < 3 * k + 2 → σ 7 10 = nI j → KN (some (.inl 1)) (st (spF σ j) 7 12 (nI k))) ∧ (∀ j, j ≤ 2 * k → σ 7 10 = nI j → KN (some (.inl 2)) (st (spF σ j) 7 12 0))
theorem s_M_change : Snd y_M_change mi_M_change 7 1 ct_M_change := by
  intro as σ KN KX _ ⟨k, e, hk, hb, hl, h1, h2, h3⟩
  subst e
  rcases lGo_or hl (3 * k + 2) with q | ⟨j, q1, q2, q3⟩
  · exact ⟨.inl (_, _), h1 q, c_M_change_o σ k hk hb q⟩
  · rcases Nat.lt_or_ge (2 * k) j with z | z
    · exact ⟨.inl (_, _), h2 j z q1 q3, c_M_change_f σ k j hk hb q1 q3 1 (nI k) ⟨fun _ => ⟨rfl, rfl⟩, fun y => absurd y (by omega)⟩⟩
    · exact ⟨.inl (_, _), h3 j z q3, c_M_change_f σ k j hk hb q1 q3 2 0 ⟨fun y => absurd y (by omega), fun _ => ⟨rfl, rfl⟩⟩⟩
def dsO (σ : Mem) (k : Nat) : Mem := st (spO σ (3 * k + 2)) 7 0 0
def ds1 (σ : Mem) (k j : Nat) : Mem := st (st (spF σ j) 7 12 (nI k)) 7 0 1
def ds2 (σ : Mem) (j : Nat) : Mem := st (st (spF σ j) 7 12 0) 7 0 1
def mi_M_does : MI := (b_M_does, 3, "RootedWordsModel", some .boolean, 2, tbl_of 30 f_M_does, fl_M, [(56, (7, 1, ct_M_change))], [])
theorem ok_M_does : MOK mi_M_does := ⟨tbl_ok k_M_does, flok_M rfl, List.forall_mem_cons.mpr ⟨okV 2 (by decide) s_M_change rfl (Nat.le_of_ble_eq_true rfl) (Nat.le_of_ble_eq_true rfl) (by decide +kernel) lk_M_56 vv_M_change, (fun _ h => absurd h List.not_mem_nil)⟩⟩
theorem si_M_does : ∀ q ∈ m_tr mi_M_does, SiteF mi_M_does q := (fun _ h => absurd h List.not_mem_nil)
theorem c_M_does_o (σ : Mem) (k : Nat) (hk : k ≤ 4) (hb : bl (σ 7 11)) (hl : lOK (σ 7 10)) (h : lGo (σ 7 10) (3 * k + 2)) : MetO y_M_does mi_M_does [.inr (.inl 7), .inl (nI k)] σ (.inl (some (.inl 1), dsO σ k)) := by
  refine met_go ok_M_does ⟨rfl, rfl⟩ si_M_does (Nat.le_of_ble_eq_true rfl) ⟨trivial, trivial, trivial⟩ [] 60 (fun X hX K R1 T1 hK hR hT => ?_)
  conv => whnf
  refine ⟨k, rfl, hk, hb, hl, fun _ => ?_, fun j j1 j2 j3 => absurd h (not_lGo j2 (by omega) j3), fun j j1 j2 => absurd h (not_lGo (by omega) (by omega) j2)⟩
  conv => whnf
  refine ⟨fun _ => ?_, fun z => absurd (by decide) z⟩
  conv => whnf
  refine ⟨fun z => absurd z (by decide), fun _ => ?_⟩
  conv => whnf
  exact ⟨rfl, hR _ _ rfl⟩
theorem c_M_does_1 (σ : Mem) (k j : Nat) (hk : k ≤ 4) (hb : bl (σ 7 11)) (hj : 2 * k < j) (hj2 : j < 3 * k + 2) (h : σ 7 10 = nI j) : MetO y_M_does mi_M_does [.inr (.inl 7), .inl (nI k)] σ (.inl (some (.inl 1), ds1 σ k j)) := by
  refine met_go ok_M_does ⟨rfl, rfl⟩ si_M_does (Nat.le_of_ble_eq_true rfl) ⟨trivial, trivial, trivial⟩ [] 60 (fun X hX K R1 T1 hK hR hT => ?_)
  conv => whnf
  refine ⟨k, rfl, hk, hb, Or.inr ⟨j, by omega, h⟩, fun q => absurd q (not_lGo hj2 (by omega) h), fun j' j1 j2 j3 => ?_, fun j' j1 j2 => ?_⟩
  · obtain rfl : j' = j := nI_inj (by omega) (by omega) (j3.symm.trans h)
    conv => whnf
    refine ⟨fun z => absurd z (by decide), fun _ => ?_⟩
    conv => whnf
    refine ⟨fun z => absurd z (by decide), fun _ => ?_⟩
    conv => whnf
    exact ⟨rfl, hR _ _ rfl⟩
  · have : j' = j := nI_inj (by omega) (by omega) (j2.symm.trans h)
    omega
theorem c_M_does_2 (σ : Mem) (k j : Nat) (hk : k ≤ 4) (hb : bl (σ 7 11)) (hj : j ≤ 2 * k) (h : σ 7 10 = nI j) : MetO y_M_does mi_M_does [.inr (.inl 7), .inl (nI k)] σ (.inl (some (.inl 0), ds2 σ j)) := by
  refine met_go ok_M_does ⟨rfl, rfl⟩ si_M_does (Nat.le_of_ble_eq_true rfl) ⟨trivial, trivial, trivial⟩ [] 60 (fun X hX K R1 T1 hK hR hT => ?_)
  conv => whnf
  refine ⟨k, rfl, hk, hb, Or.inr ⟨j, by omega, h⟩, fun q => absurd q (not_lGo (by omega : j < _) (by omega) h), fun j' j1 j2 j3 => ?_, fun j' j1 j2 => ?_⟩
  · have : j' = j := nI_inj (by omega) (by omega) (j3.symm.trans h)
    omega
  · obtain rfl : j' = j := nI_inj (by omega) (by omega) (j2.symm.trans h)
    conv => whnf
    refine ⟨fun z => absurd z (by decide), fun _ => ?_⟩
    conv => whnf
    refine ⟨fun _ => ?_, fun z => absurd (by decide) z⟩
    conv => whnf
    exact ⟨rfl, hR _ _ rfl⟩
/-- how a change of k words ends: 0 done, 1 cut off behind its note, 2 cut off before -/
def Dz (σ : Mem) (k r : Nat) (σ1 : Mem) : Prop := (lGo (σ 7 10) (3 * k + 2) ∧ r = 0 ∧ σ1 = dsO σ k) ∨ (∃ j, 2 * k < j ∧ j < 3 * k + 2 ∧ σ 7 10 = nI j ∧ r = 1 ∧ σ1 = ds1 σ k j) ∨ (∃ j, j ≤ 2 * k ∧ σ 7 10 = nI j ∧ r = 2 ∧ σ1 = ds2 σ j)
def dv (r : Nat) : Int32 := if r < 2 then 1 else 0
def dc (r : Nat) : Int32 := if r = 0 then 0 else 1
theorem Dz.ex {σ : Mem} (hl : lOK (σ 7 10)) (k : Nat) : ∃ r σ1, Dz σ k r σ1 := by
  rcases lGo_or hl (3 * k + 2) with q | ⟨j, q1, q2, q3⟩
  · exact ⟨_, _, Or.inl ⟨q, rfl, rfl⟩⟩
  · rcases Nat.lt_or_ge (2 * k) j with z | z
    · exact ⟨_, _, Or.inr (Or.inl ⟨j, z, q1, q3, rfl, rfl⟩)⟩
    · exact ⟨_, _, Or.inr (Or.inr ⟨j, z, q3, rfl, rfl⟩)⟩
theorem Dz.uniq {σ : Mem} {k r r' : Nat} {σ1 σ2 : Mem} (hk : k ≤ 4) (h : Dz σ k r σ1) (h' : Dz σ k r' σ2) : r = r' ∧ σ1 = σ2 := by
  rcases h with ⟨a1, rfl, rfl⟩ | ⟨j, a1, a2, a3, rfl, rfl⟩ | ⟨j, a1, a3, rfl, rfl⟩ <;> rcases h' with ⟨b1, rfl, rfl⟩ | ⟨i, b1, b2, b3, rfl, rfl⟩ | ⟨i, b1, b3, rfl, rfl⟩
  · exact ⟨rfl, rfl⟩
  · exact absurd a1 (not_lGo b2 (by omega) b3)
  · exact absurd a1 (not_lGo (j := i) (by omega) (by omega) b3)
  · exact absurd b1 (not_lGo a2 (by omega) a3)
  · obtain rfl : i = j := nI_inj (by omega) (by omega) (b3.symm.trans a3)
    exact ⟨rfl, rfl⟩
  · obtain rfl : i = j := nI_inj (by omega) (by omega) (b3.symm.trans a3)
    omega
  · exact absurd b1 (not_lGo (j := j) (by omega) (by omega) a3)
  · obtain rfl : i = j := nI_inj (by omega) (by omega) (b3.symm.trans a3)
    omega
  · obtain rfl : i = j := nI_inj (by omega) (by omega) (b3.symm.trans a3)
    exact ⟨rfl, rfl⟩
theorem Dz.code {σ : Mem} {k r : Nat} {σ1 : Mem} (h : Dz σ k r σ1) : σ1 7 0 = dc r := by
  rcases h with ⟨a1, rfl, rfl⟩ | ⟨j, a1, a2, a3, rfl, rfl⟩ | ⟨j, a1, a3, rfl, rfl⟩ <;> rfl
theorem Dz.ne {σ : Mem} {k r : Nat} {σ1 : Mem} (h : Dz σ k r σ1) (a : Nat) (ha : a ≠ 7) : σ1 a = σ a := by
  rcases h with ⟨a1, rfl, rfl⟩ | ⟨j, a1, a2, a3, rfl, rfl⟩ | ⟨j, a1, a3, rfl, rfl⟩
  · unfold dsO spO; simp only [st_stA]; simp only [stA_ne _ _ ha]
  · unfold ds1 spF; simp only [st_stA]; simp only [stA_ne _ _ ha]
  · unfold ds2 spF; simp only [st_stA]; simp only [stA_ne _ _ ha]
theorem Dz.n {σ : Mem} {k r : Nat} {σ1 : Mem} (h : Dz σ k r σ1) : σ1 7 1 = σ 7 1 := by
  rcases h with ⟨a1, rfl, rfl⟩ | ⟨j, a1, a2, a3, rfl, rfl⟩ | ⟨j, a1, a3, rfl, rfl⟩ <;> rfl
theorem Dz.v0 {r : Nat} (h : dv r = 0) : 2 ≤ r := by
  unfold dv at h
  by_cases q : r < 2
  · rw [if_pos q] at h; exact absurd h (by decide)
  · omega
theorem Dz.v1 {r : Nat} (h : ¬ dv r = 0) : r < 2 := by
  unfold dv at h
  by_cases q : r < 2
  · exact q
  · rw [if_neg q] at h; exact absurd rfl h
theorem dc_0 {r : Nat} (h : dc r ≤ 0) : r = 0 := by
  unfold dc at h
  by_cases q : r = 0
  · exact q
  · rw [if_neg q] at h; exact absurd h (by decide)
theorem dc_1 {r : Nat} (h : ¬ dc r ≤ 0) : r ≠ 0 := by
  rintro rfl
  exact h (by decide)
def ct_M_does : CTy := fun as σ KN _ => ∃ k, as = [.inl (nI k)] ∧ k ≤ 4 ∧ bl (σ 7 11) ∧ lOK (σ 7 10) ∧ ∀ r σ1, Dz σ k r σ1 → KN (some (.inl (dv r))) σ1
theorem s_M_does : Snd y_M_does mi_M_does 7 1 ct_M_does := by
  intro as σ KN KX _ ⟨k, e, hk, hb, hl, h1⟩
  subst e
  rcases lGo_or hl (3 * k + 2) with q | ⟨j, q1, q2, q3⟩
  · exact ⟨.inl (_, _), h1 0 _ (Or.inl ⟨q, rfl, rfl⟩), c_M_does_o σ k hk hb hl q⟩
  · rcases Nat.lt_or_ge (2 * k) j with z | z
    · exact ⟨.inl (_, _), h1 1 _ (Or.inr (Or.inl ⟨j, z, q1, q3, rfl, rfl⟩)), c_M_does_1 σ k j hk hb z q1 q3⟩
    · exact ⟨.inl (_, _), h1 2 _ (Or.inr (Or.inr ⟨j, z, q3, rfl, rfl⟩)), c_M_does_2 σ k j hk hb z q3⟩
