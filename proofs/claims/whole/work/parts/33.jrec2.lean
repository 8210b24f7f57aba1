def mi_M_recover : MI := (b_M_recover, 3, "RootedWordsModel", some .int, 4, tbl_of 102 f_M_recover, fl_M, [(49, (7, 1, ct_M_spend)), (91, (7, 0, ct_M_markAll)), (94, (7, 0, ct_M_clean))], [])
theorem ok_M_recover : MOK mi_M_recover := ⟨tbl_ok k_M_recover, flok_M rfl, List.forall_mem_cons.mpr ⟨okV 2 (by decide) s_M_spend rfl (Nat.le_of_ble_eq_true rfl) (Nat.le_of_ble_eq_true rfl) (by decide +kernel) lk_M_49 vv_M_spend, List.forall_mem_cons.mpr ⟨okV 2 (by decide) s_M_markAll rfl (Nat.le_of_ble_eq_true rfl) (Nat.le_of_ble_eq_true rfl) (by decide +kernel) lk_M_91 vv_M_markAll, List.forall_mem_cons.mpr ⟨okV 2 (by decide) s_M_clean rfl (Nat.le_of_ble_eq_true rfl) (Nat.le_of_ble_eq_true rfl) (by decide +kernel) lk_M_94 vv_M_clean, (fun _ h => absurd h List.not_mem_nil)⟩⟩⟩⟩
theorem si_M_recover : ∀ q ∈ m_tr mi_M_recover, SiteF mi_M_recover q := (fun _ h => absurd h List.not_mem_nil)
theorem c_M_recover_up (σ : Mem) (hd : σ 7 11 = 0) : MetO y_M_recover mi_M_recover [.inr (.inl 7)] σ (.inl (some (.inl (-1)), st σ 7 0 0)) := by
  refine met_go ok_M_recover ⟨rfl, rfl⟩ si_M_recover (Nat.le_of_ble_eq_true rfl) ⟨trivial, trivial⟩ [] 60 (fun X hX K R1 T1 hK hR hT => ?_)
  conv => whnf
  refine ⟨fun z => absurd hd z, fun _ => ?_⟩
  conv => whnf
  exact hR _ _ rfl
theorem c_M_rec_69 {X : CT} {oc : OC} (hX : CxO X mi_M_recover oc) {σ : Mem} {N : Nat} {ln kd : Nat → Nat} (h : MP σ N ln kd) (ho : oc = .inl (some (.inl (nI (cntP (fun j => kd j ≠ 0) N))), σ)) : ∀ (n i : Nat), i + n = N →
    Go X mi_M_recover 69 [some (.inr (.inl 7)), some (.inl (nI (cntP (fun j => kd j ≠ 0) i))), some (.inl (nI i))] [] σ := by
  have hN := h.1.N85
  intro n
  induction n with
  | zero =>
    intro i hi
    obtain rfl : i = N := by omega
    refine Go_run ok_M_recover hX [69] 60 (fun K R1 T1 hK hR hT => ?_)
    conv => whnf
    rw [h.2.1]
    refine ⟨fun _ => ?_, fun h1 => absurd (nI_le (Nat.le_refl _) (by omega)) h1⟩
    conv => whnf
    exact hR _ _ ho
  | succ n ih =>
    intro i hi
    obtain ⟨m8, m9, m10, m11⟩ := h.2.2 i (by omega)
    have e2 : nI i + nI 1 = nI (i + 1) := nI_add i 1
    have e3 : nI (cntP (fun j => kd j ≠ 0) i) + nI 1 = nI (cntP (fun j => kd j ≠ 0) i + 1) := nI_add _ _
    have h9 := ih (i + 1) (by omega)
    unfold cntP at h9
    refine Go_run ok_M_recover hX [69] 60 (fun K R1 T1 hK hR hT => ?_)
    conv => whnf
    rw [h.2.1]
    refine ⟨fun z => absurd z (nI_ge (by omega) (by omega)), fun _ => ?_⟩
    conv => whnf
    refine ⟨vp_in_nI (by omega) (by decide), ?_⟩
    rw [nI_clamp (by omega), m10]
    conv => whnf
    refine ⟨fun z => ?_, fun z => ?_⟩
    · conv => whnf
      refine hK _ _ _ _ ?_
      show Go X mi_M_recover 69 [some (.inr (.inl 7)), some (.inl (nI (cntP (fun j => kd j ≠ 0) i))), some (.inl (nI i + nI 1))] [] σ
      rw [if_neg (fun q => q (ub_0.mp z))] at h9
      rw [e2]; exact h9
    · conv => whnf
      refine hK _ _ _ _ ?_
      show Go X mi_M_recover 69 [some (.inr (.inl 7)), some (.inl (nI (cntP (fun j => kd j ≠ 0) i) + nI 1)), some (.inl (nI i + nI 1))] [] σ
      rw [if_pos (fun q => z (ub_0.mpr q))] at h9
      rw [e2, e3]; exact h9
/-- the memory in which clean begins -/
noncomputable def clB (σ : Mem) (N : Nat) (ln kd : Nat → Nat) : Mem := stA (st σ 7 12 (nI 0)) 12 (maF (st σ 7 12 (nI 0)) N ln kd)
theorem c_M_rec_41 {X : CT} {oc : OC} (hX : CxO X mi_M_recover oc) {σ τ' : Mem} {N : Nat} {ln kd : Nat → Nat} (h : MP σ N ln kd) {ok : Bool} (hcl : MetO y_M_clean mi_M_clean [.inr (.inl 7)] (clB σ N ln kd) (.inl (some (.inl (if ok = true then 1 else 0)), τ')))
    (h0 : ok = false → oc = .inl (some (.inl 0), τ')) (h1 : ok = true → ∃ N' ln' kd', MP τ' N' ln' kd' ∧ oc = .inl (some (.inl (nI (cntP (fun j => kd' j ≠ 0) N'))), st τ' 7 11 0)) : Go X mi_M_recover 41 [some (.inr (.inl 7)), none, none] [] σ := by
  refine Go_run ok_M_recover hX [69] 60 (fun K R1 T1 hK hR hT => ?_)
  conv => whnf
  refine ⟨N, ln, kd, h.st7 12 (nI 0) (by decide), ?_⟩
  conv => whnf
  refine ⟨rfl, _, τ', hcl, ?_⟩
  cases ok with
  | true =>
    obtain ⟨N', ln', kd', hm, ho⟩ := h1 rfl
    conv => whnf
    refine ⟨fun _ => ?_, fun z => absurd z (by decide)⟩
    conv => whnf
    refine ⟨Or.inl rfl, ?_⟩
    conv => whnf
    exact hK _ _ _ _ (c_M_rec_69 hX (hm.st7 11 0 (by decide)) ho N' 0 (by omega))
  | false =>
    conv => whnf
    refine ⟨fun z => absurd rfl z, fun _ => ?_⟩
    conv => whnf
    refine hR _ _ ?_
    rw [h0 rfl]; rfl
theorem c_M_rec_0 {σ : Mem} (hd : σ 7 11 = 1) (h0 : σ 7 12 = 0) {oc : OC} (hG : ∀ X, CxO X mi_M_recover oc → Go X mi_M_recover 41 [some (.inr (.inl 7)), none, none] [] (D0 σ)) : MetO y_M_recover mi_M_recover [.inr (.inl 7)] σ oc := by
  refine met_go ok_M_recover ⟨rfl, rfl⟩ si_M_recover (Nat.le_of_ble_eq_true rfl) ⟨trivial, trivial⟩ [41] 60 (fun X hX K R1 T1 hK hR hT => ?_)
  conv => whnf
  refine ⟨fun _ => ?_, fun z => absurd (hd.symm.trans z) (by decide)⟩
  conv => whnf
  refine ⟨fun _ => ?_, fun z => absurd (show σ 7 12 ≤ 0 by rw [h0]; decide) z⟩
  conv => whnf
  exact hK _ _ _ _ (hG X hX)
theorem c_M_rec_k {σ : Mem} (hd : σ 7 11 = 1) {k : Nat} (hk : 1 ≤ k) (hk4 : k ≤ 4) (h0 : σ 7 12 = nI k) (hl : lGo (σ 7 10) (k + 1)) {oc : OC} (hG : ∀ X, CxO X mi_M_recover oc → Go X mi_M_recover 41 [some (.inr (.inl 7)), none, none] [] (Dt (k + 1) σ)) : MetO y_M_recover mi_M_recover [.inr (.inl 7)] σ oc := by
  have e1 : nI k + nI 1 = nI (k + 1) := nI_add _ _
  have hlo : lOK (σ 7 10) := hl.elim Or.inl (fun ⟨j, _, h2, h3⟩ => Or.inr ⟨j, h2, h3⟩)
  have h0' : st σ 7 0 (nI 0) 7 12 = nI k := h0
  refine met_go ok_M_recover ⟨rfl, rfl⟩ si_M_recover (Nat.le_of_ble_eq_true rfl) ⟨trivial, trivial⟩ [41] 60 (fun X hX K R1 T1 hK hR hT => ?_)
  conv => whnf
  refine ⟨fun _ => ?_, fun z => absurd (hd.symm.trans z) (by decide)⟩
  conv => whnf
  rw [h0']
  refine ⟨fun z => absurd z (cIn hk (by omega)), fun _ => ?_⟩
  conv => whnf
  rw [h0', e1]
  refine ⟨k + 1, rfl, by omega, Or.inr hd, hlo, fun _ => ?_, fun j j1 j2 j3 => absurd hl (not_lGo j1 j2 j3)⟩
  conv => whnf
  refine ⟨fun _ => ?_, fun z => absurd (by decide) z⟩
  conv => whnf
  exact hK _ _ _ _ (hG X hX)
theorem c_M_rec_f {σ : Mem} (hd : σ 7 11 = 1) {k j : Nat} (hk : 1 ≤ k) (hk4 : k ≤ 4) (h0 : σ 7 12 = nI k) (hj : j < k + 1) (hl : σ 7 10 = nI j) : MetO y_M_recover mi_M_recover [.inr (.inl 7)] σ (.inl (some (.inl 0), st (spF (D0 σ) j) 7 0 1)) := by
  have e1 : nI k + nI 1 = nI (k + 1) := nI_add _ _
  have h0' : st σ 7 0 (nI 0) 7 12 = nI k := h0
  refine met_go ok_M_recover ⟨rfl, rfl⟩ si_M_recover (Nat.le_of_ble_eq_true rfl) ⟨trivial, trivial⟩ [41] 60 (fun X hX K R1 T1 hK hR hT => ?_)
  conv => whnf
  refine ⟨fun _ => ?_, fun z => absurd (hd.symm.trans z) (by decide)⟩
  conv => whnf
  rw [h0']
  refine ⟨fun z => absurd z (cIn hk (by omega)), fun _ => ?_⟩
  conv => whnf
  rw [h0', e1]
  refine ⟨k + 1, rfl, by omega, Or.inr hd, Or.inr ⟨j, by omega, hl⟩, fun z => absurd z (not_lGo hj (by omega) hl), fun j' j1 j2 j3 => ?_⟩
  obtain rfl : j' = j := nI_inj (by omega) (by omega) (j3.symm.trans hl)
  conv => whnf
  refine ⟨fun z => absurd z (nI_pos (by omega)), fun _ => ?_⟩
  conv => whnf
  exact hR _ _ rfl
/-- from the search on -/
theorem rc_cpl {σ σ1 : Mem} {codes : List (String × Nat)} {N : Nat} {ln kd : Nat → Nat} {T : Mem → Mem} (hin : (eIS, 1) ∈ codes) (hX : MetO y_X_recover mi_X_recover [.inr (.inl 0)] σ (rcO σ1 N ln kd))
    (hm : MP σ N ln kd) (hσ : RM σ σ1) (he : EF (σ1 2) σ N ln kd) (h265 : σ1 2 265 = 0) (h14 : σ1 1 4 = 1) (hb : ∀ j, bl (σ 12 j))
    (hT : ∀ μ, RM σ μ → (∀ a, a ≠ 7 → T μ a = μ a) ∧ T μ 7 1 = σ 7 1 ∧ T μ 7 0 = 0 ∧ T μ 7 9 = σ1 1 2 ∧ T μ 7 10 = σ1 1 3 ∧ T μ 7 11 = 1 ∧ lOK (T μ 7 10))
    (hM : ∀ μ oc, RM σ μ → (∀ X, CxO X mi_M_recover oc → Go X mi_M_recover 41 [some (.inr (.inl 7)), none, none] [] (T μ)) → MetO y_M_recover mi_M_recover [.inr (.inl 7)] μ oc) :
    Cpl y_X_recover mi_X_recover [.inr (.inl 0)] y_M_recover mi_M_recover [.inr (.inl 7)] codes σ := by
  have hp := he.1
  have g0 : ∀ a, a ≠ 4 → a ≠ 5 → a ≠ 6 → lsF (srM σ1 N ln kd) ln N a = σ1 a := fun a h4 h5 h6 => (lsF_ne _ _ _ _ h4).trans (srM_ne hp a h4 h5 h6)
  have hne : ∀ a, 7 ≤ a → (rcF σ1 N ln kd).1 a = σ1 a := fun a ha => (fuF_ne _ _ _ _ _ _ _ a (by omega) (by omega) (by omega)).trans (g0 a (by omega) (by omega) (by omega))
  have hrm : RM σ (rcF σ1 N ln kd).1 := fun a h1 h2 => (hne a h1).trans (hσ a h1 h2)
  have run : ∀ μ, RM σ μ → ∃ τ' ok, MetO y_M_clean mi_M_clean [.inr (.inl 7)] (clB (T μ) N ln kd) (.inl (some (.inl (if ok = true then 1 else 0)), τ')) ∧ (rcF σ1 N ln kd).2 = !ok ∧ (∀ a, a < 7 ∨ 12 < a → τ' a = μ a) ∧ ClO N (rsb (σ1 2) N ln kd) (rcF σ1 N ln kd).1 τ' ok := by
    intro μ hμ
    obtain ⟨t1, t2, t3, t4, t5, t6, t7⟩ := hT μ hμ
    have ta : ∀ a, 8 ≤ a → a ≤ 14 → st (T μ) 7 12 (nI 0) a = σ a := fun a h1 h2 => ((st_ne _ _ _ (by omega)).trans (t1 a (by omega))).trans (hμ a (by omega) h2)
    have hmw : mwd (st (T μ) 7 12 (nI 0)) = mwd σ := mwd_eq (ta 13 (by decide) (by decide)) (ta 14 (by decide) (by decide))
    have hmT : MP (st (T μ) 7 12 (nI 0)) N ln kd := hm.cong t2 (ta 8 (by decide) (by decide)) (ta 9 (by decide) (by decide)) (ta 10 (by decide) (by decide)) (ta 11 (by decide) (by decide))
    obtain ⟨τ', ok, q1, q2, q3, q4⟩ := cl_loop (rb := rsb (σ1 2) N ln kd) hm.1 (fun j _ hj => (rsb_iff.mp hj).used.2) (N + 1) 0 0 N ln kd (lsF (srM σ1 N ln kd) ln N) (clB (T μ) N ln kd) (by omega)
      ⟨Nat.zero_le _, by omega, rfl, fun t ht => by
        rw [Nat.zero_add] at ht ⊢
        refine ⟨rfl, rfl, ?_⟩
        have : clB (T μ) N ln kd 12 t ≠ 0 ↔ RS (mwd (st (T μ) 7 12 (nI 0))) N ln kd t := maF_rs ht
        rw [this, hmw, ← he.rs t]
        exact rsb_iff.symm, rfl, hmT.cong rfl rfl rfl rfl rfl, by
        rw [g0 2 (by decide) (by decide) (by decide)]
        exact he.m (ta 13 (by decide) (by decide)) (ta 14 (by decide) (by decide)), by
        rw [g0 2 (by decide) (by decide) (by decide)]; exact h265, rfl, by
        rw [g0 1 (by decide) (by decide) (by decide)]; exact t4.symm, by
        rw [g0 1 (by decide) (by decide) (by decide)]; exact t5.symm, by
        rw [g0 1 (by decide) (by decide) (by decide)]; exact h14, t6, t7, maF_bl (fun j => by rw [ta 12 (by decide) (by decide)]; exact hb j), t3⟩
    refine ⟨τ', ok, c_M_clean q1, q2, fun a ha => (q3 a ha).trans ?_, q4⟩
    show stA (st (T μ) 7 12 (nI 0)) 12 _ a = μ a
    rw [stA_ne _ _ (by omega), st_ne _ _ _ (by omega), t1 a (by omega)]
  have hmp : ∀ μ, RM σ μ → MP (T μ) N ln kd := by
    intro μ hμ
    obtain ⟨t1, t2, _⟩ := hT μ hμ
    exact hm.cong (by rw [t2]) ((t1 8 (by decide)).trans (hμ 8 (by decide) (by decide))) ((t1 9 (by decide)).trans (hμ 9 (by decide) (by decide))) ((t1 10 (by decide)).trans (hμ 10 (by decide) (by decide))) ((t1 11 (by decide)).trans (hμ 11 (by decide) (by decide)))
  unfold rcO at hX
  cases hf : (rcF σ1 N ln kd).2 with
  | true =>
    rw [hf, if_pos rfl] at hX
    obtain ⟨τ', ok, q1, q2, q3, q4⟩ := run _ hrm
    have hok : ok = false := by
      rw [hf] at q2
      cases ok with
      | true => exact absurd q2 (by decide)
      | false => rfl
    subst hok
    have hm1 := hM _ (.inl (some (.inl 0), τ')) hrm (fun X hX => c_M_rec_41 hX (hmp _ hrm) q1 (fun _ => rfl) (fun z => absurd z (by decide)))
    refine Or.inr ⟨eIS, 1, _, _, _, hin, hX, hm1, q4.cd, ?_⟩
    obtain ⟨N', ln', kd', k', w1, w2, w3, w4, w5⟩ := q4.hh
    have s1 := q3 1 (by omega)
    have s2 := q3 2 (by omega)
    exact ⟨⟨q4.lo, Or.inr q4.d4, by rw [s1]; exact q4.c2, by rw [s1]; exact q4.c3, by rw [s1, q4.d4]; exact q4.c4, q4.bm⟩, N', ln', kd', k', w1, w2, by rw [s2]; exact w3, fun z => absurd (q4.d4.symm.trans z) (by decide), by rw [s2]; exact w4⟩
  | false =>
    rw [hf, if_neg (by decide)] at hX
    have hμ : RM σ (st (st (rcF σ1 N ln kd).1 1 4 0) 15 0 (nI (cntP (RS (σ1 2) N ln kd) N))) := fun a h1 h2 => (st_ne _ _ _ (by omega)).trans ((st_ne _ _ _ (by omega)).trans (hrm a h1 h2))
    obtain ⟨τ', ok, q1, q2, q3, q4⟩ := run _ hμ
    have hok : ok = true := by
      rw [hf] at q2
      cases ok with
      | true => rfl
      | false => exact absurd q2 (by decide)
    subst hok
    obtain ⟨N', ln', kd', k', w1, w2, w3, w4, w5⟩ := q4.hh
    obtain ⟨w6, w7⟩ := w5 rfl
    subst w6
    have hv : nI (cntP (fun j => kd' j ≠ 0) N') = nI (cntP (RS (σ1 2) N ln kd) N) := by
      rw [w7, cntP_cong (Q := RS (σ1 2) N ln kd) (fun j _ => rsb_iff)]
    have hm1 := hM _ (.inl (some (.inl (nI (cntP (RS (σ1 2) N ln kd) N))), st τ' 7 11 0)) hμ (fun X hX => c_M_rec_41 hX (hmp _ hμ) q1 (fun z => absurd z (by decide)) (fun _ => ⟨N', ln', kd', w1, by rw [hv]⟩))
    have s1 := q3 1 (by omega)
    have s2 := q3 2 (by omega)
    have s15 := q3 15 (by omega)
    refine Or.inl ⟨_, _, _, hX, hm1, q4.cd, ?_, ?_⟩
    · refine ⟨⟨q4.lo, Or.inl rfl, ?_, ?_, ?_, q4.bm⟩, N', ln', kd', 0, w1.cong rfl rfl rfl rfl rfl, w2, ?_, fun _ => rfl, ?_⟩
      · show τ' 1 2 = τ' 7 9
        rw [s1]; exact q4.c2
      · show τ' 1 3 = τ' 7 10
        rw [s1]; exact q4.c3
      · show τ' 1 4 = 0
        rw [s1]; rfl
      · show nOK (τ' 2) 0
        rw [s2]; exact w3
      · show EF (eff (τ' 2) 0) _ N' ln' kd'
        rw [s2]; exact w4.m rfl rfl
    · show τ' 15 0 = _
      rw [s15]; rfl
theorem cp_recover {σ : Mem} (hJ : J σ) : Cpl y_X_recover mi_X_recover [.inr (.inl 0)] y_M_recover mi_M_recover [.inr (.inl 7)] [(eIS, 1)] σ := by
  rcases hJ.bl with hd | hd
  · have h4 : σ 1 4 = 0 := by rw [hJ.1.2.2.2.2.1]; exact hd
    exact Cpl.ok hJ (RQ.rf σ) (c_X_recover_up σ h4) (fun τ hτ => c_M_recover_up τ (by rw [hτ.e7]; exact hd))
  · obtain ⟨hC, N, ln, kd, k, hm, h12, hn, _, he⟩ := hJ
    have h4 : σ 1 4 = 1 := by rw [hC.2.2.2.2.1]; exact hd
    have hk4 := hn.2.1
    by_cases hk : k = 0
    · subst hk
      have h265 : σ 2 265 = 0 := hn.1
      have he0 : EF (σ 2) σ N ln kd := he
      refine rc_cpl (T := D0) (by simp) (c_X_recover_np σ h4 h265 he0.1) hm (fun _ _ _ => rfl) he0 h265 h4 hC.2.2.2.2.2 (fun μ hμ => ⟨fun a ha => st_ne _ _ _ ha, D0_7 hμ 1 (by decide), rfl, (D0_7 hμ 9 (by decide)).trans hC.2.2.1.symm, (D0_7 hμ 10 (by decide)).trans hC.2.2.2.1.symm, (D0_7 hμ 11 (by decide)).trans hd, by rw [D0_7 hμ 10 (by decide)]; exact hC.1⟩)
        (fun μ oc hμ hG => c_M_rec_0 (by rw [hμ.e7]; exact hd) (by rw [hμ.e7]; exact h12) hG)
    · have h265 : ¬ σ 2 265 = 0 := by
        rw [hn.1]
        exact fun z => hk (nI_inj (a := k) (b := 0) (by omega) (by decide) z)
      have hflen : ∀ n i, (fin (σ 2) i n).length = n := by
        intro n
        induction n with
        | zero => intro i; rfl
        | succ n ih => intro i; exact congrArg Nat.succ (ih (i + 1))
      have hflt : ∀ n i, i + n ≤ k → ∀ q ∈ fin (σ 2) i n, q.1 < 265 := by
        intro n
        induction n with
        | zero => intro i _ q hq; exact absurd hq List.not_mem_nil
        | succ n ih =>
          intro i hi q hq
          rcases List.mem_cons.mp hq with rfl | hq
          · obtain ⟨p, p1, p2⟩ := hn.2.2 i (by omega)
            show (σ 2 (266 + 2 * i)).toNatClampNeg < 265
            rw [p2, nI_clamp (by omega)]; exact p1
          · exact ih (i + 1) (by omega) q hq
      have hlen : (fin (σ 2) 0 k ++ [(265, (0 : Int32))]).length = k + 1 := by
        rw [List.length_append, hflen]; rfl
      have hLO : lOK (σ 1 3) := by rw [hC.2.2.2.1]; exact hC.1
      rcases lGo_or hLO (k + 1) with q | ⟨j, j1, j2, j3⟩
      · have hz := wrs_go (fin (σ 2) 0 k ++ [(265, 0)]) σ (by rw [hlen]; exact q)
        rw [hlen] at hz
        generalize hσ1 : stA (stA σ 2 (apl (σ 2) (fin (σ 2) 0 k ++ [(265, 0)]))) 1 (o1 (σ 1) (k + 1)) = σ1 at hz
        have z1 : σ1 1 = o1 (σ 1) (k + 1) := by rw [← hσ1]; rfl
        have z2 : σ1 2 = upd (eff (σ 2) k) 265 0 := by
          rw [← hσ1]
          show apl (σ 2) (fin (σ 2) 0 k ++ [(265, 0)]) = _
          rw [apl_app]; rfl
        have za : RM σ σ1 := fun a b1 b2 => by rw [← hσ1, stA_ne _ _ (by omega), stA_ne _ _ (by omega)]
        have he1 : EF (σ1 2) σ N ln kd := he.w (fun p hp => by rw [z2, upd_n _ _ (by omega)])
        have q' : lGo (σ 7 10) (k + 1) := by rw [← hC.2.2.2.1]; exact q
        refine rc_cpl (T := Dt (k + 1)) (by simp) (c_X_recover_fin σ σ1 h4 h265 hn hz he1.1) hm za he1 (by rw [z2, upd_s]) (by rw [z1]; exact h4) hC.2.2.2.2.2 (fun μ hμ => ⟨fun a ha => (spO_a _ _ a ha).trans (st_ne _ _ _ ha), (Dt_7 hμ (σz := σ) (fun _ _ _ => rfl) 1 (by decide)), rfl, ?_, ?_, (Dt_7 hμ (σz := σ) (fun _ _ _ => rfl) 11 (by decide)).trans hd, ?_⟩)
          (fun μ oc hμ hG => c_M_rec_k (by rw [hμ.e7]; exact hd) (by omega) hk4 (by rw [hμ.e7]; exact h12) (by rw [hμ.e7]; exact q') hG)
        · rw [Dt_7 hμ (σz := σ) (fun _ _ _ => rfl) 9 (by decide), z1]
          show σ 7 9 + _ = σ 1 2 + _
          rw [hC.2.2.1]
        · rw [Dt_7 hμ (σz := σ) (fun _ _ _ => rfl) 10 (by decide), z1]
          show lsub (σ 7 10) _ = lsub (σ 1 3) _
          rw [hC.2.2.2.1]
        · rw [Dt_7 hμ (σz := σ) (fun _ _ _ => rfl) 10 (by decide)]
          exact lOK_sub q'
      · have hz := wrs_fail (fin (σ 2) 0 k ++ [(265, 0)]) σ j (by rw [hlen]; exact j1) j2 j3
        have hXc := c_X_recover_cut σ h4 h265 hn (by rw [hz])
        rw [hz] at hXc
        have et : (fin (σ 2) 0 k ++ [(265, (0 : Int32))]).take j = (fin (σ 2) 0 k).take j := List.take_append_of_le_length (by rw [hflen]; omega)
        rw [et] at hXc
        generalize hσ1 : stA (stA σ 2 (apl (σ 2) ((fin (σ 2) 0 k).take j))) 1 (o1F (σ 1) j) = σ1 at hXc
        have z1 : σ1 1 = o1F (σ 1) j := by rw [← hσ1]; rfl
        have z2 : σ1 2 = apl (σ 2) ((fin (σ 2) 0 k).take j) := by rw [← hσ1]; rfl
        have za : RM σ σ1 := fun a b1 b2 => by rw [← hσ1, stA_ne _ _ (by omega), stA_ne _ _ (by omega)]
        have zhi : ∀ p, 265 ≤ p → σ1 2 p = σ 2 p := fun p hp => by
          rw [z2]
          exact apl_ne _ _ p (fun q hq => by have := hflt k 0 (by omega) q (List.mem_of_mem_take hq); omega)
        have zfin : fin (σ1 2) 0 k = fin (σ 2) 0 k := fin_cong k 0 (fun p hp => zhi p (by omega))
        have zeff : eff (σ1 2) k = eff (σ 2) k := by
          unfold eff
          rw [zfin, z2]
          exact apl_again _ _ _
        have j3' : σ 7 10 = nI j := by rw [← hC.2.2.2.1]; exact j3
        have hM := c_M_rec_f (σ := σ1) (by rw [za.e7]; exact hd) (k := k) (by omega) hk4 (by rw [za.e7]; exact h12) j1 (by rw [za.e7]; exact j3')
        refine Or.inr ⟨eIS, 1, σ1, _, _, by simp, hXc, hM, rfl, ?_⟩
        refine ⟨⟨Or.inl rfl, Or.inr rfl, ?_, ?_, ?_, fun i => ?_⟩, N, ln, kd, k, (za.mp hm).cong rfl rfl rfl rfl rfl, ?_, ⟨?_, hk4, fun i hi => ?_⟩, fun z => absurd (show (1 : Int32) = 0 from z) (by decide), ?_⟩
        · show σ1 1 2 = σ1 7 9 + nI j
          rw [z1, za.e7, ← hC.2.2.1]; rfl
        · show σ1 1 3 = -1
          rw [z1]; rfl
        · show σ1 1 4 = 1
          rw [z1]; rfl
        · show bl (σ1 12 i)
          rw [za 12 (by decide) (by decide)]; exact hC.2.2.2.2.2 i
        · show σ1 7 12 = nI k
          rw [za.e7]; exact h12
        · show σ1 2 265 = nI k
          rw [zhi _ (by omega)]; exact hn.1
        · show ∃ q, q < 265 ∧ σ1 2 (266 + 2 * i) = nI q
          rw [zhi _ (by omega)]; exact hn.2.2 i hi
        · show EF (eff (σ1 2) k) _ N ln kd
          rw [zeff]
          exact he.m (za 13 (by decide) (by decide)) (za 14 (by decide) (by decide))
