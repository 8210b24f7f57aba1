/-! ===== give, take, recover ===== -/
def mi_X_give : MI := (b_X_give, 4, "RootedWords", some .int, 5, tbl_of 81 f_X_give, fl_X, [(34, (0, 0, ct_X_refuseWhenDown)), (55, (0, 1, ct_X_lengthAt)), (69, (0, 1, ct_X_refuseUnlessUsed)), (72, (0, 1, ct_X_isFreeAt)), (76, (0, 2, ct_X_makeFree))], [])
theorem ok_X_give : MOK mi_X_give := ⟨tbl_ok k_X_give, flok_X rfl, List.forall_mem_cons.mpr ⟨okV 0 (by decide) s_X_refuseWhenDown rfl (Nat.le_of_ble_eq_true rfl) (Nat.le_of_ble_eq_true rfl) (by decide +kernel) lk_X_34 vv_X_refuseWhenDown, List.forall_mem_cons.mpr ⟨okV 0 (by decide) s_X_lengthAt rfl (Nat.le_of_ble_eq_true rfl) (Nat.le_of_ble_eq_true rfl) (by decide +kernel) lk_X_55 vv_X_lengthAt, List.forall_mem_cons.mpr ⟨okV 0 (by decide) s_X_refuseUnlessUsed rfl (Nat.le_of_ble_eq_true rfl) (Nat.le_of_ble_eq_true rfl) (by decide +kernel) lk_X_69 vv_X_refuseUnlessUsed, List.forall_mem_cons.mpr ⟨okV 0 (by decide) s_X_isFreeAt rfl (Nat.le_of_ble_eq_true rfl) (Nat.le_of_ble_eq_true rfl) (by decide +kernel) lk_X_72 vv_X_isFreeAt, List.forall_mem_cons.mpr ⟨okV 0 (by decide) s_X_makeFree rfl (Nat.le_of_ble_eq_true rfl) (Nat.le_of_ble_eq_true rfl) (by decide +kernel) lk_X_76 vv_X_makeFree, (fun _ h => absurd h List.not_mem_nil)⟩⟩⟩⟩⟩⟩
theorem si_X_give : ∀ q ∈ m_tr mi_X_give, SiteF mi_X_give q := (fun _ h => absurd h List.not_mem_nil)
theorem c_X_give_down (a : Int32) (σ : Mem) (h : σ 1 4 = 1) : MetO y_X_give mi_X_give [.inr (.inl 0), .inl a] σ (.inr (eIS, σ)) := by
  refine met_go ok_X_give ⟨rfl, rfl⟩ si_X_give (Nat.le_of_ble_eq_true rfl) ⟨trivial, trivial, trivial⟩ [] 60 (fun X hX K R1 T1 hK hR hT => ?_)
  conv => whnf
  refine ⟨Or.inr h, fun _ => ?_, fun h1 => absurd (h.symm.trans h1) (by decide)⟩
  exact hT _ _ _ rfl
theorem c_X_give_no (a : Int32) (σ : Mem) (h : σ 1 4 = 0) {N : Nat} {ln kd : Nat → Nat} (hp : HP (σ 2) N ln kd) (q : ¬ Us N ln kd a) : MetO y_X_give mi_X_give [.inr (.inl 0), .inl a] σ (.inr (eNE, lsF σ ln N)) := by
  refine met_go ok_X_give ⟨rfl, rfl⟩ si_X_give (Nat.le_of_ble_eq_true rfl) ⟨trivial, trivial, trivial⟩ [] 60 (fun X hX K R1 T1 hK hR hT => ?_)
  conv => whnf
  refine ⟨Or.inl h, fun h1 => absurd (h.symm.trans h1) (by decide), fun _ => ?_⟩
  conv => whnf
  refine ⟨N, ln, kd, hp, fun _ => ?_, fun h1 => absurd h1 q⟩
  exact hT _ _ _ rfl
/-- the first and the last extent that give joins -/
def gv0 (kd : Nat → Nat) (e : Nat) : Nat := if 0 < e ∧ kd (e - 1) = 0 then e - 1 else e
def gv1 (N : Nat) (kd : Nat → Nat) (e : Nat) : Nat := if e + 1 < N ∧ kd (e + 1) = 0 then e + 1 else e
def mfO (σ : Mem) (f n : Nat) (r : Option AV) : OC := wou (peF σ 0 f n 0) (chgL (peF σ 0 f n 0 3) 2) r
theorem c_X_give_e {X : CT} {oc : OC} (hX : CxO X mi_X_give oc) (a : Int32) (f b : Nat) (σ : Mem) (hb : b ≤ 257) (hfb : f < b) (ho : oc = mfO σ f (b - f) (some (.inl (nI (f + 1))))) : Go X mi_X_give 69 [some (.inr (.inl 0)), some (.inl a), some (.inl (nI f)), some (.inl (nI b))] [] σ := by
  have e1 : nI b - nI f = nI (b - f) := pk_sub (by omega)
  have e2 : nI f + nI 1 = nI (f + 1) := nI_add _ _
  refine Go_run ok_X_give hX [] 60 (fun K R1 T1 hK hR hT => ?_)
  conv => whnf
  rw [e1]
  refine ⟨f, b - f, rfl, by omega, by omega, fun σ' h2 => ?_, fun σ' h2 => ?_⟩
  · conv => whnf
    refine hR _ _ ?_
    rw [ho, e2]
    unfold mfO wou
    rw [h2]; rfl
  · refine hT _ _ _ ?_
    rw [ho]
    unfold mfO wou
    rw [h2]; rfl
theorem pos_prev {ln : Nat → Nat} {e : Nat} (h : 0 < e) : pos ln e = pos ln (e - 1) + ln (e - 1) := by
  obtain ⟨d, rfl⟩ : ∃ d, e = d + 1 := ⟨e - 1, by omega⟩
  rfl
theorem c_X_give_44 {X : CT} {oc : OC} (hX : CxO X mi_X_give oc) (a : Int32) (b e : Nat) (σ : Mem) {N : Nat} {ln kd : Nat → Nat} (hp : HP (σ 2) N ln kd) (he : e < N) (hb : b ≤ 257) (hfb : pos ln e < b) (ho : oc = mfO σ (pos ln (gv0 kd e)) (b - pos ln (gv0 kd e)) (some (.inl (nI (pos ln (gv0 kd e) + 1))))) :
    Go X mi_X_give 44 [some (.inr (.inl 0)), some (.inl a), some (.inl (nI (pos ln e))), some (.inl (nI b))] [] σ := by
  have g := hp.lt he
  have e1 : nI (pos ln e) - nI 1 = nI (pos ln e - 1) := pk_sub (by omega)
  refine Go_run ok_X_give hX [69] 60 (fun K R1 T1 hK hR hT => ?_)
  conv => whnf
  refine ⟨fun h1 => ?_, fun h1 => ?_⟩
  · conv => whnf
    have h2 := (nI_leI (a := pos ln e) (b := 1) (by omega) (by decide)).mp h1
    have h3 : e = 0 := by
      have := pos_lo (ln := ln) (fun i hi => hp.ln3 hi) e (by omega)
      omega
    have h4 : gv0 kd e = e := by unfold gv0; rw [if_neg (fun z => by omega)]
    rw [h4] at ho
    exact hK _ _ _ _ (c_X_give_e hX a (pos ln e) b σ hb hfb ho)
  · have h2 := (not_congr (nI_leI (a := pos ln e) (b := 1) (by omega) (by decide))).mp h1
    have h3 : 0 < e := by
      rcases Nat.eq_zero_or_pos e with z | z
      · exact absurd (by rw [z]; exact Nat.le_refl 1) h2
      · exact z
    have g2 := hp.lt (i := e - 1) (by omega)
    have g3 := hp.ln3 (i := e - 1) (by omega)
    have gp := pos_prev (ln := ln) h3
    have ht : tgAt (σ 2) (pos ln e - 1) (ln (e - 1)) (kd (e - 1)) := ⟨by rw [gp]; exact hp.tag2 (by omega), by omega, by omega, by omega⟩
    conv => whnf
    refine ⟨pos ln e - 1, ln (e - 1), kd (e - 1), congrArg (fun x => [(.inl x : AV)]) e1, ht, ?_⟩
    conv => whnf
    refine ⟨fun h4 => ?_, fun h4 => ?_⟩
    · conv => whnf
      have h5 : gv0 kd e = e := by unfold gv0; rw [if_neg (fun z => fr_1.mp h4 z.2)]
      rw [h5] at ho
      exact hK _ _ _ _ (c_X_give_e hX a (pos ln e) b σ hb hfb ho)
    · conv => whnf
      refine ⟨pos ln e - 1, ln (e - 1), kd (e - 1), congrArg (fun x => [(.inl x : AV)]) e1, ht, ?_⟩
      conv => whnf
      refine hK _ _ _ _ ?_
      have h5 : gv0 kd e = e - 1 := by unfold gv0; rw [if_pos ⟨h3, fr_0.mp h4⟩]
      rw [h5] at ho
      have e5 : nI (pos ln e) - nI (ln (e - 1)) = nI (pos ln (e - 1)) := by rw [pk_sub (by omega)]; exact nI_eqI (by omega)
      show Go X mi_X_give 69 [some (.inr (.inl 0)), some (.inl a), some (.inl (nI (pos ln e) - nI (ln (e - 1)))), some (.inl (nI b))] [] σ
      rw [e5]
      exact c_X_give_e hX a (pos ln (e - 1)) b σ hb (by omega) ho
theorem c_X_give_ok (σ : Mem) (h : σ 1 4 = 0) {N : Nat} {ln kd : Nat → Nat} (hp : HP (σ 2) N ln kd) {e : Nat} (he : e < N) (hk : kd e ≠ 0) :
    MetO y_X_give mi_X_give [.inr (.inl 0), .inl (nI (pos ln e + 1))] σ (mfO (lsF σ ln N) (pos ln (gv0 kd e)) (pos ln (gv1 N kd e) + ln (gv1 N kd e) - pos ln (gv0 kd e)) (some (.inl (nI (pos ln (gv0 kd e) + 1))))) := by
  have g := hp.lt he
  have g3 := hp.ln3 he
  have g4 := hp.end he
  have e1 : nI (pos ln e + 1) - nI 1 = nI (pos ln e) := nI_pred _
  have e2 : nI (pos ln e) + nI (ln e) = nI (pos ln e + ln e) := nI_add _ _
  refine met_go ok_X_give ⟨rfl, rfl⟩ si_X_give (Nat.le_of_ble_eq_true rfl) ⟨trivial, trivial, trivial⟩ [44] 60 (fun X hX K R1 T1 hK hR hT => ?_)
  conv => whnf
  refine ⟨Or.inl h, fun h1 => absurd (h.symm.trans h1) (by decide), fun _ => ?_⟩
  conv => whnf
  refine ⟨N, ln, kd, hp, fun h1 => absurd ⟨e, he, hk, rfl⟩ h1, fun _ => ?_⟩
  conv => whnf
  rw [e1]
  refine ⟨pos ln e, ln e, kd e, rfl, tg_of (w := σ 2) hp he, ?_⟩
  conv => whnf
  rw [e2]
  refine ⟨fun h1 => ?_, fun h1 => ?_⟩
  · conv => whnf
    have h2 := (nI_ltI (a := 256) (b := pos ln e + ln e) (by decide) (by omega)).mp h1
    have h3 : gv1 N kd e = e := by
      unfold gv1
      refine if_neg (fun z => ?_)
      have := hp.lt z.1
      have := hp.sep he (j := e + 1) (by omega)
      omega
    rw [h3] at hX
    exact hK _ _ _ _ (c_X_give_44 hX _ (pos ln e + ln e) e (lsF σ ln N) hp he (by omega) (by omega) rfl)
  · have h2 := (not_congr (nI_ltI (a := 256) (b := pos ln e + ln e) (by decide) (by omega))).mp h1
    have h3 : e + 1 < N := by
      rcases Nat.lt_or_ge (e + 1) N with z | z
      · exact z
      · have z2 : e + 1 = N := by omega
        have := hp.1
        rw [← z2] at this
        exact absurd this (by show ¬ pos ln e + ln e = 257; omega)
    have ep : pos ln (e + 1) = pos ln e + ln e := rfl
    have g5 := hp.lt h3
    have g6 := hp.ln3 h3
    have g7 := hp.end h3
    conv => whnf
    refine ⟨pos ln e + ln e, ln (e + 1), kd (e + 1), rfl, by rw [← ep]; exact tg_of (w := σ 2) hp h3, ?_⟩
    conv => whnf
    refine ⟨fun h4 => ?_, fun h4 => ?_⟩
    · conv => whnf
      have h5 : gv1 N kd e = e := by unfold gv1; rw [if_neg (fun z => fr_1.mp h4 z.2)]
      rw [h5] at hX
      exact hK _ _ _ _ (c_X_give_44 hX _ (pos ln e + ln e) e (lsF σ ln N) hp he (by omega) (by omega) rfl)
    · conv => whnf
      refine ⟨pos ln e + ln e, ln (e + 1), kd (e + 1), rfl, by rw [← ep]; exact tg_of (w := σ 2) hp h3, ?_⟩
      conv => whnf
      have h5 : gv1 N kd e = e + 1 := by unfold gv1; rw [if_pos ⟨h3, fr_0.mp h4⟩]
      rw [h5] at hX
      refine hK _ _ _ _ ?_
      have e5 : nI (pos ln e + ln e) + nI (ln (e + 1)) = nI (pos ln (e + 1) + ln (e + 1)) := by rw [nI_add, ep]
      show Go X mi_X_give 44 [some (.inr (.inl 0)), some (.inl (nI (pos ln e + 1))), some (.inl (nI (pos ln e))), some (.inl (nI (pos ln e + ln e) + nI (ln (e + 1))))] [] (lsF σ ln N)
      rw [e5]
      exact c_X_give_44 hX _ _ e (lsF σ ln N) hp he (by omega) (by omega) rfl
def mi_X_take : MI := (b_X_take, 7, "RootedWords", some .int, 4, tbl_of 159 f_X_take, fl_X, [(34, (0, 0, ct_X_refuseWhenDown)), (46, (0, 1, ct_X_lowestFree)), (55, (0, 1, ct_X_lengthAt)), (58, (0, 2, ct_X_clearContent)), (61, (0, 4, ct_X_planExtent)), (65, (1, 1, ct_D_change))], [(16, "java/lang/IllegalArgumentException"), (35, "java/lang/IllegalArgumentException"), (56, "java/lang/UnsupportedOperationException")])
theorem ok_X_take : MOK mi_X_take := ⟨tbl_ok k_X_take, flok_X rfl, List.forall_mem_cons.mpr ⟨okV 0 (by decide) s_X_refuseWhenDown rfl (Nat.le_of_ble_eq_true rfl) (Nat.le_of_ble_eq_true rfl) (by decide +kernel) lk_X_34 vv_X_refuseWhenDown, List.forall_mem_cons.mpr ⟨okV 0 (by decide) s_X_lowestFree rfl (Nat.le_of_ble_eq_true rfl) (Nat.le_of_ble_eq_true rfl) (by decide +kernel) lk_X_46 vv_X_lowestFree, List.forall_mem_cons.mpr ⟨okV 0 (by decide) s_X_lengthAt rfl (Nat.le_of_ble_eq_true rfl) (Nat.le_of_ble_eq_true rfl) (by decide +kernel) lk_X_55 vv_X_lengthAt, List.forall_mem_cons.mpr ⟨okV 0 (by decide) s_X_clearContent rfl (Nat.le_of_ble_eq_true rfl) (Nat.le_of_ble_eq_true rfl) (by decide +kernel) lk_X_58 vv_X_clearContent, List.forall_mem_cons.mpr ⟨okV 0 (by decide) s_X_planExtent rfl (Nat.le_of_ble_eq_true rfl) (Nat.le_of_ble_eq_true rfl) (by decide +kernel) lk_X_61 vv_X_planExtent, List.forall_mem_cons.mpr ⟨okV 1 (by decide) s_D_change rfl (Nat.le_of_ble_eq_true rfl) (Nat.le_of_ble_eq_true rfl) (by decide +kernel) lk_X_65 vv_D_change, (fun _ h => absurd h List.not_mem_nil)⟩⟩⟩⟩⟩⟩⟩
theorem si_X_take : ∀ q ∈ m_tr mi_X_take, SiteF mi_X_take q := List.forall_mem_cons.mpr ⟨⟨37, 39, 41, "no extent can have so many words", ⟨by decide +kernel, by decide +kernel, by decide +kernel, by decide +kernel, by decide +kernel⟩, by decide +kernel, Or.inl th_X_37⟩, List.forall_mem_cons.mpr ⟨⟨37, 44, 41, "so many words cannot have so many pointers", ⟨by decide +kernel, by decide +kernel, by decide +kernel, by decide +kernel, by decide +kernel⟩, by decide +kernel, Or.inl th_X_37⟩, List.forall_mem_cons.mpr ⟨⟨50, 52, 54, "no free extent has so many words", ⟨by decide +kernel, by decide +kernel, by decide +kernel, by decide +kernel, by decide +kernel⟩, by decide +kernel, Or.inl th_X_50⟩, (fun _ h => absurd h List.not_mem_nil)⟩⟩⟩
theorem c_X_take_down (x p : Int32) (σ : Mem) (h : σ 1 4 = 1) : MetO y_X_take mi_X_take [.inr (.inl 0), .inl x, .inl p] σ (.inr (eIS, σ)) := by
  refine met_go ok_X_take ⟨rfl, rfl⟩ si_X_take (Nat.le_of_ble_eq_true rfl) ⟨trivial, trivial, trivial, trivial⟩ [] 60 (fun X hX K R1 T1 hK hR hT => ?_)
  conv => whnf
  refine ⟨Or.inr h, fun _ => ?_, fun h1 => absurd (h.symm.trans h1) (by decide)⟩
  exact hT _ _ _ rfl
def tk_ok (x p : Int32) : Prop := ¬ x < nI 1 ∧ x ≤ nI 254 ∧ ¬ p < 0 ∧ p ≤ x
theorem tk_nat {x p : Int32} (h : tk_ok x p) : ∃ m k, 1 ≤ m ∧ m ≤ 254 ∧ k ≤ m ∧ x = nI m ∧ p = nI k := by
  obtain ⟨h1, h2, h3, h4⟩ := h
  have h0 : ¬ x < 0 := fun z => h1 (by
    rw [Int32.lt_iff_toInt_lt] at z ⊢
    have : (nI 1).toInt = 1 := nI_toInt (by decide)
    rw [this]
    have : (0 : Int32).toInt = 0 := by decide
    omega)
  obtain ⟨m, hm, e⟩ := nI_of h0
  obtain ⟨k, hk, e'⟩ := nI_of h3
  subst e; subst e'
  refine ⟨m, k, ?_, ?_, ?_, rfl, rfl⟩
  · have := (not_congr (nI_ltI (a := m) (b := 1) hm (by decide))).mp h1; omega
  · exact (nI_leI hm (by decide)).mp h2
  · exact (nI_leI hk hm).mp h4
theorem tk_okN {m k : Nat} (h1 : 1 ≤ m) (h2 : m ≤ 254) (h3 : k ≤ m) : tk_ok (nI m) (nI k) := ⟨nI_nlt h1 (by omega), nI_le h2 (by decide), nI_pos (by omega), nI_le h3 (by omega)⟩
theorem c_X_take_odd (x p : Int32) (σ : Mem) (h : σ 1 4 = 0) (q : ¬ tk_ok x p) : MetO y_X_take mi_X_take [.inr (.inl 0), .inl x, .inl p] σ (.inr (eIA, σ)) := by
  refine met_go ok_X_take ⟨rfl, rfl⟩ si_X_take (Nat.le_of_ble_eq_true rfl) ⟨trivial, trivial, trivial, trivial⟩ [] 60 (fun X hX K R1 T1 hK hR hT => ?_)
  conv => whnf
  refine ⟨Or.inl h, fun h1 => absurd (h.symm.trans h1) (by decide), fun _ => ?_⟩
  conv => whnf
  refine ⟨fun _ => ?_, fun h1 => ?_⟩
  · conv => whnf
    exact hT _ _ _ rfl
  conv => whnf
  refine ⟨fun h2 => ?_, fun h2 => ?_⟩
  · conv => whnf
    refine ⟨fun _ => ?_, fun h3 => ?_⟩
    · conv => whnf
      exact hT _ _ _ rfl
    conv => whnf
    refine ⟨fun h4 => absurd ⟨h1, h2, h3, h4⟩ q, fun _ => ?_⟩
    conv => whnf
    exact hT _ _ _ rfl
  · conv => whnf
    exact hT _ _ _ rfl
theorem c_X_take_none (m k : Nat) (h1 : 1 ≤ m) (h2 : m ≤ 254) (h3 : k ≤ m) (σ : Mem) (h : σ 1 4 = 0) {N : Nat} {ln kd : Nat → Nat} (hp : HP (σ 2) N ln kd) (q : ∀ i, i < N → ¬ Fit ln kd m i) : MetO y_X_take mi_X_take [.inr (.inl 0), .inl (nI m), .inl (nI k)] σ (.inr (eUO, lsF σ ln N)) := by
  obtain ⟨t1, t2, t3, t4⟩ := tk_okN h1 h2 h3
  refine met_go ok_X_take ⟨rfl, rfl⟩ si_X_take (Nat.le_of_ble_eq_true rfl) ⟨trivial, trivial, trivial, trivial⟩ [] 60 (fun X hX K R1 T1 hK hR hT => ?_)
  conv => whnf
  refine ⟨Or.inl h, fun h1 => absurd (h.symm.trans h1) (by decide), fun _ => ?_⟩
  conv => whnf
  refine ⟨fun z => absurd z t1, fun _ => ?_⟩
  conv => whnf
  refine ⟨fun _ => ?_, fun z => absurd t2 z⟩
  conv => whnf
  refine ⟨fun z => absurd z t3, fun _ => ?_⟩
  conv => whnf
  refine ⟨fun _ => ?_, fun z => absurd t4 z⟩
  conv => whnf
  refine ⟨m, N, ln, kd, rfl, by omega, hp, fun i i1 i2 => absurd i2 (q i i1), fun _ => ?_⟩
  conv => whnf
  refine ⟨fun z => absurd rfl z, fun _ => ?_⟩
  conv => whnf
  exact hT _ _ _ rfl
/-- what take writes behind the clearing: the note of one or two extents -/
def tkP (σ : Mem) (f n len m k : Nat) : Mem := if m + 5 ≤ n then peF (peF σ 0 f len (1 + k)) 1 (f + len) (n - 2 - m) 0 else peF σ 0 f len (1 + k)
def tkL (n m : Nat) : Nat := if m + 5 ≤ n then m + 2 else n
def tkC (n m : Nat) : Nat := if m + 5 ≤ n then 4 else 2
def tkO (σ : Mem) (f n m k : Nat) : OC := if (wrs σ (zL (f + 1) (tkL n m - 2))).2 = true then .inr (eIS, (wrs σ (zL (f + 1) (tkL n m - 2))).1)
  else wou (tkP (wrs σ (zL (f + 1) (tkL n m - 2))).1 f n (tkL n m) m k) (chgL (tkP (wrs σ (zL (f + 1) (tkL n m - 2))).1 f n (tkL n m) m k 3) (tkC n m)) (some (.inl (nI (f + 1))))
theorem c_X_take_99 {X : CT} {oc : OC} (hX : CxO X mi_X_take oc) (m k f n : Nat) (h1 : 1 ≤ m) (h3 : k ≤ m) (hn : m + 2 ≤ n) (hf : f + n ≤ 257) (hf1 : 1 ≤ f) (σ : Mem) (ho : oc = tkO σ f n m k) :
    Go X mi_X_take 99 [some (.inr (.inl 0)), some (.inl (nI m)), some (.inl (nI k)), some (.inl (nI f)), some (.inl (nI n)), some (.inl (nI (n - 2 - m))), some (.inl (nI (tkL n m)))] [] σ := by
  have hL : tkL n m ≤ n ∧ 3 ≤ tkL n m := by unfold tkL; split <;> omega
  have e1 : nI 1 + nI k = nI (1 + k) := nI_add _ _
  have e2 : nI f + nI 1 = nI (f + 1) := nI_add _ _
  have e3 : nI f + nI (tkL n m) = nI (f + tkL n m) := nI_add _ _
  refine Go_run ok_X_take hX [] 80 (fun K R1 T1 hK hR hT => ?_)
  conv => whnf
  refine ⟨f, tkL n m, rfl, by omega, by omega, fun σ' hσ => ?_, fun σ' hσ => ?_⟩
  · unfold tkO at ho
    rw [hσ, if_neg (by decide : ¬ (false = true))] at ho
    conv => whnf
    rw [e1]
    refine ⟨0, f, tkL n m, 1 + k, rfl, by decide, by omega, ?_⟩
    conv => whnf
    by_cases c : m + 5 ≤ n
    · have hc : tkL n m = m + 2 := by unfold tkL; rw [if_pos c]
      have hc2 : tkC n m = 4 := by unfold tkC; rw [if_pos c]
      have hc3 : tkP σ' f n (tkL n m) m k = peF (peF σ' 0 f (tkL n m) (1 + k)) 1 (f + tkL n m) (n - 2 - m) 0 := by unfold tkP; rw [if_pos c]
      rw [hc2, hc3] at ho
      refine ⟨fun z => absurd z (nI_ge (by omega) (by omega)), fun _ => ?_⟩
      conv => whnf
      rw [e3]
      refine ⟨1, f + tkL n m, n - 2 - m, 0, rfl, by decide, by omega, ?_⟩
      conv => whnf
      refine ⟨4, rfl, ⟨by decide, fun i hi => ?_⟩, fun σ2 h2 => ?_, fun σ2 h2 => ?_⟩
      · match i, hi with
        | 0, _ => exact ⟨f, by omega, rfl⟩
        | 1, _ => exact ⟨f + tkL n m - 1, by omega, rfl⟩
        | 2, _ => exact ⟨f + tkL n m, by omega, rfl⟩
        | 3, _ => exact ⟨f + tkL n m + (n - 2 - m) - 1, by omega, rfl⟩
      · conv => whnf
        refine hR _ _ ?_
        rw [ho, e2]
        unfold wou
        rw [h2]; rfl
      · refine hT _ _ _ ?_
        rw [ho]
        unfold wou
        rw [h2]; rfl
    · have hc : tkL n m = n := by unfold tkL; rw [if_neg c]
      have hc2 : tkC n m = 2 := by unfold tkC; rw [if_neg c]
      have hc3 : tkP σ' f n (tkL n m) m k = peF σ' 0 f (tkL n m) (1 + k) := by unfold tkP; rw [if_neg c]
      rw [hc2, hc3] at ho
      refine ⟨fun _ => ?_, fun z => absurd (nI_le (by omega) (by omega)) z⟩
      conv => whnf
      refine ⟨2, rfl, mf_plOK σ' f (tkL n m) (1 + k) (by omega) (by omega), fun σ2 h2 => ?_, fun σ2 h2 => ?_⟩
      · conv => whnf
        refine hR _ _ ?_
        rw [ho, e2]
        unfold wou
        rw [h2]; rfl
      · refine hT _ _ _ ?_
        rw [ho]
        unfold wou
        rw [h2]; rfl
  · refine hT _ _ _ ?_
    rw [ho]
    unfold tkO
    rw [hσ]; rfl
theorem c_X_take_ok (m k : Nat) (h1 : 1 ≤ m) (h2 : m ≤ 254) (h3 : k ≤ m) (σ : Mem) (h : σ 1 4 = 0) {N : Nat} {ln kd : Nat → Nat} (hp : HP (σ 2) N ln kd) {e : Nat} (he : e < N) (hfit : Fit ln kd m e) (hl : ∀ j, j < e → ¬ Fit ln kd m j) :
    MetO y_X_take mi_X_take [.inr (.inl 0), .inl (nI m), .inl (nI k)] σ (tkO (lsF σ ln N) (pos ln e) (ln e) m k) := by
  obtain ⟨t1, t2, t3, t4⟩ := tk_okN h1 h2 h3
  have g := hp.lt he
  have g3 := hp.ln3 he
  have g4 := hp.end he
  have hm2 := hfit.2
  have e1 : nI (ln e) - nI 2 - nI m = nI (ln e - 2 - m) := by rw [pk_sub (by omega), pk_sub (by omega)]
  have e2 : nI (ln e) - nI (ln e - 2 - m) = nI (m + 2) := by rw [pk_sub (by omega)]; exact nI_eqI (by omega)
  refine met_go ok_X_take ⟨rfl, rfl⟩ si_X_take (Nat.le_of_ble_eq_true rfl) ⟨trivial, trivial, trivial, trivial⟩ [99] 80 (fun X hX K R1 T1 hK hR hT => ?_)
  have h99 := c_X_take_99 hX m k (pos ln e) (ln e) h1 h3 hm2 g4 g.2.2.2.2 (lsF σ ln N) rfl
  conv => whnf
  refine ⟨Or.inl h, fun h1 => absurd (h.symm.trans h1) (by decide), fun _ => ?_⟩
  conv => whnf
  refine ⟨fun z => absurd z t1, fun _ => ?_⟩
  conv => whnf
  refine ⟨fun _ => ?_, fun z => absurd t2 z⟩
  conv => whnf
  refine ⟨fun z => absurd z t3, fun _ => ?_⟩
  conv => whnf
  refine ⟨fun _ => ?_, fun z => absurd t4 z⟩
  conv => whnf
  refine ⟨m, N, ln, kd, rfl, by omega, hp, fun i i1 i2 i3 => ?_, fun z => absurd hfit (z e he)⟩
  obtain rfl : i = e := least_uniq (P := Fit ln kd m) i2 i3 hfit hl
  conv => whnf
  refine ⟨fun _ => ?_, fun z => ?_⟩
  · conv => whnf
    refine ⟨pos ln i, ln i, kd i, rfl, tg_of (w := σ 2) hp he, ?_⟩
    conv => whnf
    rw [e1]
    refine ⟨fun z => ?_, fun z => ?_⟩
    · conv => whnf
      refine hK _ _ _ _ ?_
      have hz := (nI_ltI (a := ln i - 2 - m) (b := 3) (by omega) (by decide)).mp z
      have hL : tkL (ln i) m = ln i := by unfold tkL; rw [if_neg (by omega)]
      rw [hL] at h99
      show Go X mi_X_take 99 [some (.inr (.inl 0)), some (.inl (nI m)), some (.inl (nI k)), some (.inl (nI (pos ln i))), some (.inl (nI (ln i))), some (.inl (nI (ln i - 2 - m))), some (.inl (nI (ln i)))] [] (lsF σ ln N)
      exact h99
    · conv => whnf
      refine hK _ _ _ _ ?_
      have hz := (not_congr (nI_ltI (a := ln i - 2 - m) (b := 3) (by omega) (by decide))).mp z
      have hL : tkL (ln i) m = m + 2 := by unfold tkL; rw [if_pos (by omega)]
      rw [hL] at h99
      show Go X mi_X_take 99 [some (.inr (.inl 0)), some (.inl (nI m)), some (.inl (nI k)), some (.inl (nI (pos ln i))), some (.inl (nI (ln i))), some (.inl (nI (ln i - 2 - m))), some (.inl (nI (ln i) - nI (ln i - 2 - m)))] [] (lsF σ ln N)
      rw [e2]
      exact h99
  · exfalso
    have h5 := nI_toInt (n := pos ln i) (by omega)
    rw [z] at h5
    have h6 : (-1 : Int32).toInt = -1 := by decide
    rw [h6] at h5
    omega
def mi_X_recover : MI := (b_X_recover, 2, "RootedWords", some .int, 5, tbl_of 47 f_X_recover, fl_X, [(119, (0, 0, ct_X_searchFromRoots)), (125, (1, 0, ct_D_isDown)), (129, (1, 0, ct_D_isPending)), (132, (1, 0, ct_D_finishChange)), (135, (0, 0, ct_X_freeUnreached)), (138, (1, 0, ct_D_goUp))], [])
theorem ok_X_recover : MOK mi_X_recover := ⟨tbl_ok k_X_recover, flok_X rfl, List.forall_mem_cons.mpr ⟨okV 0 (by decide) s_X_searchFromRoots rfl (Nat.le_of_ble_eq_true rfl) (Nat.le_of_ble_eq_true rfl) (by decide +kernel) lk_X_119 vv_X_searchFromRoots, List.forall_mem_cons.mpr ⟨okV 1 (by decide) s_D_isDown rfl (Nat.le_of_ble_eq_true rfl) (Nat.le_of_ble_eq_true rfl) (by decide +kernel) lk_X_125 vv_D_isDown, List.forall_mem_cons.mpr ⟨okV 1 (by decide) s_D_isPending rfl (Nat.le_of_ble_eq_true rfl) (Nat.le_of_ble_eq_true rfl) (by decide +kernel) lk_X_129 vv_D_isPending, List.forall_mem_cons.mpr ⟨okV 1 (by decide) s_D_finishChange rfl (Nat.le_of_ble_eq_true rfl) (Nat.le_of_ble_eq_true rfl) (by decide +kernel) lk_X_132 vv_D_finishChange, List.forall_mem_cons.mpr ⟨okV 0 (by decide) s_X_freeUnreached rfl (Nat.le_of_ble_eq_true rfl) (Nat.le_of_ble_eq_true rfl) (by decide +kernel) lk_X_135 vv_X_freeUnreached, List.forall_mem_cons.mpr ⟨okV 1 (by decide) s_D_goUp rfl (Nat.le_of_ble_eq_true rfl) (Nat.le_of_ble_eq_true rfl) (by decide +kernel) lk_X_138 vv_D_goUp, (fun _ h => absurd h List.not_mem_nil)⟩⟩⟩⟩⟩⟩⟩
theorem si_X_recover : ∀ q ∈ m_tr mi_X_recover, SiteF mi_X_recover q := (fun _ h => absurd h List.not_mem_nil)
theorem c_X_recover_up (σ : Mem) (h : σ 1 4 = 0) : MetO y_X_recover mi_X_recover [.inr (.inl 0)] σ (.inl (some (.inl (-1)), σ)) := by
  refine met_go ok_X_recover ⟨rfl, rfl⟩ si_X_recover (Nat.le_of_ble_eq_true rfl) ⟨trivial, trivial⟩ [] 60 (fun X hX K R1 T1 hK hR hT => ?_)
  conv => whnf
  refine ⟨Or.inl h, ?_⟩
  conv => whnf
  refine ⟨fun z => absurd h z, fun _ => ?_⟩
  conv => whnf
  exact hR _ _ rfl
/-- what is reached, as a test -/
noncomputable def rsb (w : Nat → Int32) (N : Nat) (ln kd : Nat → Nat) : Nat → Bool := fun j => @decide (RS w N ln kd j) (Classical.propDecidable _)
theorem rsb_iff {w : Nat → Int32} {N : Nat} {ln kd : Nat → Nat} {j : Nat} : rsb w N ln kd j = true ↔ RS w N ln kd j := @decide_eq_true_iff _ (Classical.propDecidable _)
noncomputable def rcF (σ : Mem) (N : Nat) (ln kd : Nat → Nat) : Mem × Bool := fuF N ln kd (rsb (σ 2) N ln kd) (N + 1) 0 (lsF (srM σ N ln kd) ln N)
noncomputable def rcO (σ : Mem) (N : Nat) (ln kd : Nat → Nat) : OC := if (rcF σ N ln kd).2 = true then .inr (eIS, (rcF σ N ln kd).1) else .inl (some (.inl (nI (cntP (RS (σ 2) N ln kd) N))), st (rcF σ N ln kd).1 1 4 0)
theorem c_X_recover_29 {X : CT} {oc : OC} (hX : CxO X mi_X_recover oc) (σ : Mem) {N : Nat} {ln kd : Nat → Nat} (hp : HP (σ 2) N ln kd) (ho : oc = rcO σ N ln kd) : Go X mi_X_recover 29 [some (.inr (.inl 0)), none] [] σ := by
  refine Go_run ok_X_recover hX [] 60 (fun K R1 T1 hK hR hT => ?_)
  have e2 : srM σ N ln kd 2 = σ 2 := srM_ne hp 2 (by decide) (by decide) (by decide)
  conv => whnf
  refine ⟨N, ln, kd, hp, ?_⟩
  conv => whnf
  refine ⟨N, ln, kd, rsb (σ 2) N ln kd, by rw [e2]; exact hp, fun j hj => rsb_iff.trans (srM_5 hp j hj).symm, fun σ' hσ => ?_, fun σ' hσ => ?_⟩
  · conv => whnf
    refine hR _ _ ?_
    rw [ho]
    unfold rcO
    have hσ : rcF σ N ln kd = (σ', false) := hσ
    rw [hσ]; rfl
  · refine hT _ _ _ ?_
    rw [ho]
    unfold rcO
    have hσ : rcF σ N ln kd = (σ', true) := hσ
    rw [hσ]; rfl
theorem c_X_recover_np (σ : Mem) (h : σ 1 4 = 1) (h0 : σ 2 265 = 0) {N : Nat} {ln kd : Nat → Nat} (hp : HP (σ 2) N ln kd) : MetO y_X_recover mi_X_recover [.inr (.inl 0)] σ (rcO σ N ln kd) := by
  refine met_go ok_X_recover ⟨rfl, rfl⟩ si_X_recover (Nat.le_of_ble_eq_true rfl) ⟨trivial, trivial⟩ [29] 60 (fun X hX K R1 T1 hK hR hT => ?_)
  conv => whnf
  refine ⟨Or.inr h, ?_⟩
  conv => whnf
  refine ⟨fun _ => ?_, fun z => absurd (h.symm.trans z) (by decide)⟩
  conv => whnf
  refine ⟨fun _ => ?_, fun z => absurd (if_pos h0) z⟩
  conv => whnf
  exact hK _ _ _ _ (c_X_recover_29 hX σ hp rfl)
/-- a pending change that is cut off again -/
theorem c_X_recover_cut (σ : Mem) (h : σ 1 4 = 1) (h0 : ¬ σ 2 265 = 0) {k : Nat} (hn : nOK (σ 2) k) (hf : (wrs σ (fin (σ 2) 0 k ++ [(265, 0)])).2 = true) : MetO y_X_recover mi_X_recover [.inr (.inl 0)] σ (.inr (eIS, (wrs σ (fin (σ 2) 0 k ++ [(265, 0)])).1)) := by
  refine met_go ok_X_recover ⟨rfl, rfl⟩ si_X_recover (Nat.le_of_ble_eq_true rfl) ⟨trivial, trivial⟩ [29] 60 (fun X hX K R1 T1 hK hR hT => ?_)
  conv => whnf
  refine ⟨Or.inr h, ?_⟩
  conv => whnf
  refine ⟨fun _ => ?_, fun z => absurd (h.symm.trans z) (by decide)⟩
  conv => whnf
  refine ⟨fun z => absurd (z.symm.trans (if_neg h0)) (by decide), fun _ => ?_⟩
  conv => whnf
  refine ⟨k, hn, fun σ' hσ => ?_, fun σ' hσ => ?_⟩
  · rw [hσ] at hf; cases hf
  · refine hT _ _ _ ?_
    rw [hσ]
theorem c_X_recover_fin (σ σ1 : Mem) (h : σ 1 4 = 1) (h0 : ¬ σ 2 265 = 0) {k : Nat} (hn : nOK (σ 2) k) (hf : wrs σ (fin (σ 2) 0 k ++ [(265, 0)]) = (σ1, false)) {N : Nat} {ln kd : Nat → Nat} (hp : HP (σ1 2) N ln kd) : MetO y_X_recover mi_X_recover [.inr (.inl 0)] σ (rcO σ1 N ln kd) := by
  refine met_go ok_X_recover ⟨rfl, rfl⟩ si_X_recover (Nat.le_of_ble_eq_true rfl) ⟨trivial, trivial⟩ [29] 60 (fun X hX K R1 T1 hK hR hT => ?_)
  conv => whnf
  refine ⟨Or.inr h, ?_⟩
  conv => whnf
  refine ⟨fun _ => ?_, fun z => absurd (h.symm.trans z) (by decide)⟩
  conv => whnf
  refine ⟨fun z => absurd (z.symm.trans (if_neg h0)) (by decide), fun _ => ?_⟩
  conv => whnf
  refine ⟨k, hn, fun σ' hσ => ?_, fun σ' hσ => ?_⟩
  · have : σ' = σ1 := (Prod.mk.inj (hσ.symm.trans hf)).1
    subst this
    conv => whnf
    exact hK _ _ _ _ (c_X_recover_29 hX σ' hp rfl)
  · rw [hσ] at hf; cases hf
