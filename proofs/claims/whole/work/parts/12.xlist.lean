/-! ===== the class: the list of extents, and what is read of it ===== -/
theorem tg_of {w : Nat → Int32} {N : Nat} {ln kd : Nat → Nat} (h : HP w N ln kd) {i : Nat} (hi : i < N) : tgAt w (pos ln i) (ln i) (kd i) := by
  have h1 := h.lt hi
  exact ⟨h.tag hi, by omega, h1.2.2.2.1, by omega⟩
def mi_X_listExtents : MI := (b_X_listExtents, 3, "RootedWords", some .int, 2, tbl_of 38 f_X_listExtents, fl_X, [(55, (0, 1, ct_X_lengthAt)), (109, (99, 2, ct_max))], [])
theorem ok_X_listExtents : MOK mi_X_listExtents := ⟨tbl_ok k_X_listExtents, flok_X rfl, List.forall_mem_cons.mpr ⟨okV 0 (by decide) s_X_lengthAt rfl (Nat.le_of_ble_eq_true rfl) (Nat.le_of_ble_eq_true rfl) (by decide +kernel) lk_X_55 vv_X_lengthAt, List.forall_mem_cons.mpr ⟨okMax lk_X_109 vs_max.1 vs_max.2.1 vs_max.2.2, (fun _ h => absurd h List.not_mem_nil)⟩⟩⟩
theorem si_X_listExtents : ∀ q ∈ m_tr mi_X_listExtents, SiteF mi_X_listExtents q := (fun _ h => absurd h List.not_mem_nil)
theorem c_X_listExtents_loop {X : CT} {oc : OC} (hX : CxO X mi_X_listExtents oc) {σ : Mem} {N : Nat} {ln kd : Nat → Nat} (h : HP (σ 2) N ln kd) (ho : oc = .inl (some (.inl (nI N)), lsF σ ln N)) : ∀ (n i : Nat), i + n = N →
    Go X mi_X_listExtents 4 [some (.inr (.inl 0)), some (.inl (nI i)), some (.inl (nI (pos ln i)))] [] (stA σ 4 (fl0 (fun j => nI (pos ln j)) (σ 4) i)) := by
  intro n
  have hN := h.N85
  induction n with
  | zero =>
    intro i hi
    obtain rfl : i = N := by omega
    refine Go_run ok_X_listExtents hX [4] 60 (fun K R1 T1 hK hR hT => ?_)
    rw [h.1]
    conv => whnf
    refine ⟨fun _ => ?_, fun h1 => absurd (nI_lt (by decide) (by decide)) h1⟩
    conv => whnf
    exact hR _ _ ho
  | succ n ih =>
    intro i hi
    have hi' : i < N := by omega
    have h1 := h.lt hi'
    have h3 := h.ln3 hi'
    refine Go_run ok_X_listExtents hX [4] 60 (fun K R1 T1 hK hR hT => ?_)
    conv => whnf
    refine ⟨fun h2 => absurd h2 (nI_nlt (by omega) (by decide)), fun _ => ?_⟩
    conv => whnf
    refine ⟨vp_in_nI (by omega) (by decide), ?_⟩
    rw [nI_clamp (by omega)]
    conv => whnf
    refine ⟨pos ln i, ln i, kd i, rfl, tg_of h hi', ?_⟩
    conv => whnf
    refine hK _ _ _ _ ?_
    have e1 : nI i + nI 1 = nI (i + 1) := nI_add i 1
    have e2 : (if nI 3 < nI (ln i) then nI (ln i) else nI 3) = nI (ln i) := by
      by_cases q : nI 3 < nI (ln i)
      · rw [if_pos q]
      · rw [if_neg q]
        exact nI_eqI (by have := (not_congr (nI_ltI (a := 3) (b := ln i) (by decide) (by omega))).mp q; omega)
    have e3 : nI (pos ln i) + nI (ln i) = nI (pos ln (i + 1)) := nI_add _ _
    show Go X mi_X_listExtents 4 [some (.inr (.inl 0)), some (.inl (nI i + nI 1)), some (.inl (nI (pos ln i) + (if nI 3 < nI (ln i) then nI (ln i) else nI 3)))] [] (st (stA σ 4 (fl0 (fun j => nI (pos ln j)) (σ 4) i)) 4 i (nI (pos ln i)))
    rw [e1, e2, e3, st_stA, stA_stA, stA_self, fl0_s (fun j => nI (pos ln j)) (σ 4) i]
    exact ih (i + 1) (by omega)
theorem c_X_listExtents (σ : Mem) (N : Nat) (ln kd : Nat → Nat) (h : HP (σ 2) N ln kd) : MetO y_X_listExtents mi_X_listExtents [.inr (.inl 0)] σ (.inl (some (.inl (nI N)), lsF σ ln N)) := by
  refine met_go ok_X_listExtents ⟨rfl, rfl⟩ si_X_listExtents (Nat.le_of_ble_eq_true rfl) ⟨trivial, trivial⟩ [4] 60 (fun X hX K R1 T1 hK hR hT => ?_)
  conv => whnf
  refine hK _ _ _ _ ?_
  have h9 := c_X_listExtents_loop hX h rfl N 0 (by omega)
  rw [fl0_0, stA_id] at h9
  exact h9
def ct_X_listExtents : CTy := fun as σ KN _ => match as with
  | [] => ∃ N ln kd, HP (σ 2) N ln kd ∧ KN (some (.inl (nI N))) (lsF σ ln N)
  | _ => False
theorem s_X_listExtents : Snd y_X_listExtents mi_X_listExtents 0 0 ct_X_listExtents := by
  intro as σ KN KX _ hf
  match as, hf with
  | [], ⟨N, ln, kd, h, hf⟩ => exact ⟨.inl (_, _), hf, c_X_listExtents σ N ln kd h⟩
theorem HP.ls {σ : Mem} {N : Nat} {ln kd : Nat → Nat} (h : HP (σ 2) N ln kd) : HP (lsF σ ln N 2) N ln kd := h
/-- a used address -/
def Us (N : Nat) (ln kd : Nat → Nat) (a : Int32) : Prop := ∃ i, i < N ∧ kd i ≠ 0 ∧ nI (pos ln i + 1) = a
theorem Us.uniq {w : Nat → Int32} {N : Nat} {ln kd : Nat → Nat} (h : HP w N ln kd) {i j : Nat} {a : Int32} (hi : i < N) (hj : j < N) (e1 : nI (pos ln i + 1) = a) (e2 : nI (pos ln j + 1) = a) : i = j := by
  have h1 := h.lt hi
  have h2 := h.lt hj
  have h3 := nI_inj (a := pos ln i + 1) (b := pos ln j + 1) (by omega) (by omega) (e1.trans e2.symm)
  exact h.inj hi hj (by omega)
theorem fr_0 {k : Nat} : ¬ fr k = 0 ↔ k = 0 := by
  unfold fr
  by_cases h : k = 0
  · rw [if_pos h]; exact ⟨fun _ => h, fun _ => by decide⟩
  · rw [if_neg h]; exact ⟨fun h1 => absurd rfl h1, fun h1 => absurd h1 h⟩
theorem fr_1 {k : Nat} : fr k = 0 ↔ ¬ k = 0 := by
  rw [← fr_0]; exact Decidable.not_not.symm
def mi_X_isUsedAddress : MI := (b_X_isUsedAddress, 4, "RootedWords", some .boolean, 3, tbl_of 51 f_X_isUsedAddress, fl_X, [(72, (0, 1, ct_X_isFreeAt)), (105, (0, 0, ct_X_listExtents))], [])
theorem ok_X_isUsedAddress : MOK mi_X_isUsedAddress := ⟨tbl_ok k_X_isUsedAddress, flok_X rfl, List.forall_mem_cons.mpr ⟨okV 0 (by decide) s_X_isFreeAt rfl (Nat.le_of_ble_eq_true rfl) (Nat.le_of_ble_eq_true rfl) (by decide +kernel) lk_X_72 vv_X_isFreeAt, List.forall_mem_cons.mpr ⟨okV 0 (by decide) s_X_listExtents rfl (Nat.le_of_ble_eq_true rfl) (Nat.le_of_ble_eq_true rfl) (by decide +kernel) lk_X_105 vv_X_listExtents, (fun _ h => absurd h List.not_mem_nil)⟩⟩⟩
theorem si_X_isUsedAddress : ∀ q ∈ m_tr mi_X_isUsedAddress, SiteF mi_X_isUsedAddress q := (fun _ h => absurd h List.not_mem_nil)
theorem c_X_isUsedAddress_loop {X : CT} {oc : OC} (hX : CxO X mi_X_isUsedAddress oc) {σ : Mem} {N : Nat} {ln kd : Nat → Nat} (h : HP (σ 2) N ln kd) (hf : ∀ j, j < N → σ 4 j = nI (pos ln j)) {a r : Int32} (hr : (Us N ln kd a → r = 1) ∧ (¬ Us N ln kd a → r = 0)) (ho : oc = .inl (some (.inl r), σ)) : ∀ (n i : Nat), i + n = N → (∀ j, j < i → ¬ nI (pos ln j + 1) = a) →
    Go X mi_X_isUsedAddress 7 [some (.inr (.inl 0)), some (.inl a), some (.inl (nI N)), some (.inl (nI i))] [] σ := by
  intro n
  have hN := h.N85
  induction n with
  | zero =>
    intro i hi hj
    obtain rfl : i = N := by omega
    refine Go_run ok_X_isUsedAddress hX [7] 60 (fun K R1 T1 hK hR hT => ?_)
    conv => whnf
    refine ⟨fun _ => ?_, fun h1 => absurd (nI_le (Nat.le_refl i) (by omega)) h1⟩
    conv => whnf
    refine ⟨rfl, hR _ _ ?_⟩
    rw [ho, hr.2 (fun ⟨j, h1, _, h2⟩ => hj j h1 h2)]; rfl
  | succ n ih =>
    intro i hi hj
    have hi' : i < N := by omega
    have h1 := h.lt hi'
    have e1 : nI (pos ln i) + nI 1 = nI (pos ln i + 1) := nI_add _ _
    refine Go_run ok_X_isUsedAddress hX [7] 60 (fun K R1 T1 hK hR hT => ?_)
    conv => whnf
    refine ⟨fun h2 => absurd h2 (nI_ge hi' (by omega)), fun _ => ?_⟩
    conv => whnf
    refine ⟨vp_in_nI (by omega) (by decide), ?_⟩
    rw [nI_clamp (by omega), hf i hi']
    conv => whnf
    rw [e1]
    refine ⟨fun h2 => ?_, fun h2 => ?_⟩
    · conv => whnf
      refine hK _ _ _ _ ?_
      have e2 : nI i + nI 1 = nI (i + 1) := nI_add i 1
      show Go X mi_X_isUsedAddress 7 [some (.inr (.inl 0)), some (.inl a), some (.inl (nI N)), some (.inl (nI i + nI 1))] [] σ
      rw [e2]
      refine ih (i + 1) (by omega) (fun j hj1 => ?_)
      rcases Nat.lt_or_ge j i with q | q
      · exact hj j q
      · obtain rfl : j = i := by omega
        exact h2
    · conv => whnf
      refine ⟨vp_in_nI (by omega) (by decide), ?_⟩
      rw [nI_clamp (by omega), hf i hi']
      conv => whnf
      refine ⟨pos ln i, ln i, kd i, rfl, tg_of h hi', ?_⟩
      conv => whnf
      refine ⟨fun h3 => ?_, fun h3 => ?_⟩
      · conv => whnf
        refine ⟨rfl, hR _ _ ?_⟩
        rw [ho, hr.2 (fun ⟨j, g1, g2, g3⟩ => g2 (by rw [Us.uniq h g1 hi' g3 h2]; exact fr_0.mp h3))]; rfl
      · conv => whnf
        refine ⟨rfl, hR _ _ ?_⟩
        rw [ho, hr.1 ⟨i, hi', fr_1.mp h3, h2⟩]; rfl
theorem c_X_isUsedAddress (σ : Mem) (N : Nat) (ln kd : Nat → Nat) (h : HP (σ 2) N ln kd) (a r : Int32) (hr : (Us N ln kd a → r = 1) ∧ (¬ Us N ln kd a → r = 0)) : MetO y_X_isUsedAddress mi_X_isUsedAddress [.inr (.inl 0), .inl a] σ (.inl (some (.inl r), lsF σ ln N)) := by
  refine met_go ok_X_isUsedAddress ⟨rfl, rfl⟩ si_X_isUsedAddress (Nat.le_of_ble_eq_true rfl) ⟨trivial, trivial, trivial⟩ [7] 60 (fun X hX K R1 T1 hK hR hT => ?_)
  conv => whnf
  refine ⟨N, ln, kd, h, ?_⟩
  conv => whnf
  exact hK _ _ _ _ (c_X_isUsedAddress_loop hX (σ := lsF σ ln N) h (fun j hj => lsF_4 σ ln N j hj) hr rfl N 0 (by omega) (fun j hj => absurd hj (Nat.not_lt_zero j)))
def ct_X_isUsedAddress : CTy := fun as σ KN _ => match as with
  | [.inl a] => ∃ N ln kd, HP (σ 2) N ln kd ∧ (Us N ln kd a → KN (some (.inl 1)) (lsF σ ln N)) ∧ (¬ Us N ln kd a → KN (some (.inl 0)) (lsF σ ln N))
  | _ => False
theorem s_X_isUsedAddress : Snd y_X_isUsedAddress mi_X_isUsedAddress 0 1 ct_X_isUsedAddress := by
  intro as σ KN KX _ hf
  match as, hf with
  | [.inl a], ⟨N, ln, kd, h, h1, h2⟩ =>
    by_cases q : Us N ln kd a
    · exact ⟨.inl (_, _), h1 q, c_X_isUsedAddress σ N ln kd h a 1 ⟨fun _ => rfl, fun h => absurd q h⟩⟩
    · exact ⟨.inl (_, _), h2 q, c_X_isUsedAddress σ N ln kd h a 0 ⟨fun h => absurd h q, fun _ => rfl⟩⟩
def mi_X_refuseUnlessUsed : MI := (b_X_refuseUnlessUsed, 2, "RootedWords", none, 4, tbl_of 19 f_X_refuseUnlessUsed, fl_X, [(85, (0, 1, ct_X_isUsedAddress))], [(8, "java/util/NoSuchElementException")])
theorem ok_X_refuseUnlessUsed : MOK mi_X_refuseUnlessUsed := ⟨tbl_ok k_X_refuseUnlessUsed, flok_X rfl, List.forall_mem_cons.mpr ⟨okV 0 (by decide) s_X_isUsedAddress rfl (Nat.le_of_ble_eq_true rfl) (Nat.le_of_ble_eq_true rfl) (by decide +kernel) lk_X_85 vv_X_isUsedAddress, (fun _ h => absurd h List.not_mem_nil)⟩⟩
theorem si_X_refuseUnlessUsed : ∀ q ∈ m_tr mi_X_refuseUnlessUsed, SiteF mi_X_refuseUnlessUsed q := List.forall_mem_cons.mpr ⟨⟨149, 151, 153, "no used extent has this address", ⟨by decide +kernel, by decide +kernel, by decide +kernel, by decide +kernel, by decide +kernel⟩, by decide +kernel, Or.inr th_X_149⟩, (fun _ h => absurd h List.not_mem_nil)⟩
theorem c_X_refuseUnlessUsed_ok (σ : Mem) (N : Nat) (ln kd : Nat → Nat) (h : HP (σ 2) N ln kd) (a : Int32) (q : Us N ln kd a) : MetO y_X_refuseUnlessUsed mi_X_refuseUnlessUsed [.inr (.inl 0), .inl a] σ (.inl (none, lsF σ ln N)) := by
  refine met_go ok_X_refuseUnlessUsed ⟨rfl, rfl⟩ si_X_refuseUnlessUsed (Nat.le_of_ble_eq_true rfl) ⟨trivial, trivial, trivial⟩ [] 60 (fun X hX K R1 T1 hK hR hT => ?_)
  conv => whnf
  refine ⟨N, ln, kd, h, fun _ => ?_, fun h1 => absurd q h1⟩
  conv => whnf
  refine ⟨fun _ => ?_, fun h1 => absurd h1 (by decide)⟩
  conv => whnf
  exact hR _ _ rfl
theorem c_X_refuseUnlessUsed_no (σ : Mem) (N : Nat) (ln kd : Nat → Nat) (h : HP (σ 2) N ln kd) (a : Int32) (q : ¬ Us N ln kd a) : MetO y_X_refuseUnlessUsed mi_X_refuseUnlessUsed [.inr (.inl 0), .inl a] σ (.inr (eNE, lsF σ ln N)) := by
  refine met_go ok_X_refuseUnlessUsed ⟨rfl, rfl⟩ si_X_refuseUnlessUsed (Nat.le_of_ble_eq_true rfl) ⟨trivial, trivial, trivial⟩ [] 60 (fun X hX K R1 T1 hK hR hT => ?_)
  conv => whnf
  refine ⟨N, ln, kd, h, fun h1 => absurd h1 q, fun _ => ?_⟩
  conv => whnf
  refine ⟨fun h1 => absurd rfl h1, fun _ => ?_⟩
  conv => whnf
  exact hT _ _ _ rfl
def ct_X_refuseUnlessUsed : CTy := fun as σ KN KX => match as with
  | [.inl a] => ∃ N ln kd, HP (σ 2) N ln kd ∧ (¬ Us N ln kd a → KX eNE (lsF σ ln N)) ∧ (Us N ln kd a → KN none (lsF σ ln N))
  | _ => False
theorem s_X_refuseUnlessUsed : Snd y_X_refuseUnlessUsed mi_X_refuseUnlessUsed 0 1 ct_X_refuseUnlessUsed := by
  intro as σ KN KX _ hf
  match as, hf with
  | [.inl a], ⟨N, ln, kd, h, h1, h2⟩ =>
    by_cases q : Us N ln kd a
    · exact ⟨.inl (_, _), h2 q, c_X_refuseUnlessUsed_ok σ N ln kd h a q⟩
    · exact ⟨.inr (_, _), h1 q, c_X_refuseUnlessUsed_no σ N ln kd h a q⟩
def mi_X_refuseUnlessWord : MI := (b_X_refuseUnlessWord, 3, "RootedWords", none, 3, tbl_of 26 f_X_refuseUnlessWord, fl_X, [(96, (0, 1, ct_X_contentAt))], [(15, "java/lang/IndexOutOfBoundsException")])
theorem ok_X_refuseUnlessWord : MOK mi_X_refuseUnlessWord := ⟨tbl_ok k_X_refuseUnlessWord, flok_X rfl, List.forall_mem_cons.mpr ⟨okV 0 (by decide) s_X_contentAt rfl (Nat.le_of_ble_eq_true rfl) (Nat.le_of_ble_eq_true rfl) (by decide +kernel) lk_X_96 vv_X_contentAt, (fun _ h => absurd h List.not_mem_nil)⟩⟩
theorem si_X_refuseUnlessWord : ∀ q ∈ m_tr mi_X_refuseUnlessWord, SiteF mi_X_refuseUnlessWord q := List.forall_mem_cons.mpr ⟨⟨114, 154, 118, "the extent has no such word", ⟨by decide +kernel, by decide +kernel, by decide +kernel, by decide +kernel, by decide +kernel⟩, by decide +kernel, Or.inl th_X_114⟩, (fun _ h => absurd h List.not_mem_nil)⟩
def wd_ok (i : Int32) (n : Nat) : Prop := ¬ i < 0 ∧ i < nI (n - 2)
theorem c_X_refuseUnlessWord_ok (p n k : Nat) (i : Int32) (σ : Mem) (ht : tgAt (σ 2) p n k) (h2 : 2 ≤ n) (h : wd_ok i n) : MetO y_X_refuseUnlessWord mi_X_refuseUnlessWord [.inr (.inl 0), .inl (nI (p + 1)), .inl i] σ (.inl (none, σ)) := by
  refine met_go ok_X_refuseUnlessWord ⟨rfl, rfl⟩ si_X_refuseUnlessWord (Nat.le_of_ble_eq_true rfl) ⟨trivial, trivial, trivial, trivial⟩ [] 60 (fun X hX K R1 T1 hK hR hT => ?_)
  conv => whnf
  refine ⟨fun h1 => absurd h1 h.1, fun _ => ?_⟩
  conv => whnf
  refine ⟨p, n, k, congrArg (fun x => [(.inl x : AV)]) (nI_pred p), ht, h2, ?_⟩
  conv => whnf
  refine ⟨fun _ => ?_, fun h1 => absurd h.2 h1⟩
  conv => whnf
  exact hR _ _ rfl
theorem c_X_refuseUnlessWord_no (p n k : Nat) (i : Int32) (σ : Mem) (ht : tgAt (σ 2) p n k) (h2 : 2 ≤ n) (h : ¬ wd_ok i n) : MetO y_X_refuseUnlessWord mi_X_refuseUnlessWord [.inr (.inl 0), .inl (nI (p + 1)), .inl i] σ (.inr (eIO, σ)) := by
  refine met_go ok_X_refuseUnlessWord ⟨rfl, rfl⟩ si_X_refuseUnlessWord (Nat.le_of_ble_eq_true rfl) ⟨trivial, trivial, trivial, trivial⟩ [] 60 (fun X hX K R1 T1 hK hR hT => ?_)
  conv => whnf
  refine ⟨fun h1 => ?_, fun h1 => ?_⟩
  · conv => whnf
    exact hT _ _ _ rfl
  · conv => whnf
    refine ⟨p, n, k, congrArg (fun x => [(.inl x : AV)]) (nI_pred p), ht, h2, ?_⟩
    conv => whnf
    refine ⟨fun h3 => absurd ⟨h1, h3⟩ h, fun _ => ?_⟩
    conv => whnf
    exact hT _ _ _ rfl
def ct_X_refuseUnlessWord : CTy := fun as σ KN KX => ∃ p n k i, as = [.inl (nI (p + 1)), .inl i] ∧ tgAt (σ 2) p n k ∧ 2 ≤ n ∧ (¬ wd_ok i n → KX eIO σ) ∧ (wd_ok i n → KN none σ)
theorem s_X_refuseUnlessWord : Snd y_X_refuseUnlessWord mi_X_refuseUnlessWord 0 2 ct_X_refuseUnlessWord := by
  intro as σ KN KX _ ⟨p, n, k, i, e, ht, h2, h3, h4⟩
  subst e
  by_cases q : wd_ok i n
  · exact ⟨.inl (_, _), h4 q, c_X_refuseUnlessWord_ok p n k i σ ht h2 q⟩
  · exact ⟨.inr (_, _), h3 q, c_X_refuseUnlessWord_no p n k i σ ht h2 q⟩
def mi_X_usedRoot : MI := (b_X_usedRoot, 3, "RootedWords", some .int, 4, tbl_of 27 f_X_usedRoot, fl_X, [(85, (0, 1, ct_X_isUsedAddress)), (90, (1, 1, ct_D_word))], [])
theorem ok_X_usedRoot : MOK mi_X_usedRoot := ⟨tbl_ok k_X_usedRoot, flok_X rfl, List.forall_mem_cons.mpr ⟨okV 0 (by decide) s_X_isUsedAddress rfl (Nat.le_of_ble_eq_true rfl) (Nat.le_of_ble_eq_true rfl) (by decide +kernel) lk_X_85 vv_X_isUsedAddress, List.forall_mem_cons.mpr ⟨okV 1 (by decide) s_D_word rfl (Nat.le_of_ble_eq_true rfl) (Nat.le_of_ble_eq_true rfl) (by decide +kernel) lk_X_90 vv_D_word, (fun _ h => absurd h List.not_mem_nil)⟩⟩⟩
theorem si_X_usedRoot : ∀ q ∈ m_tr mi_X_usedRoot, SiteF mi_X_usedRoot q := (fun _ h => absurd h List.not_mem_nil)
theorem c_X_usedRoot (σ : Mem) (N : Nat) (ln kd : Nat → Nat) (h : HP (σ 2) N ln kd) (j : Nat) (hj : j < 8) (r : Int32) (hr : (Us N ln kd (σ 2 (257 + j)) → r = σ 2 (257 + j)) ∧ (¬ Us N ln kd (σ 2 (257 + j)) → r = 0)) : MetO y_X_usedRoot mi_X_usedRoot [.inr (.inl 0), .inl (nI j)] σ (.inl (some (.inl r), lsF σ ln N)) := by
  have e1 : nI 257 + nI j = nI (257 + j) := nI_add _ _
  refine met_go ok_X_usedRoot ⟨rfl, rfl⟩ si_X_usedRoot (Nat.le_of_ble_eq_true rfl) ⟨trivial, trivial, trivial⟩ [] 60 (fun X hX K R1 T1 hK hR hT => ?_)
  conv => whnf
  rw [e1]
  refine ⟨vp_in_nI (by omega) (by decide), ?_⟩
  rw [nI_clamp (by omega)]
  conv => whnf
  refine ⟨N, ln, kd, h, fun q => ?_, fun q => ?_⟩
  · conv => whnf
    refine ⟨fun h1 => absurd h1 (by decide), fun _ => ?_⟩
    conv => whnf
    exact hR _ _ (by rw [hr.1 q])
  · conv => whnf
    refine ⟨fun _ => ?_, fun h1 => absurd rfl h1⟩
    conv => whnf
    exact hR _ _ (by rw [hr.2 q]; rfl)
def ct_X_usedRoot : CTy := fun as σ KN _ => ∃ j N ln kd, as = [.inl (nI j)] ∧ j < 8 ∧ HP (σ 2) N ln kd ∧ (Us N ln kd (σ 2 (257 + j)) → KN (some (.inl (σ 2 (257 + j)))) (lsF σ ln N)) ∧ (¬ Us N ln kd (σ 2 (257 + j)) → KN (some (.inl 0)) (lsF σ ln N))
theorem s_X_usedRoot : Snd y_X_usedRoot mi_X_usedRoot 0 1 ct_X_usedRoot := by
  intro as σ KN KX _ ⟨j, N, ln, kd, e, hj, h, h1, h2⟩
  subst e
  by_cases q : Us N ln kd (σ 2 (257 + j))
  · exact ⟨.inl (_, _), h1 q, c_X_usedRoot σ N ln kd h j hj _ ⟨fun _ => rfl, fun h => absurd q h⟩⟩
  · exact ⟨.inl (_, _), h2 q, c_X_usedRoot σ N ln kd h j hj _ ⟨fun h => absurd h q, fun _ => rfl⟩⟩
def mi_X_lowestFree : MI := (b_X_lowestFree, 4, "RootedWords", some .int, 3, tbl_of 54 f_X_lowestFree, fl_X, [(72, (0, 1, ct_X_isFreeAt)), (96, (0, 1, ct_X_contentAt)), (105, (0, 0, ct_X_listExtents))], [])
theorem ok_X_lowestFree : MOK mi_X_lowestFree := ⟨tbl_ok k_X_lowestFree, flok_X rfl, List.forall_mem_cons.mpr ⟨okV 0 (by decide) s_X_isFreeAt rfl (Nat.le_of_ble_eq_true rfl) (Nat.le_of_ble_eq_true rfl) (by decide +kernel) lk_X_72 vv_X_isFreeAt, List.forall_mem_cons.mpr ⟨okV 0 (by decide) s_X_contentAt rfl (Nat.le_of_ble_eq_true rfl) (Nat.le_of_ble_eq_true rfl) (by decide +kernel) lk_X_96 vv_X_contentAt, List.forall_mem_cons.mpr ⟨okV 0 (by decide) s_X_listExtents rfl (Nat.le_of_ble_eq_true rfl) (Nat.le_of_ble_eq_true rfl) (by decide +kernel) lk_X_105 vv_X_listExtents, (fun _ h => absurd h List.not_mem_nil)⟩⟩⟩⟩
theorem si_X_lowestFree : ∀ q ∈ m_tr mi_X_lowestFree, SiteF mi_X_lowestFree q := (fun _ h => absurd h List.not_mem_nil)
/-- a free extent that is large enough -/
def Fit (ln kd : Nat → Nat) (m i : Nat) : Prop := kd i = 0 ∧ m + 2 ≤ ln i
theorem c_X_lowestFree_loop {X : CT} {oc : OC} (hX : CxO X mi_X_lowestFree oc) {σ : Mem} {N : Nat} {ln kd : Nat → Nat} (h : HP (σ 2) N ln kd) (hf : ∀ j, j < N → σ 4 j = nI (pos ln j)) {m : Nat} (hm : m < 1000) {r : Int32} (ho : oc = .inl (some (.inl r), σ))
    (h1 : ∀ i, i < N → Fit ln kd m i → (∀ j, j < i → ¬ Fit ln kd m j) → r = nI (pos ln i)) (h2 : (∀ i, i < N → ¬ Fit ln kd m i) → r = -1) : ∀ (n i : Nat), i + n = N → (∀ j, j < i → ¬ Fit ln kd m j) →
    Go X mi_X_lowestFree 7 [some (.inr (.inl 0)), some (.inl (nI m)), some (.inl (nI N)), some (.inl (nI i))] [] σ := by
  intro n
  have hN := h.N85
  induction n with
  | zero =>
    intro i hi hj
    obtain rfl : i = N := by omega
    refine Go_run ok_X_lowestFree hX [7] 60 (fun K R1 T1 hK hR hT => ?_)
    conv => whnf
    refine ⟨fun _ => ?_, fun h1 => absurd (nI_le (Nat.le_refl i) (by omega)) h1⟩
    conv => whnf
    exact hR _ _ (by rw [ho, h2 hj]; rfl)
  | succ n ih =>
    intro i hi hj
    have hi' : i < N := by omega
    have g1 := h.lt hi'
    have g3 := h.ln3 hi'
    have next : ¬ Fit ln kd m i → Go X mi_X_lowestFree 7 [some (.inr (.inl 0)), some (.inl (nI m)), some (.inl (nI N)), some (.inl (nI i + nI 1))] [] σ := by
      intro hn
      rw [nI_add i 1]
      refine ih (i + 1) (by omega) (fun j hj1 => ?_)
      rcases Nat.lt_or_ge j i with q | q
      · exact hj j q
      · obtain rfl : j = i := by omega
        exact hn
    refine Go_run ok_X_lowestFree hX [7] 60 (fun K R1 T1 hK hR hT => ?_)
    conv => whnf
    refine ⟨fun h2 => absurd h2 (nI_ge hi' (by omega)), fun _ => ?_⟩
    conv => whnf
    refine ⟨vp_in_nI (by omega) (by decide), ?_⟩
    rw [nI_clamp (by omega), hf i hi']
    conv => whnf
    refine ⟨pos ln i, ln i, kd i, rfl, tg_of h hi', ?_⟩
    conv => whnf
    refine ⟨fun h3 => ?_, fun h3 => ?_⟩
    · conv => whnf
      exact hK _ _ _ _ (next (fun hn => fr_1.mp h3 hn.1))
    · conv => whnf
      refine ⟨vp_in_nI (by omega) (by decide), ?_⟩
      rw [nI_clamp (by omega), hf i hi']
      conv => whnf
      refine ⟨pos ln i, ln i, kd i, rfl, tg_of h hi', by omega, ?_⟩
      conv => whnf
      refine ⟨fun h4 => ?_, fun h4 => ?_⟩
      · conv => whnf
        exact hK _ _ _ _ (next (fun hn => by have := hn.2; have := (nI_ltI (by omega) (by omega)).mp h4; omega))
      · conv => whnf
        refine ⟨vp_in_nI (by omega) (by decide), ?_⟩
        rw [nI_clamp (by omega), hf i hi']
        conv => whnf
        refine hR _ _ ?_
        rw [ho, h1 i hi' ⟨fr_0.mp h3, by have := (not_congr (nI_ltI (a := ln i - 2) (b := m) (by omega) (by omega))).mp h4; omega⟩ hj]; rfl
theorem c_X_lowestFree (σ : Mem) (N : Nat) (ln kd : Nat → Nat) (h : HP (σ 2) N ln kd) (m : Nat) (hm : m < 1000) (r : Int32) (h1 : ∀ i, i < N → Fit ln kd m i → (∀ j, j < i → ¬ Fit ln kd m j) → r = nI (pos ln i)) (h2 : (∀ i, i < N → ¬ Fit ln kd m i) → r = -1) :
    MetO y_X_lowestFree mi_X_lowestFree [.inr (.inl 0), .inl (nI m)] σ (.inl (some (.inl r), lsF σ ln N)) := by
  refine met_go ok_X_lowestFree ⟨rfl, rfl⟩ si_X_lowestFree (Nat.le_of_ble_eq_true rfl) ⟨trivial, trivial, trivial⟩ [7] 60 (fun X hX K R1 T1 hK hR hT => ?_)
  conv => whnf
  refine ⟨N, ln, kd, h, ?_⟩
  conv => whnf
  exact hK _ _ _ _ (c_X_lowestFree_loop hX (σ := lsF σ ln N) h (fun j hj => lsF_4 σ ln N j hj) hm rfl h1 h2 N 0 (by omega) (fun j hj => absurd hj (Nat.not_lt_zero j)))
def ct_X_lowestFree : CTy := fun as σ KN _ => ∃ m N ln kd, as = [.inl (nI m)] ∧ m < 1000 ∧ HP (σ 2) N ln kd ∧ (∀ i, i < N → Fit ln kd m i → (∀ j, j < i → ¬ Fit ln kd m j) → KN (some (.inl (nI (pos ln i)))) (lsF σ ln N)) ∧ ((∀ i, i < N → ¬ Fit ln kd m i) → KN (some (.inl (-1))) (lsF σ ln N))
theorem least {P : Nat → Prop} {n : Nat} : (∃ i, i < n ∧ P i ∧ ∀ j, j < i → ¬ P j) ∨ (∀ i, i < n → ¬ P i) := by
  induction n with
  | zero => exact Or.inr fun i hi => absurd hi (Nat.not_lt_zero i)
  | succ n ih =>
    rcases ih with ⟨i, h1, h2, h3⟩ | ih
    · exact Or.inl ⟨i, by omega, h2, h3⟩
    · rcases Classical.em (P n) with h | h
      · exact Or.inl ⟨n, by omega, h, ih⟩
      · refine Or.inr fun i hi => ?_
        rcases Nat.lt_or_ge i n with q | q
        · exact ih i q
        · obtain rfl : i = n := by omega
          exact h
theorem least_uniq {P : Nat → Prop} {i j : Nat} (hi : P i) (hi2 : ∀ k, k < i → ¬ P k) (hj : P j) (hj2 : ∀ k, k < j → ¬ P k) : i = j := by
  rcases Nat.lt_trichotomy i j with q | q | q
  · exact absurd hi (hj2 i q)
  · exact q
  · exact absurd hj (hi2 j q)
theorem s_X_lowestFree : Snd y_X_lowestFree mi_X_lowestFree 0 1 ct_X_lowestFree := by
  intro as σ KN KX _ ⟨m, N, ln, kd, e, hm, h, h1, h2⟩
  subst e
  rcases least (P := Fit ln kd m) (n := N) with ⟨i, g1, g2, g3⟩ | g
  · exact ⟨.inl (_, _), h1 i g1 g2 g3, c_X_lowestFree σ N ln kd h m hm _ (fun j q1 q2 q3 => by rw [least_uniq (P := Fit ln kd m) g2 g3 q2 q3]) (fun q => absurd g2 (q i g1))⟩
  · exact ⟨.inl (_, _), h2 g, c_X_lowestFree σ N ln kd h m hm _ (fun j q1 q2 q3 => absurd q2 (g j q1)) (fun _ => rfl)⟩
