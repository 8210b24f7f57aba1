/-! ===== rows that are free or not reached become one ===== -/
theorem wrs_ne : ∀ (l : List (Nat × Int32)) (σ : Mem) (a : Nat), a ≠ 1 → a ≠ 2 → (wrs σ l).1 a = σ a
  | [], _, _, _, _ => rfl
  | q :: l, σ, a, h1, h2 => by
    show (if σ 1 3 = 0 then (wrF σ, true) else wrs (wrO σ q.1 q.2) l).1 a = σ a
    by_cases h : σ 1 3 = 0
    · rw [if_pos h]; exact wrF_ne σ a h1
    · rw [if_neg h, wrs_ne l _ a h1 h2, wrO_ne σ _ _ a h1 h2]
theorem wrs_place : ∀ (l : List (Nat × Int32)) (σ : Mem) (p : Nat), (∀ q ∈ l, q.1 ≠ p) → (wrs σ l).1 2 p = σ 2 p
  | [], _, _, _ => rfl
  | q :: l, σ, p, h => by
    show (if σ 1 3 = 0 then (wrF σ, true) else wrs (wrO σ q.1 q.2) l).1 2 p = σ 2 p
    by_cases h0 : σ 1 3 = 0
    · rw [if_pos h0]; show wrF σ 2 p = σ 2 p; rw [wrF_ne σ 2 (by decide)]
    · rw [if_neg h0, wrs_place l _ p (fun z hz => h z (List.mem_cons_of_mem _ hz)), wrO_2, upd_n _ _ (Ne.symm (h q List.mem_cons_self))]
/-- the places of one extent's change -/
theorem mfL (σ : Mem) (f n k : Nat) (h : f + n ≤ 257) : chgL (peF σ 0 f n k 3) 2 = [(266, nI f), (267, nI (256 * n + k)), (268, nI (f + n - 1)), (269, nI (256 * n + k)), (265, nI 2), (f, nI (256 * n + k)), (f + n - 1, nI (256 * n + k)), (265, 0)] := by
  have e1 : (nI f).toNatClampNeg = f := nI_clamp (by omega)
  have e2 : (nI (f + n - 1)).toNatClampNeg = f + n - 1 := nI_clamp (by omega)
  show [(266, nI f), (267, nI (256 * n + k)), (268, nI (f + n - 1)), (269, nI (256 * n + k)), (265, nI 2), ((nI f).toNatClampNeg, nI (256 * n + k)), ((nI (f + n - 1)).toNatClampNeg, nI (256 * n + k)), (265, 0)] = _
  rw [e1, e2]
def mfW (σ : Mem) (f n : Nat) : Mem × Bool := wrs (peF σ 0 f n 0) (chgL (peF σ 0 f n 0 3) 2)
theorem mfW_ne (σ : Mem) (f n a : Nat) (h1 : a ≠ 1) (h2 : a ≠ 2) (h3 : a ≠ 3) : (mfW σ f n).1 a = σ a := by
  unfold mfW
  rw [wrs_ne _ _ _ h1 h2, peF_ne _ _ _ _ _ _ h3]
theorem mfW_2 (σ : Mem) (f n p : Nat) (h : f + n ≤ 257) (hp : p < 265) (h1 : p ≠ f) (h2 : p ≠ f + n - 1) : (mfW σ f n).1 2 p = σ 2 p := by
  unfold mfW
  rw [mfL σ f n 0 h, wrs_place, peF_ne _ _ _ _ _ _ (by decide)]
  intro q hq
  simp only [List.mem_cons, List.mem_nil_iff, or_false] at hq
  rcases hq with rfl | rfl | rfl | rfl | rfl | rfl | rfl | rfl
  all_goals (show _ ≠ p; omega)
/-- the end of a row that isn't reached -/
def reF (N : Nat) (rb : Nat → Bool) : Nat → Nat → Nat
  | 0, i => i
  | n + 1, i => if i + 1 < N ∧ rb (i + 1) = false then reF N rb n (i + 1) else i
theorem reF_ge (N : Nat) (rb : Nat → Bool) : ∀ n i, i ≤ reF N rb n i
  | 0, i => Nat.le_refl i
  | n + 1, i => by
    unfold reF
    by_cases h : i + 1 < N ∧ rb (i + 1) = false
    · rw [if_pos h]; exact Nat.le_trans (Nat.le_succ i) (reF_ge N rb n (i + 1))
    · rw [if_neg h]; exact Nat.le_refl i
theorem reF_lt (N : Nat) (rb : Nat → Bool) : ∀ n i, i < N → reF N rb n i < N
  | 0, i, h => h
  | n + 1, i, h => by
    unfold reF
    by_cases q : i + 1 < N ∧ rb (i + 1) = false
    · rw [if_pos q]; exact reF_lt N rb n (i + 1) q.1
    · rw [if_neg q]; exact h
def fuF (N : Nat) (ln kd : Nat → Nat) (rb : Nat → Bool) : Nat → Nat → Mem → Mem × Bool
  | 0, _, σ => (σ, false)
  | n + 1, i, σ => if i < N then (if rb i = true then fuF N ln kd rb n (i + 1) σ else
      if i < reF N rb N i ∨ kd (reF N rb N i) ≠ 0 then
        (if (mfW σ (pos ln i) (pos ln (reF N rb N i) + ln (reF N rb N i) - pos ln i)).2 = true then mfW σ (pos ln i) (pos ln (reF N rb N i) + ln (reF N rb N i) - pos ln i)
         else fuF N ln kd rb n (reF N rb N i + 1) (mfW σ (pos ln i) (pos ln (reF N rb N i) + ln (reF N rb N i) - pos ln i)).1)
      else fuF N ln kd rb n (reF N rb N i + 1) σ) else (σ, false)
def fuO (r : Mem × Bool) : OC := if r.2 = true then .inr (eIS, r.1) else .inl (none, r.1)
def mi_X_freeUnreached : MI := (b_X_freeUnreached, 4, "RootedWords", none, 4, tbl_of 117 f_X_freeUnreached, fl_X, [(55, (0, 1, ct_X_lengthAt)), (72, (0, 1, ct_X_isFreeAt)), (76, (0, 2, ct_X_makeFree)), (105, (0, 0, ct_X_listExtents)), (174, (0, 1, ct_X_isReachedAt))], [])
theorem ok_X_freeUnreached : MOK mi_X_freeUnreached := ⟨tbl_ok k_X_freeUnreached, flok_X rfl, List.forall_mem_cons.mpr ⟨okV 0 (by decide) s_X_lengthAt rfl (Nat.le_of_ble_eq_true rfl) (Nat.le_of_ble_eq_true rfl) (by decide +kernel) lk_X_55 vv_X_lengthAt, List.forall_mem_cons.mpr ⟨okV 0 (by decide) s_X_isFreeAt rfl (Nat.le_of_ble_eq_true rfl) (Nat.le_of_ble_eq_true rfl) (by decide +kernel) lk_X_72 vv_X_isFreeAt, List.forall_mem_cons.mpr ⟨okV 0 (by decide) s_X_makeFree rfl (Nat.le_of_ble_eq_true rfl) (Nat.le_of_ble_eq_true rfl) (by decide +kernel) lk_X_76 vv_X_makeFree, List.forall_mem_cons.mpr ⟨okV 0 (by decide) s_X_listExtents rfl (Nat.le_of_ble_eq_true rfl) (Nat.le_of_ble_eq_true rfl) (by decide +kernel) lk_X_105 vv_X_listExtents, List.forall_mem_cons.mpr ⟨okV 0 (by decide) s_X_isReachedAt rfl (Nat.le_of_ble_eq_true rfl) (Nat.le_of_ble_eq_true rfl) (by decide +kernel) lk_X_174 vv_X_isReachedAt, (fun _ h => absurd h List.not_mem_nil)⟩⟩⟩⟩⟩⟩
theorem si_X_freeUnreached : ∀ q ∈ m_tr mi_X_freeUnreached, SiteF mi_X_freeUnreached q := (fun _ h => absurd h List.not_mem_nil)
theorem c_X_fu_in {X : CT} {oc : OC} (hX : CxO X mi_X_freeUnreached oc) {σ : Mem} {w : Nat → Int32} {N : Nat} {ln kd : Nat → Nat} (h : HP w N ln kd) (hf : ∀ j, j < N → σ 4 j = nI (pos ln j)) {rb : Nat → Bool} (hm : ∀ j, j < N → (rb j = true ↔ σ 5 (pos ln j + 1) = 2)) (s : Nat) : ∀ (n i : Nat), i < N → N ≤ i + n + 1 →
    Go X mi_X_freeUnreached 58 [some (.inr (.inl 0)), some (.inl (nI N)), some (.inl (nI (reF N rb n i))), some (.inl (nI s))] [] σ → Go X mi_X_freeUnreached 30 [some (.inr (.inl 0)), some (.inl (nI N)), some (.inl (nI i)), some (.inl (nI s))] [] σ := by
  have hN := h.N85
  intro n
  induction n with
  | zero =>
    intro i hi hn hG
    have e1 : nI i + nI 1 = nI (i + 1) := nI_add i 1
    refine Go_run ok_X_freeUnreached hX [58] 60 (fun K R1 T1 hK hR hT => ?_)
    conv => whnf
    rw [e1]
    refine ⟨fun _ => ?_, fun h1 => absurd (nI_le (by omega) (by omega)) h1⟩
    conv => whnf
    exact hK _ _ _ _ hG
  | succ n ih =>
    intro i hi hn hG
    have e1 : nI i + nI 1 = nI (i + 1) := nI_add i 1
    refine Go_run ok_X_freeUnreached hX [30, 58] 60 (fun K R1 T1 hK hR hT => ?_)
    conv => whnf
    rw [e1]
    refine ⟨fun h1 => ?_, fun h1 => ?_⟩
    · conv => whnf
      refine hK _ _ _ _ ?_
      have h2 : N ≤ i + 1 := (nI_leI (by omega) (by omega)).mp h1
      unfold reF at hG
      rw [if_neg (fun z => by omega)] at hG
      exact hG
    · have h2 : i + 1 < N := by have := (not_congr (nI_leI (a := N) (b := i + 1) (by omega) (by omega))).mp h1; omega
      have g1 := h.lt h2
      conv => whnf
      rw [e1]
      refine ⟨vp_in_nI (by omega) (by decide), ?_⟩
      rw [nI_clamp (by omega), hf _ h2]
      conv => whnf
      refine ⟨pos ln (i + 1), rfl, by omega, ?_⟩
      conv => whnf
      refine ⟨fun h3 => ?_, fun h3 => ?_⟩
      · conv => whnf
        refine hK _ _ _ _ ?_
        have h4 : rb (i + 1) = true := (hm _ h2).mpr (by
          by_cases q : σ 5 (pos ln (i + 1) + 1) = 2
          · exact q
          · rw [if_neg q] at h3; exact absurd rfl h3)
        unfold reF at hG
        rw [if_neg (fun z => by rw [h4] at z; exact absurd z.2 (by decide))] at hG
        exact hG
      · conv => whnf
        refine hK _ _ _ _ ?_
        have h4 : rb (i + 1) = false := by
          cases q : rb (i + 1) with
          | false => rfl
          | true => rw [if_pos ((hm _ h2).mp q)] at h3; exact absurd h3 (by decide)
        unfold reF at hG
        rw [if_pos ⟨h2, h4⟩] at hG
        show Go X mi_X_freeUnreached 30 [some (.inr (.inl 0)), some (.inl (nI N)), some (.inl (nI i + nI 1)), some (.inl (nI s))] [] σ
        rw [e1]
        exact ih (i + 1) h2 (by omega) hG
theorem c_X_fu_loop {X : CT} {oc : OC} (hX : CxO X mi_X_freeUnreached oc) {w m : Nat → Int32} {N : Nat} {ln kd : Nat → Nat} (h : HP w N ln kd) {rb : Nat → Bool} (hm : ∀ j, j < N → (rb j = true ↔ m (pos ln j + 1) = 2)) : ∀ (n i : Nat) (σ : Mem) (a3 : Option AV), N < i + n → i ≤ N → (∀ j, j < N → σ 4 j = nI (pos ln j)) → σ 5 = m → (∀ j, i ≤ j → j < N → tgAt (σ 2) (pos ln j) (ln j) (kd j)) →
    oc = fuO (fuF N ln kd rb n i σ) → Go X mi_X_freeUnreached 7 [some (.inr (.inl 0)), some (.inl (nI N)), some (.inl (nI i)), a3] [] σ := by
  have hN := h.N85
  intro n
  induction n with
  | zero => intro i σ a3 h1 h2; exact absurd h1 (by omega)
  | succ n ih =>
    intro i σ a3 hn hi hf h5 ht ho
    unfold fuF at ho
    by_cases hiN : i < N
    case neg =>
      rw [if_neg hiN] at ho
      refine Go_run ok_X_freeUnreached hX [7] 60 (fun K R1 T1 hK hR hT => ?_)
      conv => whnf
      refine ⟨fun _ => ?_, fun h1 => absurd (nI_le (by omega) (by omega)) h1⟩
      conv => whnf
      exact hR _ _ ho
    rw [if_pos hiN] at ho
    have g1 := h.lt hiN
    have e1 : ∀ i, nI i + nI 1 = nI (i + 1) := fun i => nI_add i 1
    cases hrb : rb i with
    | true =>
      rw [if_pos hrb] at ho
      refine Go_run ok_X_freeUnreached hX [7] 60 (fun K R1 T1 hK hR hT => ?_)
      conv => whnf
      refine ⟨fun h2 => absurd h2 (nI_ge hiN (by omega)), fun _ => ?_⟩
      conv => whnf
      refine ⟨vp_in_nI (by omega) (by decide), ?_⟩
      rw [nI_clamp (by omega), hf i hiN]
      conv => whnf
      refine ⟨pos ln i, rfl, by omega, ?_⟩
      rw [h5, if_pos ((hm i hiN).mp hrb)]
      conv => whnf
      refine ⟨fun h3 => absurd h3 (by decide), fun _ => ?_⟩
      conv => whnf
      refine hK _ _ _ _ ?_
      show Go X mi_X_freeUnreached 7 [some (.inr (.inl 0)), some (.inl (nI N)), some (.inl (nI i + nI 1)), a3] [] σ
      rw [e1]
      exact ih (i + 1) σ a3 (by omega) (by omega) hf h5 (fun j hj => ht j (by omega)) ho
    | false =>
      have hm0 : ¬ m (pos ln i + 1) = 2 := fun z => by rw [(hm i hiN).mpr z] at hrb; cases hrb
      rw [if_neg (by rw [hrb]; decide)] at ho
      have gt0 := reF_ge N rb N i
      have gt1 := reF_lt N rb N i hiN
      generalize hT9 : reF N rb N i = t at ho gt0 gt1
      have g2 := h.lt gt1
      have g3 := h.end gt1
      have g4 := h.ln3 gt1
      have g5 := pos_mono (ln := ln) gt0
      have hin : Go X mi_X_freeUnreached 30 [some (.inr (.inl 0)), some (.inl (nI N)), some (.inl (nI i)), some (.inl (nI i))] [] σ := by
        refine c_X_fu_in hX h hf (rb := rb) (fun j hj => by rw [h5]; exact hm j hj) i N i hiN (by omega) ?_
        rw [hT9]
        have mkf : fuO (if (mfW σ (pos ln i) (pos ln t + ln t - pos ln i)).2 = true then mfW σ (pos ln i) (pos ln t + ln t - pos ln i) else fuF N ln kd rb n (t + 1) (mfW σ (pos ln i) (pos ln t + ln t - pos ln i)).1) = oc →
            Go X mi_X_freeUnreached 76 [some (.inr (.inl 0)), some (.inl (nI N)), some (.inl (nI t)), some (.inl (nI i))] [] σ := by
          intro hoc
          have e5 : nI (pos ln t) + nI (ln t) - nI (pos ln i) = nI (pos ln t + ln t - pos ln i) := by rw [nI_add, pk_sub (by omega)]
          refine Go_run ok_X_freeUnreached hX [7] 60 (fun K R1 T1 hK hR hT => ?_)
          conv => whnf
          refine ⟨vp_in_nI (by omega) (by decide), ?_⟩
          rw [nI_clamp (by omega), hf i hiN]
          conv => whnf
          refine ⟨vp_in_nI (by omega) (by decide), ?_⟩
          rw [nI_clamp (by omega), hf t gt1]
          conv => whnf
          refine ⟨vp_in_nI (by omega) (by decide), ?_⟩
          rw [nI_clamp (by omega), hf t gt1]
          conv => whnf
          refine ⟨pos ln t, ln t, kd t, rfl, ht t gt0 gt1, ?_⟩
          conv => whnf
          refine ⟨vp_in_nI (by omega) (by decide), ?_⟩
          rw [nI_clamp (by omega), hf i hiN]
          conv => whnf
          rw [e5]
          refine ⟨pos ln i, pos ln t + ln t - pos ln i, rfl, by omega, by omega, fun σ' hσ => ?_, fun σ' hσ => ?_⟩
          · have hs : mfW σ (pos ln i) (pos ln t + ln t - pos ln i) = (σ', false) := hσ
            conv => whnf
            refine hK _ _ _ _ ?_
            show Go X mi_X_freeUnreached 7 [some (.inr (.inl 0)), some (.inl (nI N)), some (.inl (nI t + nI 1)), some (.inl (nI i))] [] σ'
            have e9 : σ' = (mfW σ (pos ln i) (pos ln t + ln t - pos ln i)).1 := by rw [hs]
            rw [e1]
            refine ih (t + 1) σ' _ (by omega) (by omega) (fun j hj => ?_) ?_ (fun j hj1 hj2 => ?_) ?_
            · rw [e9, mfW_ne _ _ _ _ (by decide) (by decide) (by decide)]; exact hf j hj
            · rw [e9, mfW_ne _ _ _ _ (by decide) (by decide) (by decide)]; exact h5
            · have k1 := ht j (by omega) hj2
              have k2 := h.sep gt1 (j := j) (by omega)
              have k3 := h.lt hj2
              refine ⟨?_, k1.2⟩
              rw [e9, mfW_2 _ _ _ _ (by omega) (by omega) (by omega) (by omega)]
              exact k1.1
            · rw [← hoc, hs]; rfl
          · have hs : mfW σ (pos ln i) (pos ln t + ln t - pos ln i) = (σ', true) := hσ
            refine hT _ _ _ ?_
            rw [← hoc, hs]; rfl
        refine Go_run ok_X_freeUnreached hX [76, 7] 60 (fun K R1 T1 hK hR hT => ?_)
        conv => whnf
        refine ⟨fun h1 => ?_, fun h1 => ?_⟩
        · conv => whnf
          have h2 : i < t := (nI_ltI (by omega) (by omega)).mp h1
          rw [if_pos (Or.inl h2)] at ho
          exact hK _ _ _ _ (mkf ho.symm)
        · have h2 : ¬ i < t := (not_congr (nI_ltI (by omega) (by omega))).mp h1
          conv => whnf
          refine ⟨vp_in_nI (by omega) (by decide), ?_⟩
          rw [nI_clamp (by omega), hf t gt1]
          conv => whnf
          refine ⟨pos ln t, ln t, kd t, rfl, ht t gt0 gt1, ?_⟩
          conv => whnf
          refine ⟨fun h3 => ?_, fun h3 => ?_⟩
          · conv => whnf
            refine hK _ _ _ _ ?_
            rw [if_neg (fun z => z.elim h2 (fun z => z (fr_0.mp h3)))] at ho
            show Go X mi_X_freeUnreached 7 [some (.inr (.inl 0)), some (.inl (nI N)), some (.inl (nI t + nI 1)), some (.inl (nI i))] [] σ
            rw [e1]
            exact ih (t + 1) σ _ (by omega) (by omega) hf h5 (fun j hj => ht j (by omega)) ho
          · conv => whnf
            rw [if_pos (Or.inr (fr_1.mp h3))] at ho
            exact hK _ _ _ _ (mkf ho.symm)
      refine Go_run ok_X_freeUnreached hX [30] 60 (fun K R1 T1 hK hR hT => ?_)
      conv => whnf
      refine ⟨fun h2 => absurd h2 (nI_ge hiN (by omega)), fun _ => ?_⟩
      conv => whnf
      refine ⟨vp_in_nI (by omega) (by decide), ?_⟩
      rw [nI_clamp (by omega), hf i hiN]
      conv => whnf
      refine ⟨pos ln i, rfl, by omega, ?_⟩
      rw [h5, if_neg hm0]
      conv => whnf
      refine ⟨fun _ => ?_, fun h3 => absurd rfl h3⟩
      conv => whnf
      exact hK _ _ _ _ hin
theorem c_X_freeUnreached (σ : Mem) (N : Nat) (ln kd : Nat → Nat) (h : HP (σ 2) N ln kd) (rb : Nat → Bool) (hm : ∀ j, j < N → (rb j = true ↔ σ 5 (pos ln j + 1) = 2)) : MetO y_X_freeUnreached mi_X_freeUnreached [.inr (.inl 0)] σ (fuO (fuF N ln kd rb (N + 1) 0 (lsF σ ln N))) := by
  refine met_go ok_X_freeUnreached ⟨rfl, rfl⟩ si_X_freeUnreached (Nat.le_of_ble_eq_true rfl) ⟨trivial, trivial⟩ [7] 60 (fun X hX K R1 T1 hK hR hT => ?_)
  conv => whnf
  refine ⟨N, ln, kd, h, ?_⟩
  conv => whnf
  exact hK _ _ _ _ (c_X_fu_loop hX (w := σ 2) (m := σ 5) h hm (N + 1) 0 (lsF σ ln N) none (by omega) (Nat.zero_le _) (fun j hj => lsF_4 σ ln N j hj) rfl (fun j _ hj => tg_of h hj) rfl)
def ct_X_freeUnreached : CTy := fun as σ KN KX => match as with
  | [] => ∃ N ln kd rb, HP (σ 2) N ln kd ∧ (∀ j, j < N → (rb j = true ↔ σ 5 (pos ln j + 1) = 2)) ∧ (∀ σ', fuF N ln kd rb (N + 1) 0 (lsF σ ln N) = (σ', false) → KN none σ') ∧ (∀ σ', fuF N ln kd rb (N + 1) 0 (lsF σ ln N) = (σ', true) → KX eIS σ')
  | _ => False
theorem fuO_use {y : MethodName} {M : MI} {as : List AV} {σ : Mem} {r : Mem × Bool} {KN : Option AV → Mem → Prop} {KX : String → Mem → Prop} (hm : MetO y M as σ (fuO r)) (h1 : ∀ σ', r = (σ', false) → KN none σ') (h2 : ∀ σ', r = (σ', true) → KX eIS σ') :
    ∃ oc : OC, (match oc with | .inl z => KN z.1 z.2 | .inr z => KX z.1 z.2) ∧ MetO y M as σ oc := by
  refine ⟨_, ?_, hm⟩
  unfold fuO
  by_cases h : r.2 = true
  · rw [if_pos h]; exact h2 _ (Prod.ext rfl h)
  · rw [if_neg h]; exact h1 _ (Prod.ext rfl (Bool.not_eq_true _ ▸ h))
theorem s_X_freeUnreached : Snd y_X_freeUnreached mi_X_freeUnreached 0 0 ct_X_freeUnreached := by
  intro as σ KN KX _ hf
  match as, hf with
  | [], ⟨N, ln, kd, rb, h, hm, h1, h2⟩ => exact fuO_use (c_X_freeUnreached σ N ln kd h rb hm) h1 h2
