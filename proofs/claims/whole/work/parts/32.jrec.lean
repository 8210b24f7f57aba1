/-! ===== recover, side by side ===== -/
theorem reF_mid (N : Nat) (rb : Nat → Bool) : ∀ n i, rb i = false → ∀ j, i ≤ j → j ≤ reF N rb n i → rb j = false
  | 0, i, h, j, h1, h2 => by
    have h2 : j ≤ i := h2
    obtain rfl : j = i := by omega
    exact h
  | n + 1, i, h, j, h1, h2 => by
    unfold reF at h2
    by_cases q : i + 1 < N ∧ rb (i + 1) = false
    · rw [if_pos q] at h2
      by_cases z : j = i
      · rw [z]; exact h
      · exact reF_mid N rb n (i + 1) q.2 j (by omega) h2
    · rw [if_neg q] at h2
      obtain rfl : j = i := by omega
      exact h
theorem reF_end (N : Nat) (rb : Nat → Bool) : ∀ n i, N ≤ i + n + 1 → reF N rb n i + 1 < N → rb (reF N rb n i + 1) = true
  | 0, i, h, h2 => by
    have h2 : i + 1 < N := h2
    omega
  | n + 1, i, h, h2 => by
    unfold reF at h2 ⊢
    by_cases q : i + 1 < N ∧ rb (i + 1) = false
    · rw [if_pos q] at h2 ⊢
      exact reF_end N rb n (i + 1) (by omega) h2
    · rw [if_neg q] at h2 ⊢
      cases z : rb (i + 1) with
      | true => rfl
      | false => exact absurd ⟨h2, z⟩ q
theorem fuF_ne (N : Nat) (ln kd : Nat → Nat) (rb : Nat → Bool) : ∀ n i (σ : Mem) (a : Nat), a ≠ 1 → a ≠ 2 → a ≠ 3 → (fuF N ln kd rb n i σ).1 a = σ a
  | 0, _, _, _, _, _, _ => rfl
  | n + 1, i, σ, a, h1, h2, h3 => by
    unfold fuF
    split
    · split
      · exact fuF_ne N ln kd rb n _ σ a h1 h2 h3
      · split
        · split
          · exact mfW_ne _ _ _ a h1 h2 h3
          · rw [fuF_ne N ln kd rb n _ _ a h1 h2 h3]; exact mfW_ne _ _ _ a h1 h2 h3
        · exact fuF_ne N ln kd rb n _ σ a h1 h2 h3
    · rfl
theorem cntP_skip {P : Nat → Prop} {i : Nat} : ∀ n, (∀ j, i ≤ j → j < i + n → ¬ P j) → cntP P (i + n) = cntP P i
  | 0, _ => rfl
  | n + 1, h => by
    show cntP P (i + n) + @ite Nat (P (i + n)) (Classical.propDecidable _) 1 0 = _
    rw [if_neg (h _ (by omega) (by omega)), cntP_skip n (fun j h1 h2 => h j h1 (by omega))]
    rfl
theorem cntP_yes {P : Nat → Prop} {i : Nat} (h : P i) : cntP P (i + 1) = cntP P i + 1 := by
  show cntP P i + @ite Nat (P i) (Classical.propDecidable _) 1 0 = _
  rw [if_pos h]
def mi_M_clean : MI := (b_M_clean, 5, "RootedWordsModel", some .boolean, 3, tbl_of 120 f_M_clean, fl_M, [(59, (7, 1, ct_M_does)), (70, (7, 2, ct_M_join))], [])
theorem ok_M_clean : MOK mi_M_clean := ⟨tbl_ok k_M_clean, flok_M rfl, List.forall_mem_cons.mpr ⟨okV 2 (by decide) s_M_does rfl (Nat.le_of_ble_eq_true rfl) (Nat.le_of_ble_eq_true rfl) (by decide +kernel) lk_M_59 vv_M_does, List.forall_mem_cons.mpr ⟨okV 2 (by decide) s_M_join rfl (Nat.le_of_ble_eq_true rfl) (Nat.le_of_ble_eq_true rfl) (by decide +kernel) lk_M_70 vv_M_join, (fun _ h => absurd h List.not_mem_nil)⟩⟩⟩
theorem si_M_clean : ∀ q ∈ m_tr mi_M_clean, SiteF mi_M_clean q := (fun _ h => absurd h List.not_mem_nil)
theorem c_M_cl_12 {X : CT} {oc : OC} (hX : CxO X mi_M_clean oc) {σ : Mem} {N : Nat} (hn : σ 7 1 = nI N) (hN : N ≤ 85) (e d : Nat) (hd : e + d ≤ N) (hu : ∀ s, s < d → σ 12 (e + s) = 0) (hm : e + d < N → σ 12 (e + d) ≠ 0) (z u : Option AV)
    (hG : Go X mi_M_clean 36 [some (.inr (.inl 7)), some (.inl (nI e)), some (.inl (nI (e + d))), z, u] [] σ) : ∀ (n s : Nat), s + n = d → Go X mi_M_clean 12 [some (.inr (.inl 7)), some (.inl (nI e)), some (.inl (nI (e + s))), z, u] [] σ := by
  intro n
  induction n with
  | zero =>
    intro s hs
    obtain rfl : s = d := by omega
    refine Go_run ok_M_clean hX [36] 60 (fun K R1 T1 hK hR hT => ?_)
    conv => whnf
    rw [hn]
    refine ⟨fun _ => ?_, fun y => ?_⟩
    · conv => whnf
      exact hK _ _ _ _ hG
    · have y1 := (not_congr (nI_leI (a := N) (b := e + s) (by omega) (by omega))).mp y
      conv => whnf
      refine ⟨vp_in_nI (by omega) (by decide), ?_⟩
      rw [nI_clamp (by omega)]
      conv => whnf
      refine ⟨fun _ => ?_, fun y2 => absurd y2 (hm (by omega))⟩
      conv => whnf
      exact hK _ _ _ _ hG
  | succ n ih =>
    intro s hs
    have e2 : nI (e + s) + nI 1 = nI (e + (s + 1)) := nI_add _ _
    refine Go_run ok_M_clean hX [12] 60 (fun K R1 T1 hK hR hT => ?_)
    conv => whnf
    rw [hn]
    refine ⟨fun y => absurd y (nI_ge (by omega) (by omega)), fun _ => ?_⟩
    conv => whnf
    refine ⟨vp_in_nI (by omega) (by decide), ?_⟩
    rw [nI_clamp (by omega)]
    conv => whnf
    refine ⟨fun y => absurd (hu s (by omega)) y, fun _ => ?_⟩
    conv => whnf
    refine hK _ _ _ _ ?_
    show Go X mi_M_clean 12 [some (.inr (.inl 7)), some (.inl (nI e)), some (.inl (nI (e + s) + nI 1)), z, u] [] σ
    rw [e2]
    exact ih (s + 1) (by omega)
theorem c_M_cl_98 {X : CT} {oc : OC} (hX : CxO X mi_M_clean oc) {σ : Mem} (e to : Nat) (hto : to ≤ 200) (he : e ≤ 200) (wk : Int32) (hw : ¬ wk = 0 ∨ to = e ∨ to = e + 1) (u : Option AV)
    (hG : Go X mi_M_clean 2 [some (.inr (.inl 7)), some (.inl (nI (e + 1))), some (.inl (nI to)), some (.inl wk), u] [] σ) : Go X mi_M_clean 98 [some (.inr (.inl 7)), some (.inl (nI e)), some (.inl (nI to)), some (.inl wk), u] [] σ := by
  have e2 : nI e + nI 1 = nI (e + 1) := nI_add _ _
  have hG2 : Go X mi_M_clean 2 [some (.inr (.inl 7)), some (.inl (nI e + nI 1)), some (.inl (nI to)), some (.inl wk), u] [] σ := by rw [e2]; exact hG
  refine Go_run ok_M_clean hX [2] 60 (fun K R1 T1 hK hR hT => ?_)
  conv => whnf
  refine ⟨fun y => ?_, fun y => ?_⟩
  · conv => whnf
    exact hK _ _ _ _ hG2
  · conv => whnf
    refine ⟨fun y2 => ?_, fun y2 => ?_⟩
    · conv => whnf
      have : to = e + 1 := by
        rcases hw with h | h | h
        · exact absurd y h
        · exact absurd (by rw [h]) y2
        · exact h
      subst this
      exact hK _ _ _ _ hG
    · conv => whnf
      exact hK _ _ _ _ hG2
/-- the rows from i on in the class, from e on in the model -/
def ClI (N0 : Nat) (ln0 kd0 : Nat → Nat) (rb : Nat → Bool) (i e N : Nat) (ln kd : Nat → Nat) (σc τ : Mem) : Prop :=
  (i ≤ N0) ∧
  (N + i = N0 + e) ∧
  (pos ln e = pos ln0 i) ∧
  (∀ t, i + t < N0 → ln (e + t) = ln0 (i + t) ∧ kd (e + t) = kd0 (i + t) ∧ (τ 12 (e + t) ≠ 0 ↔ rb (i + t) = true)) ∧
  (cntP (fun j => kd j ≠ 0) e = cntP (fun j => rb j = true) i) ∧
  (MP τ N ln kd) ∧
  (EF (σc 2) τ N ln kd) ∧
  (σc 2 265 = 0) ∧
  (τ 7 12 = 0) ∧
  (σc 1 2 = τ 7 9) ∧
  (σc 1 3 = τ 7 10) ∧
  (σc 1 4 = 1) ∧
  (τ 7 11 = 1) ∧
  (lOK (τ 7 10)) ∧
  (∀ j, bl (τ 12 j)) ∧
  (τ 7 0 = 0)
theorem ClI.hi {N0 : Nat} {ln0 kd0 : Nat → Nat} {rb : Nat → Bool} {i e N : Nat} {ln kd : Nat → Nat} {σc τ : Mem} (h : ClI N0 ln0 kd0 rb i e N ln kd σc τ) : i ≤ N0 := h.1
theorem ClI.hN {N0 : Nat} {ln0 kd0 : Nat → Nat} {rb : Nat → Bool} {i e N : Nat} {ln kd : Nat → Nat} {σc τ : Mem} (h : ClI N0 ln0 kd0 rb i e N ln kd σc τ) : N + i = N0 + e := h.2.1
theorem ClI.hp {N0 : Nat} {ln0 kd0 : Nat → Nat} {rb : Nat → Bool} {i e N : Nat} {ln kd : Nat → Nat} {σc τ : Mem} (h : ClI N0 ln0 kd0 rb i e N ln kd σc τ) : pos ln e = pos ln0 i := h.2.2.1
theorem ClI.hl {N0 : Nat} {ln0 kd0 : Nat → Nat} {rb : Nat → Bool} {i e N : Nat} {ln kd : Nat → Nat} {σc τ : Mem} (h : ClI N0 ln0 kd0 rb i e N ln kd σc τ) : ∀ t, i + t < N0 → ln (e + t) = ln0 (i + t) ∧ kd (e + t) = kd0 (i + t) ∧ (τ 12 (e + t) ≠ 0 ↔ rb (i + t) = true) := h.2.2.2.1
theorem ClI.hc {N0 : Nat} {ln0 kd0 : Nat → Nat} {rb : Nat → Bool} {i e N : Nat} {ln kd : Nat → Nat} {σc τ : Mem} (h : ClI N0 ln0 kd0 rb i e N ln kd σc τ) : cntP (fun j => kd j ≠ 0) e = cntP (fun j => rb j = true) i := h.2.2.2.2.1
theorem ClI.mp {N0 : Nat} {ln0 kd0 : Nat → Nat} {rb : Nat → Bool} {i e N : Nat} {ln kd : Nat → Nat} {σc τ : Mem} (h : ClI N0 ln0 kd0 rb i e N ln kd σc τ) : MP τ N ln kd := h.2.2.2.2.2.1
theorem ClI.ef {N0 : Nat} {ln0 kd0 : Nat → Nat} {rb : Nat → Bool} {i e N : Nat} {ln kd : Nat → Nat} {σc τ : Mem} (h : ClI N0 ln0 kd0 rb i e N ln kd σc τ) : EF (σc 2) τ N ln kd := h.2.2.2.2.2.2.1
theorem ClI.h265 {N0 : Nat} {ln0 kd0 : Nat → Nat} {rb : Nat → Bool} {i e N : Nat} {ln kd : Nat → Nat} {σc τ : Mem} (h : ClI N0 ln0 kd0 rb i e N ln kd σc τ) : σc 2 265 = 0 := h.2.2.2.2.2.2.2.1
theorem ClI.h12 {N0 : Nat} {ln0 kd0 : Nat → Nat} {rb : Nat → Bool} {i e N : Nat} {ln kd : Nat → Nat} {σc τ : Mem} (h : ClI N0 ln0 kd0 rb i e N ln kd σc τ) : τ 7 12 = 0 := h.2.2.2.2.2.2.2.2.1
theorem ClI.c2 {N0 : Nat} {ln0 kd0 : Nat → Nat} {rb : Nat → Bool} {i e N : Nat} {ln kd : Nat → Nat} {σc τ : Mem} (h : ClI N0 ln0 kd0 rb i e N ln kd σc τ) : σc 1 2 = τ 7 9 := h.2.2.2.2.2.2.2.2.2.1
theorem ClI.c3 {N0 : Nat} {ln0 kd0 : Nat → Nat} {rb : Nat → Bool} {i e N : Nat} {ln kd : Nat → Nat} {σc τ : Mem} (h : ClI N0 ln0 kd0 rb i e N ln kd σc τ) : σc 1 3 = τ 7 10 := h.2.2.2.2.2.2.2.2.2.2.1
theorem ClI.c4 {N0 : Nat} {ln0 kd0 : Nat → Nat} {rb : Nat → Bool} {i e N : Nat} {ln kd : Nat → Nat} {σc τ : Mem} (h : ClI N0 ln0 kd0 rb i e N ln kd σc τ) : σc 1 4 = 1 := h.2.2.2.2.2.2.2.2.2.2.2.1
theorem ClI.d4 {N0 : Nat} {ln0 kd0 : Nat → Nat} {rb : Nat → Bool} {i e N : Nat} {ln kd : Nat → Nat} {σc τ : Mem} (h : ClI N0 ln0 kd0 rb i e N ln kd σc τ) : τ 7 11 = 1 := h.2.2.2.2.2.2.2.2.2.2.2.2.1
theorem ClI.lo {N0 : Nat} {ln0 kd0 : Nat → Nat} {rb : Nat → Bool} {i e N : Nat} {ln kd : Nat → Nat} {σc τ : Mem} (h : ClI N0 ln0 kd0 rb i e N ln kd σc τ) : lOK (τ 7 10) := h.2.2.2.2.2.2.2.2.2.2.2.2.2.1
theorem ClI.bm {N0 : Nat} {ln0 kd0 : Nat → Nat} {rb : Nat → Bool} {i e N : Nat} {ln kd : Nat → Nat} {σc τ : Mem} (h : ClI N0 ln0 kd0 rb i e N ln kd σc τ) : ∀ j, bl (τ 12 j) := h.2.2.2.2.2.2.2.2.2.2.2.2.2.2.1
theorem ClI.cd {N0 : Nat} {ln0 kd0 : Nat → Nat} {rb : Nat → Bool} {i e N : Nat} {ln kd : Nat → Nat} {σc τ : Mem} (h : ClI N0 ln0 kd0 rb i e N ln kd σc τ) : τ 7 0 = 0 := h.2.2.2.2.2.2.2.2.2.2.2.2.2.2.2
/-- what is there when the model's clean has ended -/
def ClO (N0 : Nat) (rb : Nat → Bool) (σc τ : Mem) (ok : Bool) : Prop :=
  (σc 1 2 = τ 7 9) ∧
  (σc 1 3 = τ 7 10) ∧
  (σc 1 4 = 1) ∧
  (τ 7 11 = 1) ∧
  (lOK (τ 7 10)) ∧
  (∀ j, bl (τ 12 j)) ∧
  (τ 7 0 = if ok then 0 else 1) ∧
  (∃ N ln kd k, MP τ N ln kd ∧ τ 7 12 = nI k ∧ nOK (σc 2) k ∧ EF (eff (σc 2) k) τ N ln kd ∧ (ok = true → k = 0 ∧ cntP (fun j => kd j ≠ 0) N = cntP (fun j => rb j = true) N0))
theorem ClO.c2 {N0 : Nat} {rb : Nat → Bool} {σc τ : Mem} {ok : Bool} (h : ClO N0 rb σc τ ok) : σc 1 2 = τ 7 9 := h.1
theorem ClO.c3 {N0 : Nat} {rb : Nat → Bool} {σc τ : Mem} {ok : Bool} (h : ClO N0 rb σc τ ok) : σc 1 3 = τ 7 10 := h.2.1
theorem ClO.c4 {N0 : Nat} {rb : Nat → Bool} {σc τ : Mem} {ok : Bool} (h : ClO N0 rb σc τ ok) : σc 1 4 = 1 := h.2.2.1
theorem ClO.d4 {N0 : Nat} {rb : Nat → Bool} {σc τ : Mem} {ok : Bool} (h : ClO N0 rb σc τ ok) : τ 7 11 = 1 := h.2.2.2.1
theorem ClO.lo {N0 : Nat} {rb : Nat → Bool} {σc τ : Mem} {ok : Bool} (h : ClO N0 rb σc τ ok) : lOK (τ 7 10) := h.2.2.2.2.1
theorem ClO.bm {N0 : Nat} {rb : Nat → Bool} {σc τ : Mem} {ok : Bool} (h : ClO N0 rb σc τ ok) : ∀ j, bl (τ 12 j) := h.2.2.2.2.2.1
theorem ClO.cd {N0 : Nat} {rb : Nat → Bool} {σc τ : Mem} {ok : Bool} (h : ClO N0 rb σc τ ok) : τ 7 0 = if ok then 0 else 1 := h.2.2.2.2.2.2.1
theorem ClO.hh {N0 : Nat} {rb : Nat → Bool} {σc τ : Mem} {ok : Bool} (h : ClO N0 rb σc τ ok) : ∃ N ln kd k, MP τ N ln kd ∧ τ 7 12 = nI k ∧ nOK (σc 2) k ∧ EF (eff (σc 2) k) τ N ln kd ∧ (ok = true → k = 0 ∧ cntP (fun j => kd j ≠ 0) N = cntP (fun j => rb j = true) N0) := h.2.2.2.2.2.2.2
theorem jnM_12 (σ : Mem) (ln : Nat → Nat) (fr to N : Nat) : jnM σ ln fr to N 12 = shF (σ 12) fr (to - fr) (N - (to - fr)) := rfl
theorem cl_loop {N0 : Nat} {ln0 kd0 : Nat → Nat} (h0 : HL N0 ln0 kd0) {rb : Nat → Bool} (hrb : ∀ j, j < N0 → rb j = true → kd0 j ≠ 0) : ∀ (n i e N : Nat) (ln kd : Nat → Nat) (σc τ : Mem), N0 < i + n → ClI N0 ln0 kd0 rb i e N ln kd σc τ →
    ∃ τ' ok, (∀ (X : CT) (oc : OC), CxO X mi_M_clean oc → oc = .inl (some (.inl (if ok = true then 1 else 0)), τ') → ∀ y z u, Go X mi_M_clean 2 [some (.inr (.inl 7)), some (.inl (nI e)), y, z, u] [] τ) ∧
      (fuF N0 ln0 kd0 rb n i σc).2 = !ok ∧ (∀ a, a < 7 ∨ 12 < a → τ' a = τ a) ∧ ClO N0 rb (fuF N0 ln0 kd0 rb n i σc).1 τ' ok := by
  intro n
  induction n with
  | zero => intro i e N ln kd σc τ hn hI; exact absurd hn (by have := hI.hi; omega)
  | succ n ih =>
    intro i e N ln kd σc τ hn hI
    have hi := hI.hi
    have hNN := hI.hN
    have hN85 := hI.mp.1.N85
    have hn7 : τ 7 1 = nI N := hI.mp.2.1
    by_cases hiN : i < N0
    case neg =>
      have ef : fuF N0 ln0 kd0 rb (n + 1) i σc = (σc, false) := by unfold fuF; rw [if_neg hiN]
      rw [ef]
      refine ⟨τ, true, fun X oc hX ho y z u => ?_, rfl, fun _ _ => rfl, ⟨hI.c2, hI.c3, hI.c4, hI.d4, hI.lo, hI.bm, hI.cd, N, ln, kd, 0, hI.mp, hI.h12, ⟨hI.h265, by decide, fun i hi => absurd hi (Nat.not_lt_zero i)⟩, hI.ef, fun _ => ⟨rfl, ?_⟩⟩⟩
      · refine Go_run ok_M_clean hX [] 60 (fun K R1 T1 hK hR hT => ?_)
        conv => whnf
        rw [hn7]
        refine ⟨fun _ => ?_, fun y => absurd (nI_le (by omega) (by omega)) y⟩
        conv => whnf
        refine ⟨rfl, hR _ _ ?_⟩
        rw [ho]; rfl
      · have e1 : N = e := by omega
        have e2 : i = N0 := by omega
        have := hI.hc
        rw [← e1, e2] at this
        exact this
    have heN : e < N := by omega
    have hle0 := hI.hl 0 (by omega)
    rw [Nat.add_zero, Nat.add_zero] at hle0
    cases hrbi : rb i with
    | true =>
      have ef : fuF N0 ln0 kd0 rb (n + 1) i σc = fuF N0 ln0 kd0 rb n (i + 1) σc := by
        conv => lhs; unfold fuF
        rw [if_pos hiN, if_pos hrbi]
      rw [ef]
      obtain ⟨τ', ok, g1, g2, g3, g4⟩ := ih (i + 1) (e + 1) N ln kd σc τ (by omega) ⟨by omega, by omega, by show pos ln e + ln e = pos ln0 i + ln0 i; rw [hI.hp, hle0.1], fun t ht => by
          have := hI.hl (1 + t) (by omega)
          rw [← Nat.add_assoc, ← Nat.add_assoc] at this
          exact this, by
          rw [cntP_yes (P := fun j => kd j ≠ 0) (by show kd e ≠ 0; rw [hle0.2.1]; exact hrb i hiN hrbi), cntP_yes (P := fun j => rb j = true) hrbi, hI.hc], hI.mp, hI.ef, hI.h265, hI.h12, hI.c2, hI.c3, hI.c4, hI.d4, hI.lo, hI.bm, hI.cd⟩
      refine ⟨τ', ok, fun X oc hX ho y z u => ?_, g2, g3, g4⟩
      have h98 := fun u' => c_M_cl_98 hX e e (by omega) (by omega) (nI 0) (Or.inr (Or.inl rfl)) u' (g1 X oc hX ho (some (.inl (nI e))) (some (.inl (nI 0))) u')
      have h36 : Go X mi_M_clean 36 [some (.inr (.inl 7)), some (.inl (nI e)), some (.inl (nI (e + 0))), z, u] [] τ := by
        have e3 : nI e - nI e = nI 0 := by rw [pk_sub (Nat.le_refl _), Nat.sub_self]
        refine Go_run ok_M_clean hX [98] 60 (fun K R1 T1 hK hR hT => ?_)
        conv => whnf
        rw [Nat.add_zero, e3]
        refine ⟨fun y => absurd y (by decide), fun _ => ?_⟩
        conv => whnf
        rw [e3]
        refine ⟨fun _ => ?_, fun y => absurd y (by decide)⟩
        conv => whnf
        refine ⟨fun _ => ?_, fun y => absurd rfl y⟩
        conv => whnf
        exact hK _ _ _ _ (h98 _)
      have h12 := c_M_cl_12 hX hn7 hN85 e 0 (by omega) (fun s hs => absurd hs (Nat.not_lt_zero s)) (fun _ => hle0.2.2.mpr hrbi) z u h36 0 0 rfl
      refine Go_run ok_M_clean hX [12] 60 (fun K R1 T1 hK hR hT => ?_)
      conv => whnf
      rw [hn7]
      refine ⟨fun y => absurd y (nI_ge heN (by omega)), fun _ => ?_⟩
      conv => whnf
      exact hK _ _ _ _ h12
    | false =>
      have gt0 := reF_ge N0 rb N0 i
      have gt1 := reF_lt N0 rb N0 i hiN
      have gt2 := reF_mid N0 rb N0 i hrbi
      have gt3 := reF_end N0 rb N0 i (by omega)
      have efu : fuF N0 ln0 kd0 rb (n + 1) i σc = (if i < reF N0 rb N0 i ∨ kd0 (reF N0 rb N0 i) ≠ 0 then
        (if (mfW σc (pos ln0 i) (pos ln0 (reF N0 rb N0 i) + ln0 (reF N0 rb N0 i) - pos ln0 i)).2 = true then mfW σc (pos ln0 i) (pos ln0 (reF N0 rb N0 i) + ln0 (reF N0 rb N0 i) - pos ln0 i)
         else fuF N0 ln0 kd0 rb n (reF N0 rb N0 i + 1) (mfW σc (pos ln0 i) (pos ln0 (reF N0 rb N0 i) + ln0 (reF N0 rb N0 i) - pos ln0 i)).1)
        else fuF N0 ln0 kd0 rb n (reF N0 rb N0 i + 1) σc) := by
        conv => lhs; unfold fuF
        rw [if_pos hiN, if_neg (by rw [hrbi]; decide)]
      rw [efu]
      generalize hT9 : reF N0 rb N0 i = t at gt0 gt1 gt2 gt3
      obtain ⟨d, hd⟩ : ∃ d, t = i + d := ⟨t - i, by omega⟩
      have hlt : ∀ s, s ≤ d → ln (e + s) = ln0 (i + s) ∧ kd (e + s) = kd0 (i + s) ∧ τ 12 (e + s) = 0 := by
        intro s hs
        obtain ⟨l1, l2, l3⟩ := hI.hl s (by omega)
        refine ⟨l1, l2, Classical.byContradiction (fun y => ?_)⟩
        have := l3.mp y
        rw [gt2 (i + s) (by omega) (by omega)] at this
        exact absurd this (by decide)
      have hen : e + (d + 1) < N → τ 12 (e + (d + 1)) ≠ 0 := by
        intro y
        obtain ⟨_, _, l3⟩ := hI.hl (d + 1) (by omega)
        refine l3.mpr ?_
        have := gt3 (by omega)
        rw [hd] at this
        exact this
      have hps : pos ln (e + (d + 1)) = pos ln0 (i + (d + 1)) := pos_shift hI.hp (d + 1) (fun s hs => (hlt s (by omega)).1)
      have h12 := fun X oc (hX : CxO X mi_M_clean oc) z u hG => c_M_cl_12 hX hn7 hN85 e (d + 1) (by omega) (fun s hs => (hlt s (by omega)).2.2) hen z u hG (d + 1) 0 (by omega)
      have e3 : nI (e + (d + 1)) - nI e = nI (d + 1) := by rw [pk_sub (by omega)]; exact nI_eqI (by omega)
      obtain ⟨_, _, m10, _⟩ := hI.mp.2.2 e heN
      by_cases hwk : i < t ∨ kd0 t ≠ 0
      case neg =>
        rw [if_neg hwk]
        have hd0 : d = 0 := by
          rcases Nat.eq_zero_or_pos d with q | q
          · exact q
          · exact absurd (Or.inl (by omega)) hwk
        subst hd0
        obtain rfl : t = i := by omega
        have hk0 : kd e = 0 := by rw [hle0.2.1]; exact Classical.byContradiction (fun y => hwk (Or.inr y))
        obtain ⟨τ', ok, g1, g2, g3, g4⟩ := ih (t + 1) (e + 1) N ln kd σc τ (by omega) ⟨by omega, by omega, hps, fun s hs => by
            have := hI.hl (1 + s) (by omega)
            rw [← Nat.add_assoc, ← Nat.add_assoc] at this
            exact this, by
            rw [cntP_skip (P := fun j => kd j ≠ 0) 1 (fun j y1 y2 => by obtain rfl : j = e := by omega
                                                                        exact fun y => y hk0), cntP_skip (P := fun j => rb j = true) 1 (fun j y1 y2 => by obtain rfl : j = t := by omega
                                                                                                                                                          rw [hrbi]; decide), hI.hc], hI.mp, hI.ef, hI.h265, hI.h12, hI.c2, hI.c3, hI.c4, hI.d4, hI.lo, hI.bm, hI.cd⟩
        refine ⟨τ', ok, fun X oc hX ho y z u => ?_, g2, g3, g4⟩
        have h98 := fun u' => c_M_cl_98 hX e (e + 1) (by omega) (by omega) (nI 0) (Or.inr (Or.inr rfl)) u' (g1 X oc hX ho (some (.inl (nI (e + 1)))) (some (.inl (nI 0))) u')
        have h36 : Go X mi_M_clean 36 [some (.inr (.inl 7)), some (.inl (nI e)), some (.inl (nI (e + (0 + 1)))), z, u] [] τ := by
          refine Go_run ok_M_clean hX [98] 60 (fun K R1 T1 hK hR hT => ?_)
          conv => whnf
          rw [e3]
          refine ⟨fun y => absurd y (by decide), fun _ => ?_⟩
          conv => whnf
          rw [e3]
          refine ⟨fun y => absurd rfl y, fun _ => ?_⟩
          conv => whnf
          refine ⟨vp_in_nI (by omega) (by decide), ?_⟩
          rw [nI_clamp (by omega), m10]
          conv => whnf
          refine ⟨fun _ => ?_, fun y => absurd (ub_0.mpr hk0) y⟩
          conv => whnf
          refine ⟨fun _ => ?_, fun y => absurd rfl y⟩
          conv => whnf
          exact hK _ _ _ _ (h98 _)
        refine Go_run ok_M_clean hX [12] 60 (fun K R1 T1 hK hR hT => ?_)
        conv => whnf
        rw [hn7]
        refine ⟨fun y => absurd y (nI_ge heN (by omega)), fun _ => ?_⟩
        conv => whnf
        exact hK _ _ _ _ (h12 X oc hX z u h36)
      rw [if_pos hwk]
      subst hd
      have elen : pos ln0 (i + d) + ln0 (i + d) - pos ln0 i = pos ln (e + (d + 1)) - pos ln e := by
        rw [hps, hI.hp]; rfl
      rw [elen, ← hI.hp]
      have hjl : 3 ≤ pos ln (e + (d + 1)) - pos ln e ∧ pos ln e + (pos ln (e + (d + 1)) - pos ln e) = pos ln (e + (d + 1)) := jlen (ln := ln) (fr := e) (to := e + d) (fun s y1 y2 => hI.mp.1.ln3 (by omega)) (by omega)
      have hend := hI.mp.1.end (i := e + d) (by omega)
      have hedd : pos ln (e + (d + 1)) = pos ln (e + d) + ln (e + d) := rfl
      obtain ⟨r, hr⟩ := Rz.ex (x := σc 1 3) (by rw [hI.c3]; exact hI.lo) 2
      obtain ⟨σc1, kk, hw, hne, hn1, hef, hr0, hcnt⟩ := chg_cpl (σ := peF σc 0 (pos ln e) (pos ln (e + (d + 1)) - pos ln e) 0) (mf_plOK σc (pos ln e) (pos ln (e + (d + 1)) - pos ln e) 0 (by omega) (by omega)) (by rw [peF_ne _ _ _ _ _ _ (by decide)]; exact hI.h265) (by rw [peF_ne _ _ _ _ _ _ (by decide)]; exact hr)
      have hmf : mfW σc (pos ln e) (pos ln (e + (d + 1)) - pos ln e) = (σc1, decide (r ≠ 0)) := hw
      rw [hmf]
      obtain ⟨σ1, hdz⟩ := Rz.dz (σ := τ) (k := 2) (r := r) (by rw [← hI.c3]; exact hr)
      obtain ⟨c1, c2, c3, c4, c5, c6⟩ := hcnt τ σ1 hdz (by rw [peF_ne _ _ _ _ _ _ (by decide)]; exact hI.c3.symm) (by rw [peF_ne _ _ _ _ _ _ (by decide)]; exact hI.c2.symm) (by rw [peF_ne _ _ _ _ _ _ (by decide), hI.d4]; exact hI.c4.symm) hI.h12 (by rw [peF_ne _ _ _ _ _ _ (by decide), hI.c3]; exact hI.lo)
      have c6' : σ1 7 11 = 1 := by
        rw [c6]
        split
        · exact hI.d4
        · rfl
      have hm1 : MP σ1 N ln kd := hI.mp.dz hdz
      have hb1 : ∀ j, bl (σ1 12 j) := fun j => by rw [hdz.ne 12 (by decide)]; exact hI.bm j
      have hefj : ∀ μ : Mem, μ 13 = τ 13 → μ 14 = τ 14 → r < 2 → EF (eff (σc1 2) kk) μ (N - (e + d - e)) (jln ln e (e + d)) (jkd kd e (e + d)) := by
        intro μ e13 e14 q
        have hv : ∀ p, p < 265 → eff (σc1 2) kk p = apl (σc 2) [(pos ln e, nI (256 * (pos ln (e + (d + 1)) - pos ln e) + 0)), (pos ln e + (pos ln (e + (d + 1)) - pos ln e) - 1, nI (256 * (pos ln (e + (d + 1)) - pos ln e) + 0))] p := fun p hp => by
          rw [hef p hp, if_pos q, mfP _ _ _ _ (by omega), peF_ne _ _ _ _ _ _ (by decide)]
        refine EF.w (w := apl (σc 2) [(pos ln e, nI (256 * (pos ln (e + (d + 1)) - pos ln e) + 0)), (pos ln e + (pos ln (e + (d + 1)) - pos ln e) - 1, nI (256 * (pos ln (e + (d + 1)) - pos ln e) + 0))]) (hI.ef.jn (by omega) (by omega) (fun p p1 p2 => ?_) ?_ ?_ e13 e14) hv
        · show upd (upd _ _ _) _ _ p = _
          have p2 : p ≠ pos ln (e + (d + 1)) - 1 := p2
          rw [upd_n _ _ (by omega), upd_n _ _ p1]
        · show upd (upd _ _ _) _ _ (pos ln e) = _
          rw [upd_n _ _ (by omega), upd_s]; rfl
        · show upd (upd _ _ _) (pos ln e + (pos ln (e + (d + 1)) - pos ln e) - 1) _ (pos ln (e + (d + 1)) - 1) = _
          rw [show pos ln e + (pos ln (e + (d + 1)) - pos ln e) - 1 = pos ln (e + (d + 1)) - 1 by omega, upd_s]; rfl
      -- the walk to the change
      have hwalk : ∀ (X : CT) (oc : OC) (hX : CxO X mi_M_clean oc), (∀ u, Go X mi_M_clean 69 [some (.inr (.inl 7)), some (.inl (nI e)), some (.inl (nI (e + (d + 1)))), some (.inl (nI 1)), u] [] τ) → ∀ y z u, Go X mi_M_clean 2 [some (.inr (.inl 7)), some (.inl (nI e)), y, z, u] [] τ := by
        intro X oc hX h69 y z u
        have h36 : Go X mi_M_clean 36 [some (.inr (.inl 7)), some (.inl (nI e)), some (.inl (nI (e + (d + 1)))), z, u] [] τ := by
          refine Go_run ok_M_clean hX [69] 60 (fun K R1 T1 hK hR hT => ?_)
          conv => whnf
          rw [e3]
          refine ⟨fun y => ?_, fun y => ?_⟩
          · conv => whnf
            refine ⟨fun y => absurd y (by decide), fun _ => ?_⟩
            conv => whnf
            exact hK _ _ _ _ (h69 u)
          · have y1 := (not_congr (nI_ltI (a := 1) (b := d + 1) (by decide) (by omega))).mp y
            have hd0 : d = 0 := by omega
            subst hd0
            conv => whnf
            rw [e3]
            refine ⟨fun y => absurd rfl y, fun _ => ?_⟩
            conv => whnf
            refine ⟨vp_in_nI (by omega) (by decide), ?_⟩
            rw [nI_clamp (by omega), m10]
            conv => whnf
            refine ⟨fun y2 => absurd (ub_0.mp y2) (by rw [hle0.2.1]; exact hwk.resolve_left (by omega)), fun _ => ?_⟩
            conv => whnf
            refine ⟨fun y => absurd y (by decide), fun _ => ?_⟩
            conv => whnf
            exact hK _ _ _ _ (h69 u)
        refine Go_run ok_M_clean hX [12] 60 (fun K R1 T1 hK hR hT => ?_)
        conv => whnf
        rw [hn7]
        refine ⟨fun y => absurd y (nI_ge heN (by omega)), fun _ => ?_⟩
        conv => whnf
        exact hK _ _ _ _ (h12 X oc hX z u h36)
      have e4 : nI (e + (d + 1)) - nI 1 = nI (e + d) := by rw [pk_sub (by omega)]; exact nI_eqI (by omega)
      have jc : ∀ j, j ≠ 1 → jnM σ1 ln e (e + d) N 7 j = σ1 7 j := fun j hj => jnM_7 σ1 ln e (e + d) N j hj
      have ja : ∀ a, a < 7 ∨ 12 < a → jnM σ1 ln e (e + d) N a = τ a := fun a ha => (jnM_ne σ1 ln e (e + d) N a (by omega) (by omega) (by omega) (by omega) (by omega) (by omega)).trans (hdz.ne a (by omega))
      by_cases hr2 : r = 0
      · have hkk := hr0 hr2
        subst hr2
        subst hkk
        rw [if_neg (show ¬ (σc1, decide ((0 : Nat) ≠ 0)).2 = true from fun z => absurd (show decide ((0 : Nat) ≠ 0) = true from z) (by decide))]
        obtain ⟨τ', ok, g1, g2, g3, g4⟩ := ih (i + d + 1) (e + 1) (N - (e + d - e)) (jln ln e (e + d)) (jkd kd e (e + d)) σc1 (jnM σ1 ln e (e + d) N) (by omega) ⟨by omega, by omega, by
            rw [jpos_hi (by omega) (by omega), show e + 1 + (e + d - e) = e + (d + 1) by omega]
            exact hps, fun s hs => by
            rw [jln_hi (by omega), jkd_hi (by omega), jnM_12, shF_hi _ (by omega) (by omega), hdz.ne 12 (by decide), show e + 1 + s + (e + d - e) = e + (d + 1 + s) by omega]
            have := hI.hl (d + 1 + s) (by omega)
            rw [show i + (d + 1 + s) = i + d + 1 + s by omega] at this
            exact this, by
            rw [cntP_skip (P := fun j => jkd kd e (e + d) j ≠ 0) 1 (fun j y1 y2 => by obtain rfl : j = e := by omega
                                                                                      exact fun y => y jkd_at), cntP_cong (Q := fun j => kd j ≠ 0) (fun j hj => by rw [jkd_lo hj]), hI.hc, show i + d + 1 = i + (d + 1) by omega, cntP_skip (P := fun j => rb j = true) (d + 1) (fun j y1 y2 => by rw [gt2 j y1 (by omega)]; decide)], hm1.jn (by omega) (by omega), hefj _ (ja 13 (by omega)) (ja 14 (by omega)) (by decide), hn1.1, by rw [jc 12 (by decide)]; exact c4, by rw [jc 9 (by decide)]; exact c1, by rw [jc 10 (by decide)]; exact c2, c3.trans c6', by rw [jc 11 (by decide)]; exact c6', by rw [jc 10 (by decide)]; exact c5, fun j => shF_bl hb1 _ _ _ j, by rw [jc 0 (by decide)]; exact hdz.code⟩
        refine ⟨τ', ok, fun X oc hX ho y z u => hwalk X oc hX (fun u => ?_) y z u, g2, fun a ha => (g3 a ha).trans (ja a ha), g4⟩
        refine Go_run ok_M_clean hX [98] 60 (fun K R1 T1 hK hR hT => ?_)
        conv => whnf
        refine ⟨2, rfl, by decide, Or.inr hI.d4, hI.lo, fun r' σ1' hdz' => ?_⟩
        obtain ⟨rfl, rfl⟩ := Dz.uniq (by decide) hdz hdz'
        conv => whnf
        refine ⟨fun y => absurd y (by decide), fun _ => ?_⟩
        conv => whnf
        rw [e4]
        refine ⟨N, ln, kd, e, e + d, rfl, hm1, by omega, by omega, hb1, ?_⟩
        conv => whnf
        have hcode : jnM σ1 ln e (e + d) N 7 0 = 0 := (jc 0 (by decide)).trans hdz.code
        rw [hcode]
        refine ⟨fun _ => ?_, fun y => absurd c0n y⟩
        conv => whnf
        exact hK _ _ _ _ (c_M_cl_98 hX e (e + (d + 1)) (by omega) (by omega) (nI 1) (Or.inl (by decide)) _ (g1 X oc hX ho _ _ _))
      · rw [if_pos (by simp [hr2])]
        by_cases hr3 : r < 2
        · obtain rfl : r = 1 := by omega
          refine ⟨jnM σ1 ln e (e + d) N, false, fun X oc hX ho y z u => hwalk X oc hX (fun u => ?_) y z u, by simp, ja, ⟨by rw [jc 9 (by decide)]; exact c1, by rw [jc 10 (by decide)]; exact c2, c3.trans c6', by rw [jc 11 (by decide)]; exact c6', by rw [jc 10 (by decide)]; exact c5, fun j => shF_bl hb1 _ _ _ j, by rw [jc 0 (by decide)]; exact hdz.code, _, _, _, kk, hm1.jn (by omega) (by omega), by rw [jc 12 (by decide)]; exact c4, hn1, hefj _ (ja 13 (by omega)) (ja 14 (by omega)) (by decide), fun y => absurd y (by decide)⟩⟩
          refine Go_run ok_M_clean hX [98] 60 (fun K R1 T1 hK hR hT => ?_)
          conv => whnf
          refine ⟨2, rfl, by decide, Or.inr hI.d4, hI.lo, fun r' σ1' hdz' => ?_⟩
          obtain ⟨rfl, rfl⟩ := Dz.uniq (by decide) hdz hdz'
          conv => whnf
          refine ⟨fun y => absurd y (by decide), fun _ => ?_⟩
          conv => whnf
          rw [e4]
          refine ⟨N, ln, kd, e, e + d, rfl, hm1, by omega, by omega, hb1, ?_⟩
          conv => whnf
          have hcode : jnM σ1 ln e (e + d) N 7 0 = 1 := (jc 0 (by decide)).trans hdz.code
          rw [hcode]
          refine ⟨fun y => absurd y (by decide), fun _ => ?_⟩
          conv => whnf
          refine ⟨rfl, hR _ _ ?_⟩
          rw [ho]; rfl
        · have hr5 : r = 2 := by
            rcases hr with ⟨_, y⟩ | ⟨_, _, _, _, y⟩ | ⟨_, _, _, y⟩ <;> omega
          subst hr5
          refine ⟨σ1, false, fun X oc hX ho y z u => hwalk X oc hX (fun u => ?_) y z u, by simp, fun a ha => hdz.ne a (by omega), ⟨c1, c2, c3.trans c6', c6', c5, hb1, hdz.code, N, ln, kd, kk, hm1, c4, hn1, ?_, fun y => absurd y (by decide)⟩⟩
          · refine Go_run ok_M_clean hX [98] 60 (fun K R1 T1 hK hR hT => ?_)
            conv => whnf
            refine ⟨2, rfl, by decide, Or.inr hI.d4, hI.lo, fun r' σ1' hdz' => ?_⟩
            obtain ⟨rfl, rfl⟩ := Dz.uniq (by decide) hdz hdz'
            conv => whnf
            refine ⟨fun _ => ?_, fun y => absurd rfl y⟩
            conv => whnf
            rw [hdz.code]
            refine ⟨fun y => absurd (dc_0 y) (by decide), fun _ => ?_⟩
            conv => whnf
            refine ⟨rfl, hR _ _ ?_⟩
            rw [ho]; rfl
          · refine (hI.ef.w (fun p hp => ?_)).m (hdz.ne 13 (by decide)) (hdz.ne 14 (by decide))
            rw [hef p hp, if_neg (by decide), peF_ne _ _ _ _ _ _ (by decide)]
def ct_M_clean : CTy := fun as σ KN _ => as = [] ∧ ∃ x τ', MetO y_M_clean mi_M_clean [.inr (.inl 7)] σ (.inl (some (.inl x), τ')) ∧ KN (some (.inl x)) τ'
theorem s_M_clean : Snd y_M_clean mi_M_clean 7 0 ct_M_clean := by
  intro as σ KN KX _ ⟨e, x, τ', h1, h2⟩
  subst e
  exact ⟨.inl (_, _), h2, h1⟩
theorem c_M_clean {σ τ' : Mem} {ok : Bool} (h : ∀ (X : CT) (oc : OC), CxO X mi_M_clean oc → oc = .inl (some (.inl (if ok = true then 1 else 0)), τ') → ∀ y z u, Go X mi_M_clean 2 [some (.inr (.inl 7)), some (.inl (nI 0)), y, z, u] [] σ) : MetO y_M_clean mi_M_clean [.inr (.inl 7)] σ (.inl (some (.inl (if ok = true then 1 else 0)), τ')) := by
  refine met_go ok_M_clean ⟨rfl, rfl⟩ si_M_clean (Nat.le_of_ble_eq_true rfl) ⟨trivial, trivial⟩ [2] 60 (fun X hX K R1 T1 hK hR hT => ?_)
  conv => whnf
  exact hK _ _ _ _ (h X _ hX rfl _ _ _)
