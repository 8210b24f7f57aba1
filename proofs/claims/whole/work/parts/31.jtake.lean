/-! ===== take, side by side ===== -/
theorem zL_len : ∀ n a, (zL a n).length = n
  | 0, _ => rfl
  | n + 1, a => congrArg Nat.succ (zL_len n (a + 1))
theorem zL_in : ∀ n a, ∀ q ∈ zL a n, a ≤ q.1 ∧ q.1 < a + n
  | 0, _, _, h => absurd h List.not_mem_nil
  | n + 1, a, q, h => by
    rcases List.mem_cons.mp h with rfl | h
    · exact ⟨Nat.le_refl _, by show a < a + (n + 1); omega⟩
    · have := zL_in n (a + 1) q h
      omega
theorem zL_apl : ∀ n a (w : Nat → Int32) p, a ≤ p → p < a + n → apl w (zL a n) p = 0
  | 0, _, _, _, h1, h2 => absurd h2 (by omega)
  | n + 1, a, w, p, h1, h2 => by
    show apl (upd w a 0) (zL (a + 1) n) p = 0
    by_cases q : p = a
    · rw [apl_ne _ _ _ (fun z hz => by have := zL_in n (a + 1) z hz; omega), q, upd_s]
    · exact zL_apl n (a + 1) _ p (by omega) (by omega)
theorem EF.free {w v : Nat → Int32} {σ τ : Mem} {N : Nat} {ln kd : Nat → Nat} (h : EF w σ N ln kd) {e : Nat} (he : e < N) (hk : kd e = 0) (hv : ∀ p, ¬ (pos ln e + 1 ≤ p ∧ p + 1 < pos ln e + ln e) → v p = w p) (e13 : τ 13 = σ 13) (e14 : τ 14 = σ 14) : EF v τ N ln kd := by
  have g := h.1.end he
  have hne : ∀ i t, i < N → t < ln i → (i ≠ e ∨ t = 0 ∨ t + 1 = ln i) → v (pos ln i + t) = w (pos ln i + t) := by
    intro i t hi ht hq
    refine hv _ (fun z => ?_)
    rcases Nat.lt_trichotomy i e with q | q | q
    · have := h.1.sep hi q
      omega
    · subst q; omega
    · have := h.1.sep he q
      omega
  refine ⟨⟨h.1.1, fun i hi => ⟨h.1.ln3 hi, h.1.kdl hi, ?_, ?_⟩⟩, fun r hr => ?_, fun e' he' hk' i hi => ?_⟩
  · have := hne i 0 hi (by have := h.1.ln3 hi; omega) (by omega)
    rw [Nat.add_zero] at this
    rw [this]; exact h.1.tag hi
  · have g3 := h.1.ln3 hi
    have := hne i (ln i - 1) hi (by omega) (by omega)
    rw [show pos ln i + (ln i - 1) = pos ln i + ln i - 1 by omega] at this
    rw [this]; exact h.1.tag2 hi
  · rw [hv _ (by omega), e14]; exact h.2.1 r hr
  · have := hne e' (1 + i) he' (by omega) (Or.inl (fun z => hk' (by rw [z]; exact hk)))
    rw [← Nat.add_assoc] at this
    rw [this, e13]
    exact h.2.2 e' he' hk' i hi
theorem clr_in (f : Nat → Int32) {a n p : Nat} (h1 : a ≤ p) (h2 : p < a + n) : clr f a n p = 0 := if_pos ⟨h1, h2⟩
theorem clr_out (f : Nat → Int32) {a n p : Nat} (h : ¬ (a ≤ p ∧ p < a + n)) : clr f a n p = f p := if_neg h
theorem EF.mkc {w v : Nat → Int32} {σ τ : Mem} {N : Nat} {ln kd : Nat → Nat} (h : EF w σ N ln kd) {e L k : Nat} (he : e < N) (hL : 3 ≤ L) (hk : k + 1 ≤ L) (hL2 : L + 3 ≤ ln e)
    (hv : ∀ p, p ≠ pos ln e → p ≠ pos ln e + L - 1 → p ≠ pos ln e + L → p ≠ pos ln e + ln e - 1 → v p = w p) (hv1 : v (pos ln e) = nI (256 * L + k)) (hv2 : v (pos ln e + L - 1) = nI (256 * L + k)) (hv3 : v (pos ln e + L) = nI (256 * (ln e - L))) (hv4 : v (pos ln e + ln e - 1) = nI (256 * (ln e - L)))
    (hz : ∀ p, pos ln e + 1 ≤ p → p + 1 < pos ln e + L → w p = 0) (e13 : τ 13 = clr (σ 13) (pos ln e + 1) (L - 2)) (e14 : τ 14 = σ 14) : EF v τ (N + 1) (xln ln e L) (xkd kd e k) := by
  have g := h.1.end he
  have hne : ∀ i t, i < N → t < ln i → i ≠ e → v (pos ln i + t) = w (pos ln i + t) ∧ ¬ (pos ln e + 1 ≤ pos ln i + t ∧ pos ln i + t < pos ln e + 1 + (L - 2)) := by
    intro i t hi ht hq
    rcases Nat.lt_or_gt_of_ne hq with q | q
    · have := h.1.sep hi q
      exact ⟨hv _ (by omega) (by omega) (by omega) (by omega), by omega⟩
    · have := h.1.sep he q
      exact ⟨hv _ (by omega) (by omega) (by omega) (by omega), by omega⟩
  refine ⟨h.1.xn he hL hk hL2 hv1 hv2 hv3 hv4 (fun i hi hq => ?_), fun r hr => ?_, fun e' he' hk' i hi => ?_⟩
  · have g3 := h.1.ln3 hi
    have h1 := (hne i 0 hi (by omega) hq).1
    have h2 := (hne i (ln i - 1) hi (by omega) hq).1
    rw [show pos ln i + (ln i - 1) = pos ln i + ln i - 1 by omega] at h2
    exact ⟨h1, h2⟩
  · rw [hv _ (by omega) (by omega) (by omega) (by omega), e14]; exact h.2.1 r hr
  · rw [e13]
    rcases Nat.lt_trichotomy e' e with q | q | q
    · rw [xkd_lo q] at hk'
      rw [xln_lo q] at hi
      rw [xpos_lo (by omega)]
      have := hne e' (1 + i) (by omega) (by omega) (by omega)
      rw [← Nat.add_assoc] at this
      rw [this.1, clr_out _ this.2]
      exact h.2.2 e' (by omega) hk' i hi
    · subst q
      rw [xln_at] at hi
      rw [xpos_lo (by omega), clr_in _ (by omega) (by omega), hv _ (by omega) (by omega) (by omega) (by omega)]
      exact hz _ (by omega) (by omega)
    · rcases Nat.lt_or_ge (e + 1) e' with q2 | q2
      · rw [xkd_hi q2] at hk'
        rw [xln_hi q2] at hi
        rw [xpos_hi (by omega) q2]
        have := hne (e' - 1) (1 + i) (by omega) (by omega) (by omega)
        rw [← Nat.add_assoc] at this
        rw [this.1, clr_out _ this.2]
        exact h.2.2 (e' - 1) (by omega) hk' i hi
      · obtain rfl : e' = e + 1 := by omega
        rw [xkd_a1] at hk'
        exact absurd rfl hk'
theorem EF.mkn {w v : Nat → Int32} {σ τ : Mem} {N : Nat} {ln kd : Nat → Nat} (h : EF w σ N ln kd) {e k : Nat} (he : e < N) (hk : k + 1 ≤ ln e)
    (hv : ∀ p, p ≠ pos ln e → p ≠ pos ln e + ln e - 1 → v p = w p) (hv1 : v (pos ln e) = nI (256 * ln e + k)) (hv2 : v (pos ln e + ln e - 1) = nI (256 * ln e + k))
    (hz : ∀ p, pos ln e + 1 ≤ p → p + 1 < pos ln e + ln e → w p = 0) (e13 : τ 13 = clr (σ 13) (pos ln e + 1) (ln e - 2)) (e14 : τ 14 = σ 14) : EF v τ N ln (ukd kd e k) := by
  have g := h.1.end he
  have g3 := h.1.ln3 he
  have hne : ∀ i t, i < N → t < ln i → i ≠ e → v (pos ln i + t) = w (pos ln i + t) ∧ ¬ (pos ln e + 1 ≤ pos ln i + t ∧ pos ln i + t < pos ln e + 1 + (ln e - 2)) := by
    intro i t hi ht hq
    rcases Nat.lt_or_gt_of_ne hq with q | q
    · have := h.1.sep hi q
      exact ⟨hv _ (by omega) (by omega), by omega⟩
    · have := h.1.sep he q
      exact ⟨hv _ (by omega) (by omega), by omega⟩
  refine ⟨h.1.un he hk hv1 hv2 (fun i hi hq => ?_), fun r hr => ?_, fun e' he' hk' i hi => ?_⟩
  · have g3 := h.1.ln3 hi
    have h1 := (hne i 0 hi (by omega) hq).1
    have h2 := (hne i (ln i - 1) hi (by omega) hq).1
    rw [show pos ln i + (ln i - 1) = pos ln i + ln i - 1 by omega] at h2
    exact ⟨h1, h2⟩
  · rw [hv _ (by omega) (by omega), e14]; exact h.2.1 r hr
  · rw [e13]
    by_cases q : e' = e
    · subst q
      rw [clr_in _ (by omega) (by omega), hv _ (by omega) (by omega)]
      exact hz _ (by omega) (by omega)
    · unfold ukd at hk'
      rw [if_neg q] at hk'
      have := hne e' (1 + i) he' (by omega) q
      rw [← Nat.add_assoc] at this
      rw [this.1, clr_out _ this.2]
      exact h.2.2 e' he' hk' i hi
theorem tkP_ne (σ : Mem) (f n len m k a : Nat) (h : a ≠ 3) : tkP σ f n len m k a = σ a := by
  unfold tkP
  split
  · rw [peF_ne _ _ _ _ _ _ h, peF_ne _ _ _ _ _ _ h]
  · rw [peF_ne _ _ _ _ _ _ h]
theorem tkP_n (σ : Mem) (f n m k : Nat) (c : ¬ m + 5 ≤ n) (h : f + n ≤ 257) : plnL (tkP σ f n (tkL n m) m k 3) 0 (tkC n m) = [(f, nI (256 * n + (1 + k))), (f + n - 1, nI (256 * n + (1 + k)))] := by
  have e1 : tkL n m = n := by unfold tkL; rw [if_neg c]
  have e2 : tkC n m = 2 := by unfold tkC; rw [if_neg c]
  have e3 : tkP σ f n n m k = peF σ 0 f n (1 + k) := by unfold tkP; rw [if_neg c]
  rw [e1, e2, e3]
  exact mfP σ f n (1 + k) h
theorem tkP_c (σ : Mem) (f n m k : Nat) (c : m + 5 ≤ n) (h : f + n ≤ 257) : plnL (tkP σ f n (tkL n m) m k 3) 0 (tkC n m) = [(f, nI (256 * (m + 2) + (1 + k))), (f + (m + 2) - 1, nI (256 * (m + 2) + (1 + k))), (f + (m + 2), nI (256 * (n - 2 - m))), (f + n - 1, nI (256 * (n - 2 - m)))] := by
  have e1 : tkL n m = m + 2 := by unfold tkL; rw [if_pos c]
  have e2 : tkC n m = 4 := by unfold tkC; rw [if_pos c]
  have e3 : tkP σ f n (m + 2) m k = peF (peF σ 0 f (m + 2) (1 + k)) 1 (f + (m + 2)) (n - 2 - m) 0 := by unfold tkP; rw [if_pos c]
  rw [e1, e2, e3]
  have d1 : (nI f).toNatClampNeg = f := nI_clamp (by omega)
  have d2 : (nI (f + (m + 2) - 1)).toNatClampNeg = f + (m + 2) - 1 := nI_clamp (by omega)
  have d3 : (nI (f + (m + 2))).toNatClampNeg = f + (m + 2) := nI_clamp (by omega)
  have d4 : (nI (f + (m + 2) + (n - 2 - m) - 1)).toNatClampNeg = f + n - 1 := by rw [nI_clamp (by omega)]; omega
  show [((nI f).toNatClampNeg, nI (256 * (m + 2) + (1 + k))), ((nI (f + (m + 2) - 1)).toNatClampNeg, nI (256 * (m + 2) + (1 + k))), ((nI (f + (m + 2))).toNatClampNeg, nI (256 * (n - 2 - m))), ((nI (f + (m + 2) + (n - 2 - m) - 1)).toNatClampNeg, nI (256 * (n - 2 - m)))] = _
  rw [d1, d2, d3, d4]
theorem tk_plOK (σ : Mem) (f n m k : Nat) (h : f + n ≤ 257) (h1 : 1 ≤ n) : plOK (tkP σ f n (tkL n m) m k 3) (tkC n m) := by
  by_cases c : m + 5 ≤ n
  · have e1 : tkL n m = m + 2 := by unfold tkL; rw [if_pos c]
    have e2 : tkC n m = 4 := by unfold tkC; rw [if_pos c]
    have e3 : tkP σ f n (m + 2) m k = peF (peF σ 0 f (m + 2) (1 + k)) 1 (f + (m + 2)) (n - 2 - m) 0 := by unfold tkP; rw [if_pos c]
    rw [e1, e2, e3]
    refine ⟨by decide, fun i hi => ?_⟩
    match i, hi with
    | 0, _ => exact ⟨f, by omega, rfl⟩
    | 1, _ => exact ⟨f + (m + 2) - 1, by omega, rfl⟩
    | 2, _ => exact ⟨f + (m + 2), by omega, rfl⟩
    | 3, _ => exact ⟨f + (m + 2) + (n - 2 - m) - 1, by omega, rfl⟩
  · have e1 : tkL n m = n := by unfold tkL; rw [if_neg c]
    have e2 : tkC n m = 2 := by unfold tkC; rw [if_neg c]
    have e3 : tkP σ f n n m k = peF σ 0 f n (1 + k) := by unfold tkP; rw [if_neg c]
    rw [e1, e2, e3]
    exact mf_plOK σ f n (1 + k) h h1
theorem tkR_ne (σ : Mem) (ln : Nat → Nat) (e m k N a : Nat) (h : a < 7 ∨ a = 14 ∨ a = 15) : tkR σ ln e m k N a = σ a := by
  unfold tkR mkM cuM
  rw [stA_ne _ _ (by omega), st_ne _ _ _ (by omega), st_ne _ _ _ (by omega)]
  split
  · rw [ar_ne _ _ _ _ _ _ a (by omega) (by omega) (by omega) (by omega) (by omega), st_ne _ _ _ (by omega)]
  · rfl
theorem tkR_7 (σ : Mem) (ln : Nat → Nat) (e m k N j : Nat) (h : j ≠ 1) : tkR σ ln e m k N 7 j = σ 7 j := by
  unfold tkR mkM cuM
  rw [stA_ne _ _ (by decide), st_ne _ _ _ (by decide), st_ne _ _ _ (by decide)]
  split
  · show upd (σ 7) 1 _ j = _
    exact upd_n _ _ h
  · rfl
theorem tkR_12 (σ : Mem) (ln : Nat → Nat) (e m k N : Nat) : tkR σ ln e m k N 12 = σ 12 := by
  unfold tkR mkM cuM
  rw [stA_ne _ _ (by decide), st_ne _ _ _ (by decide), st_ne _ _ _ (by decide)]
  split
  · rfl
  · rfl
def Dt (n : Nat) (τ : Mem) : Mem := spO (D0 τ) n
theorem Dt_7 {σ τ σz : Mem} {n : Nat} (h : RM σ τ) (hz : RM σ σz) (j : Nat) (hj : j ≠ 0) : Dt n τ 7 j = spO σz n 7 j := by
  show upd (upd (upd (upd (τ 7) 0 (nI 0)) 9 (τ 7 9 + nI n)) 10 (lsub (τ 7 10) n)) 11 (τ 7 11) j = upd (upd (upd (σz 7) 9 (σz 7 9 + nI n)) 10 (lsub (σz 7 10) n)) 11 (σz 7 11) j
  rw [h.e7, hz.e7]
  by_cases q : j = 11
  · rw [q, upd_s, upd_s]
  rw [upd_n _ _ q, upd_n _ _ q]
  by_cases q : j = 10
  · rw [q, upd_s, upd_s]
  rw [upd_n _ _ q, upd_n _ _ q]
  by_cases q : j = 9
  · rw [q, upd_s, upd_s]
  rw [upd_n _ _ q, upd_n _ _ q, upd_n _ _ hj]
theorem spO_a (σ : Mem) (n a : Nat) (h : a ≠ 7) : spO σ n a = σ a := by
  unfold spO
  rw [st_ne _ _ _ h, st_ne _ _ _ h, st_ne _ _ _ h]
theorem spF_a (σ : Mem) (n a : Nat) (h : a ≠ 7) : spF σ n a = σ a := by
  unfold spF
  rw [st_ne _ _ _ h, st_ne _ _ _ h, st_ne _ _ _ h]
theorem lOK_sub {x : Int32} {n : Nat} (h : lGo x n) : lOK (lsub x n) := by
  rcases h with w | ⟨j, w1, w2, w3⟩
  · rw [w, lsub_m1]; exact Or.inl rfl
  · rw [w3, lsub_n w1 w2]; exact Or.inr ⟨_, by omega, rfl⟩
theorem cp_take_ok {σ : Mem} (hJ : J σ) (hd : σ 7 11 = 0) {N : Nat} {ln kd : Nat → Nat} (hm : MP σ N ln kd) (hp : HP (σ 2) N ln kd) (he : EF (σ 2) σ N ln kd) (h265 : σ 2 265 = 0) (h12 : σ 7 12 = 0) (h4 : σ 1 4 = 0) (m k : Nat) (h1 : 1 ≤ m) (h2 : m ≤ 254) (h3 : k ≤ m) {e : Nat} (hE : e < N) (hf : Fit ln kd m e) (hlo : ∀ j, j < e → ¬ Fit ln kd m j) :
    Cpl y_X_take mi_X_take [.inr (.inl 0), .inl (nI m), .inl (nI k)] y_M_take mi_M_take [.inr (.inl 7), .inl (nI m), .inl (nI k)] [(eIS, 1), (eIA, 2), (eUO, 3)] σ := by
  have hX := c_X_take_ok m k h1 h2 h3 σ h4 hp hE hf hlo
  have g := hp.lt hE
  have g1 := hp.end hE
  have g3 := hp.ln3 hE
  have hm2 := hf.2
  have hL : tkL (ln e) m ≤ ln e ∧ 3 ≤ tkL (ln e) m := by unfold tkL; split <;> omega
  have hLO : lOK (σ 1 3) := by rw [hJ.1.2.2.2.1]; exact hJ.1.1
  have hz0 : ∀ l : List (Nat × Int32), (∀ q ∈ l, q ∈ zL (pos ln e + 1) (tkL (ln e) m - 2)) → ∀ p, ¬ (pos ln e + 1 ≤ p ∧ p + 1 < pos ln e + ln e) → apl (σ 2) l p = σ 2 p := by
    intro l hl p hp
    refine apl_ne _ _ _ (fun q hq => ?_)
    have := zL_in _ _ q (hl q hq)
    omega
  have hlen := zL_len (tkL (ln e) m - 2) (pos ln e + 1)
  rcases lGo_or hLO (tkL (ln e) m - 2) with q | ⟨j, j1, j2, j3⟩
  · have hz := wrs_go (zL (pos ln e + 1) (tkL (ln e) m - 2)) (lsF σ ln N) (by rw [hlen]; exact q)
    unfold tkO at hX
    rw [hz, hlen] at hX
    rw [if_neg (by decide : ¬ (false = true))] at hX
    generalize hσz : stA (stA (lsF σ ln N) 2 (apl (lsF σ ln N 2) (zL (pos ln e + 1) (tkL (ln e) m - 2)))) 1 (o1 (lsF σ ln N 1) (tkL (ln e) m - 2)) = σz at hX
    have z1 : σz 1 = o1 (σ 1) (tkL (ln e) m - 2) := by rw [← hσz]; rfl
    have z2 : σz 2 = apl (σ 2) (zL (pos ln e + 1) (tkL (ln e) m - 2)) := by rw [← hσz]; rfl
    have za : ∀ a, a ≠ 1 → a ≠ 2 → a ≠ 4 → σz a = σ a := fun a y1 y2 y4 => by rw [← hσz, stA_ne _ _ y1, stA_ne _ _ y2, lsF_ne _ _ _ _ y4]
    have hzM : RM σ σz := fun a b1 b2 => za a (by omega) (by omega) (by omega)
    have s1 : spO σz (tkL (ln e) m - 2) 1 = o1 (σ 1) (tkL (ln e) m - 2) := (spO_a _ _ 1 (by decide)).trans z1
    have s2 : spO σz (tkL (ln e) m - 2) 2 = apl (σ 2) (zL (pos ln e + 1) (tkL (ln e) m - 2)) := (spO_a _ _ 2 (by decide)).trans z2
    have q' : lGo (σ 7 10) (tkL (ln e) m - 2) := by rw [← hJ.1.2.2.2.1]; exact q
    have hC : JC (spO σz (tkL (ln e) m - 2)) := by
      refine ⟨?_, ?_, ?_, ?_, ?_, fun j => ?_⟩
      · show lOK (lsub (σz 7 10) _)
        rw [hzM.e7]; exact lOK_sub q'
      · show bl (σz 7 11)
        rw [hzM.e7, hd]; exact Or.inl rfl
      · rw [s1]
        show σ 1 2 + _ = σz 7 9 + _
        rw [hzM.e7, hJ.1.2.2.1]
      · rw [s1]
        show lsub (σ 1 3) _ = lsub (σz 7 10) _
        rw [hzM.e7, hJ.1.2.2.2.1]
      · rw [s1]
        show σ 1 4 = σz 7 11
        rw [hzM.e7, hJ.1.2.2.2.2.1]
      · rw [spO_a _ _ _ (by decide), hzM 12 (by decide) (by decide)]; exact hJ.1.2.2.2.2.2 j
    have hmS : MP (spO σz (tkL (ln e) m - 2)) N ln kd := (hzM.mp hm).cong rfl rfl rfl rfl rfl
    have heS : EF (spO σz (tkL (ln e) m - 2) 2) (spO σz (tkL (ln e) m - 2)) N ln kd := by
      rw [s2]
      exact he.free hE hf.1 (hz0 _ (fun _ h => h)) ((spO_a _ _ _ (by decide)).trans (hzM 13 (by decide) (by decide))) ((spO_a _ _ _ (by decide)).trans (hzM 14 (by decide) (by decide)))
    have h265S : spO σz (tkL (ln e) m - 2) 2 265 = 0 := by rw [s2, hz0 _ (fun _ h => h) _ (by omega)]; exact h265
    obtain ⟨r, hr⟩ := Rz.ex (x := spO σz (tkL (ln e) m - 2) 1 3) (by rw [hC.2.2.2.1]; exact hC.1) (tkC (ln e) m)
    have hC4 : tkC (ln e) m ≤ 4 := by unfold tkC; split <;> omega
    obtain ⟨σc, hw, hne, hj⟩ := J_chg (σ := spO σz (tkL (ln e) m - 2)) hC (by show σz 7 11 = 0; rw [hzM.e7]; exact hd) hmS h265S (by show σz 7 12 = 0; rw [hzM.e7]; exact h12) heS
      (σp := tkP σz (pos ln e) (ln e) (tkL (ln e) m) m k) ((tkP_ne _ _ _ _ _ _ 1 (by decide)).trans (spO_a _ _ 1 (by decide)).symm) ((tkP_ne _ _ _ _ _ _ 2 (by decide)).trans (spO_a _ _ 2 (by decide)).symm) (tk_plOK σz (pos ln e) (ln e) m k g1 (by omega)) hr (fun σ1 => tkR σ1 ln e m k N)
      (fun σ1 m1 e13 e14 => by
        have hz9 : ∀ p, pos ln e + 1 ≤ p → p + 1 < pos ln e + tkL (ln e) m → spO σz (tkL (ln e) m - 2) 2 p = 0 := fun p y1 y2 => by
          rw [s2]; exact zL_apl _ _ _ p y1 (by omega)
        by_cases c : m + 5 ≤ ln e
        · have eL : tkL (ln e) m = m + 2 := by unfold tkL; rw [if_pos c]
          refine ⟨_, _, _, (m1.mk_c hE h3 h1 c).cong rfl rfl rfl rfl rfl, ?_⟩
          rw [tkP_c _ _ _ _ _ c g1]
          refine heS.mkc (L := m + 2) (k := k + 1) hE (by omega) (by omega) (by omega) (fun p p1 p2 p3 p4 => ?_) ?_ ?_ ?_ ?_ (fun p y1 y2 => hz9 p y1 (by omega)) ?_ ?_
          · show upd (upd (upd (upd _ _ _) _ _) _ _) _ _ p = _
            rw [upd_n _ _ p4, upd_n _ _ p3, upd_n _ _ p2, upd_n _ _ p1]
          · show upd (upd (upd (upd _ _ _) _ _) _ _) _ _ (pos ln e) = _
            rw [upd_n _ _ (by omega), upd_n _ _ (by omega), upd_n _ _ (by omega), upd_s, Nat.add_comm 1 k]
          · show upd (upd (upd (upd _ _ _) _ _) _ _) _ _ (pos ln e + (m + 2) - 1) = _
            rw [upd_n _ _ (by omega), upd_n _ _ (by omega), upd_s, Nat.add_comm 1 k]
          · show upd (upd (upd (upd _ _ _) _ _) _ _) _ _ (pos ln e + (m + 2)) = _
            rw [upd_n _ _ (by omega), upd_s]
            exact nI_eqI (by omega)
          · show upd (upd (upd (upd _ _ _) _ _) _ _) _ _ (pos ln e + ln e - 1) = _
            rw [upd_s]
            exact nI_eqI (by omega)
          · show clr (σ1 13) (pos ln e + 1) (tkL (ln e) m - 2) = _
            rw [e13, eL]
          · exact (tkR_ne σ1 ln e m k N 14 (by omega)).trans e14
        · have eL : tkL (ln e) m = ln e := by unfold tkL; rw [if_neg c]
          refine ⟨_, _, _, (m1.mk_n hE h3 hm2 c).cong rfl rfl rfl rfl rfl, ?_⟩
          rw [tkP_n _ _ _ _ _ c g1]
          refine heS.mkn (k := k + 1) hE (by omega) (fun p p1 p2 => ?_) ?_ ?_ (fun p y1 y2 => hz9 p y1 (by omega)) ?_ ?_
          · show upd (upd _ _ _) _ _ p = _
            rw [upd_n _ _ p2, upd_n _ _ p1]
          · show upd (upd _ _ _) _ _ (pos ln e) = _
            rw [upd_n _ _ (by omega), upd_s, Nat.add_comm 1 k]
          · show upd (upd _ _ _) _ _ (pos ln e + ln e - 1) = _
            rw [upd_s, Nat.add_comm 1 k]
          · show clr (σ1 13) (pos ln e + 1) (tkL (ln e) m - 2) = _
            rw [e13, eL]
          · exact (tkR_ne σ1 ln e m k N 14 (by omega)).trans e14)
      (fun σ1 hb j => by rw [tkR_12]; exact hb j) (fun σ1 => ⟨tkR_ne σ1 ln e m k N 1 (by omega), tkR_ne σ1 ln e m k N 2 (by omega), fun j hj => tkR_7 σ1 ln e m k N j hj⟩)
    have hcM : RM σ σc := fun b hb1 hb2 => (hne b (by omega) (by omega)).trans ((tkP_ne _ _ _ _ _ _ b (by omega)).trans (hzM b hb1 hb2))
    refine Cpl.chg (D := Dt (tkL (ln e) m - 2)) (F := fun σ1 => tkR σ1 ln e m k N) hX hw hcM (fun τ hτ => ⟨fun a ha => (spO_a _ _ a ha).trans (st_ne _ _ _ ha), ?_⟩) (fun τ σ1 hτ t1 t2 hdz => hj (Dt (tkL (ln e) m - 2) τ) σ1 (((spO_a _ _ 1 (by decide)).trans (st_ne _ _ _ (by decide))).trans t1) (((spO_a _ _ 2 (by decide)).trans (st_ne _ _ _ (by decide))).trans t2) (Dt_7 hτ hzM) (fun a b1 b2 => ?_) hdz) (fun τ σ1 hτ hdz => ?_) (by simp) (fun σ1 => tkR_ne σ1 ln e m k N 15 (by omega))
    · rw [Dt_7 hτ hzM 10 (by decide), ← hC.2.2.2.1]; exact hr
    · rw [spO_a _ _ a (by omega)]
      exact (((spO_a _ _ a (by omega)).trans (st_ne _ _ _ (by omega))).trans (hτ a (by omega) b2)).trans (hzM a (by omega) b2).symm
    · refine c_M_take_ok m k h1 h2 h3 τ (by rw [hτ.e7]; exact hd) (by rw [hτ.e7]; exact hJ.1.1) (hτ.mp hm) hE hf hlo _ (fun j j1 j2 j3 => absurd q' (not_lGo j1 j2 (by rw [← hτ.e7]; exact j3))) (fun _ r' σ1' hdz' => ?_)
      obtain ⟨rfl, rfl⟩ := Dz.uniq hC4 hdz hdz'
      rfl
  · have hz := wrs_fail (zL (pos ln e + 1) (tkL (ln e) m - 2)) (lsF σ ln N) j (by rw [hlen]; exact j1) j2 j3
    unfold tkO at hX
    rw [hz] at hX
    rw [if_pos rfl] at hX
    generalize hσz : stA (stA (lsF σ ln N) 2 (apl (lsF σ ln N 2) ((zL (pos ln e + 1) (tkL (ln e) m - 2)).take j))) 1 (o1F (lsF σ ln N 1) j) = σz at hX
    have z1 : σz 1 = o1F (σ 1) j := by rw [← hσz]; rfl
    have z2 : σz 2 = apl (σ 2) ((zL (pos ln e + 1) (tkL (ln e) m - 2)).take j) := by rw [← hσz]; rfl
    have za : ∀ a, a ≠ 1 → a ≠ 2 → a ≠ 4 → σz a = σ a := fun a y1 y2 y4 => by rw [← hσz, stA_ne _ _ y1, stA_ne _ _ y2, lsF_ne _ _ _ _ y4]
    have hzM : RM σ σz := fun a b1 b2 => za a (by omega) (by omega) (by omega)
    have j3' : σ 7 10 = nI j := by rw [← hJ.1.2.2.2.1]; exact j3
    have hM := c_M_take_ok m k h1 h2 h3 σz (by rw [hzM.e7]; exact hd) (by rw [hzM.e7]; exact hJ.1.1) (hzM.mp hm) hE hf hlo (.inl (some (.inl 0), st (spF (st σz 7 0 (nI 0)) j) 7 0 1))
      (fun i i1 i2 i3 => by
        obtain rfl : i = j := nI_inj (by omega) (by omega) (i3.symm.trans (by rw [hzM.e7]; exact j3'))
        rfl) (fun hgo => absurd (by rw [← hzM.e7]; exact hgo) (not_lGo j1 j2 j3'))
    refine Or.inr ⟨eIS, 1, σz, _, _, by simp, hX, hM, rfl, ?_⟩
    refine ⟨⟨Or.inl rfl, Or.inr rfl, ?_, ?_, ?_, fun i => ?_⟩, N, ln, kd, 0, (hzM.mp hm).cong rfl rfl rfl rfl rfl, ?_, ⟨?_, by decide, fun i hi => absurd hi (Nat.not_lt_zero i)⟩, fun _ => rfl, ?_⟩
    · show σz 1 2 = σz 7 9 + nI j
      rw [z1, hzM.e7, ← hJ.1.2.2.1]; rfl
    · show σz 1 3 = -1
      rw [z1]; rfl
    · show σz 1 4 = 1
      rw [z1]; rfl
    · show bl (σz 12 i)
      rw [hzM 12 (by decide) (by decide)]; exact hJ.1.2.2.2.2.2 i
    · show σz 7 12 = nI 0
      rw [hzM.e7]; exact h12
    · show σz 2 265 = nI 0
      rw [z2, hz0 _ (fun q hq => List.mem_of_mem_take hq) _ (by omega)]; exact h265
    · show EF (σz 2) _ N ln kd
      rw [z2]
      exact he.free hE hf.1 (hz0 _ (fun q hq => List.mem_of_mem_take hq)) (hzM 13 (by decide) (by decide)) (hzM 14 (by decide) (by decide))
theorem cp_take {σ : Mem} (hJ : J σ) (x p : Int32) : Cpl y_X_take mi_X_take [.inr (.inl 0), .inl x, .inl p] y_M_take mi_M_take [.inr (.inl 7), .inl x, .inl p] [(eIS, 1), (eIA, 2), (eUO, 3)] σ := by
  rcases hJ.bl with hd | hd
  · obtain ⟨N, ln, kd, hm, hp, he, h265, h12, h4⟩ := hJ.up hd
    by_cases q : tk_ok x p
    · obtain ⟨m, k, h1, h2, h3, rfl, rfl⟩ := tk_nat q
      by_cases q2 : ∃ e, e < N ∧ Fit ln kd m e
      · obtain ⟨e, he1, he2, he3⟩ : ∃ e, (e < N ∧ Fit ln kd m e) ∧ (∀ j, j < e → ¬ (j < N ∧ Fit ln kd m j)) ∧ True := by
          obtain ⟨e, h⟩ := q2
          have : ∀ n e, e ≤ n → (e < N ∧ Fit ln kd m e) → ∃ e, (e < N ∧ Fit ln kd m e) ∧ (∀ j, j < e → ¬ (j < N ∧ Fit ln kd m j)) ∧ True := by
            intro n
            induction n with
            | zero => intro e he h; exact ⟨e, h, fun j hj => absurd hj (by omega), trivial⟩
            | succ n ih =>
              intro e he h
              by_cases z : ∃ j, j < e ∧ (j < N ∧ Fit ln kd m j)
              · obtain ⟨j, j1, j2⟩ := z
                exact ih j (by omega) j2
              · exact ⟨e, h, fun j hj hz => z ⟨j, hj, hz⟩, trivial⟩
          exact this e e (Nat.le_refl e) h
        exact cp_take_ok hJ hd hm hp he h265 h12 h4 m k h1 h2 h3 he1.1 he1.2 (fun j hj hz => he2 j hj ⟨by omega, hz⟩)
      · exact Cpl.no hJ 3 (by simp) (RQ.ls σ ln N) (c_X_take_none m k h1 h2 h3 σ h4 hp (fun i hi hz => q2 ⟨i, hi, hz⟩)) (fun τ hτ => c_M_take_none m k h1 h2 h3 τ (by rw [hτ.e7]; exact hd) (hτ.mp hm) (fun i hi hz => q2 ⟨i, hi, hz⟩))
    · exact Cpl.no hJ 2 (by simp) (RQ.rf σ) (c_X_take_odd x p σ h4 q) (fun τ hτ => c_M_take_odd x p τ (by rw [hτ.e7]; exact hd) (hτ.mp hm) q)
  · obtain ⟨N, ln, kd, hm, h4⟩ := hJ.dn hd
    exact Cpl.no hJ 1 (by simp) (RQ.rf σ) (c_X_take_down x p σ h4) (fun τ hτ => c_M_take_down x p τ (by rw [hτ.e7]; exact hd) (hτ.mp hm))
