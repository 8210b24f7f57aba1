/-! ===== the calls that change, side by side ===== -/
theorem wou_of {σp σc : Mem} {l : List (Nat × Int32)} {b : Bool} (h : wrs σp l = (σc, b)) (r : Option AV) : wou σp l r = if b = true then .inr (eIS, σc) else .inl (r, σc) := by
  unfold wou
  rw [h]
def RM (σ τ : Mem) : Prop := ∀ a, 7 ≤ a → a ≤ 14 → τ a = σ a
theorem RM.mp {σ τ : Mem} {N : Nat} {ln kd : Nat → Nat} (h : RM σ τ) (hm : MP σ N ln kd) : MP τ N ln kd := hm.cong (by rw [h 7 (by decide) (by decide)]) (h 8 (by decide) (by decide)) (h 9 (by decide) (by decide)) (h 10 (by decide) (by decide)) (h 11 (by decide) (by decide))
theorem RM.e7 {σ τ : Mem} (h : RM σ τ) : τ 7 = σ 7 := h 7 (by decide) (by decide)
theorem Cpl.chg {yX : MethodName} {MX : MI} {aX : List AV} {yM : MethodName} {MM : MI} {aM : List AV} {codes : List (String × Nat)} {σ σp σc : Mem} {f : Nat → Int32} {k r : Nat} {v : Int32} {F D : Mem → Mem}
    (hX : MetO yX MX aX σ (wou σp (chgL f k) (some (.inl v)))) (hw : wrs σp (chgL f k) = (σc, decide (r ≠ 0))) (hc : RM σ σc)
    (hD : ∀ τ, RM σ τ → (∀ a, a ≠ 7 → D τ a = τ a) ∧ Rz (D τ 7 10) k r)
    (hj : ∀ τ σ1, RM σ τ → τ 1 = σc 1 → τ 2 = σc 2 → Dz (D τ) k r σ1 → J (if r < 2 then F σ1 else σ1) ∧ (if r < 2 then F σ1 else σ1) 7 0 = dc r)
    (hM : ∀ τ σ1, RM σ τ → Dz (D τ) k r σ1 → MetO yM MM aM τ (.inl (some (.inl (if r = 0 then v else 0)), if r < 2 then F σ1 else σ1)))
    (hin : (eIS, 1) ∈ codes) (h15 : ∀ σ1, F σ1 15 = σ1 15) : Cpl yX MX aX yM MM aM codes σ := by
  rw [wou_of hw] at hX
  by_cases q : r = 0
  · left
    rw [if_neg (by rw [q]; decide)] at hX
    have hτ : RM σ (st σc 15 0 v) := fun a h1 h2 => (st_ne _ _ _ (by omega)).trans (hc a h1 h2)
    obtain ⟨d1, d2⟩ := hD _ hτ
    obtain ⟨σ1, hd⟩ := Rz.dz d2
    obtain ⟨j1, j2⟩ := hj _ σ1 hτ rfl rfl hd
    have hm := hM _ σ1 hτ hd
    rw [if_pos q] at hm
    rw [if_pos (by omega)] at hm j1 j2
    refine ⟨v, σc, _, hX, hm, ?_, j1, ?_⟩
    · rw [j2, q]; rfl
    · rw [h15, hd.ne 15 (by decide), d1 15 (by decide)]; rfl
  · right
    rw [if_pos (by simp [q])] at hX
    obtain ⟨d1, d2⟩ := hD _ hc
    obtain ⟨σ1, hd⟩ := Rz.dz d2
    obtain ⟨j1, j2⟩ := hj _ σ1 hc rfl rfl hd
    have hm := hM _ σ1 hc hd
    refine ⟨eIS, 1, σc, _, _, hin, hX, hm, ?_, j1⟩
    rw [j2]
    unfold dc
    rw [if_neg q]; rfl
/-- what a change of the model starts from -/
def D0 (τ : Mem) : Mem := st τ 7 0 (nI 0)
theorem D0_spec {σ : Mem} (hl : σ 1 3 = σ 7 10) {k r : Nat} (hr : Rz (σ 1 3) k r) (τ : Mem) (h : RM σ τ) : (∀ a, a ≠ 7 → D0 τ a = τ a) ∧ Rz (D0 τ 7 10) k r := by
  refine ⟨fun a ha => st_ne _ _ _ ha, ?_⟩
  show Rz (τ 7 10) k r
  rw [h.e7, ← hl]; exact hr
theorem D0_7 {σ τ : Mem} (h : RM σ τ) (j : Nat) (hj : j ≠ 0) : D0 τ 7 j = σ 7 j := by
  show upd (τ 7) 0 (nI 0) j = _
  rw [upd_n _ _ hj, h.e7]
theorem D0_a {σ τ : Mem} (h : RM σ τ) (a : Nat) (h1 : 8 ≤ a) (h2 : a ≤ 14) : D0 τ a = σ a := (st_ne _ _ _ (by omega)).trans (h a (by omega) h2)
theorem EF.jn {w v : Nat → Int32} {σ τ : Mem} {N : Nat} {ln kd : Nat → Nat} (h : EF w σ N ln kd) {fr to : Nat} (hft : fr ≤ to) (ht : to < N) (hv : ∀ p, p ≠ pos ln fr → p ≠ pos ln (to + 1) - 1 → v p = w p) (hv1 : v (pos ln fr) = nI (256 * (pos ln (to + 1) - pos ln fr))) (hv2 : v (pos ln (to + 1) - 1) = nI (256 * (pos ln (to + 1) - pos ln fr))) (e13 : τ 13 = σ 13) (e14 : τ 14 = σ 14) :
    EF v τ (N - (to - fr)) (jln ln fr to) (jkd kd fr to) := by
  have h3 := jlen (ln := ln) (fr := fr) (to := to) (fun i _ h2 => h.1.ln3 (by omega)) hft
  have h9 := h.1.end ht
  have h9' : pos ln (to + 1) = pos ln to + ln to := rfl
  have hout : ∀ i, i < N → (i < fr ∨ to < i) → ∀ t, t < ln i → v (pos ln i + t) = w (pos ln i + t) := by
    intro i hi hq t htl
    rcases hq with q | q
    · have := h.1.sep hi q
      exact hv _ (by omega) (by omega)
    · have := pos_mono (ln := ln) (i := to + 1) (j := i) q
      exact hv _ (by omega) (by omega)
  refine ⟨h.1.jn hft ht hv1 hv2 (fun i hi hq => ⟨hout i hi hq 0 (by have := h.1.ln3 hi; omega), ?_⟩), fun r hr => ?_, fun e he hk i hi => ?_⟩
  · have g := h.1.ln3 hi
    have := hout i hi hq (ln i - 1) (by omega)
    have e : pos ln i + (ln i - 1) = pos ln i + ln i - 1 := by omega
    rw [e] at this
    exact this
  · rw [e14, hv _ (by omega) (by omega)]
    exact h.2.1 r hr
  · rw [e13]
    rcases Nat.lt_trichotomy e fr with q | q | q
    · rw [jkd_lo q] at hk
      rw [jln_lo q] at hi
      rw [jpos_lo (by omega)]
      have := hout e (by omega) (Or.inl q) (1 + i) (by omega)
      rw [← Nat.add_assoc] at this
      rw [this]
      exact h.2.2 e (by omega) hk i hi
    · rw [q, jkd_at] at hk
      exact absurd rfl hk
    · rw [jkd_hi q] at hk
      rw [jln_hi q] at hi
      rw [jpos_hi hft q]
      have := hout (e + (to - fr)) (by omega) (Or.inr (by omega)) (1 + i) (by omega)
      rw [← Nat.add_assoc] at this
      rw [this]
      exact h.2.2 _ (by omega) hk i hi
theorem EF.word {w : Nat → Int32} {σ τ : Mem} {N : Nat} {ln kd : Nat → Nat} (h : EF w σ N ln kd) {e j : Nat} (he : e < N) (hj : j + 2 < ln e) (x : Int32) (e13 : τ 13 = upd (σ 13) (pos ln e + 1 + j) x) (e14 : τ 14 = σ 14) :
    EF (upd w (pos ln e + 1 + j) x) τ N ln kd := by
  have g := h.1.end he
  have hne : ∀ i t, i < N → t < ln i → (i ≠ e ∨ t ≠ 1 + j) → pos ln i + t ≠ pos ln e + 1 + j := by
    intro i t hi ht hq
    rcases Nat.lt_trichotomy i e with q | q | q
    · have := h.1.sep hi q
      omega
    · subst q; omega
    · have := h.1.sep he q
      omega
  refine ⟨⟨h.1.1, fun i hi => ⟨h.1.ln3 hi, h.1.kdl hi, ?_, ?_⟩⟩, fun r hr => ?_, fun e' he' hk i hi => ?_⟩
  · have := hne i 0 hi (by have := h.1.ln3 hi; omega) (by omega)
    rw [Nat.add_zero] at this
    rw [upd_n _ _ this]; exact h.1.tag hi
  · have g3 := h.1.ln3 hi
    have := hne i (ln i - 1) hi (by omega) (by
      rcases Nat.lt_trichotomy i e with q | q | q
      · omega
      · subst q; omega
      · omega)
    rw [upd_n _ _ (by omega)]; exact h.1.tag2 hi
  · rw [upd_n _ _ (by omega), e14]; exact h.2.1 r hr
  · rw [e13]
    by_cases q : pos ln e' + 1 + i = pos ln e + 1 + j
    · rw [q, upd_s, upd_s]
    · rw [upd_n _ _ q, upd_n _ _ q]; exact h.2.2 e' he' hk i hi
theorem EF.root {w : Nat → Int32} {σ τ : Mem} {N : Nat} {ln kd : Nat → Nat} (h : EF w σ N ln kd) {j : Nat} (hj : j < 8) (x : Int32) (e13 : τ 13 = σ 13) (e14 : τ 14 = upd (σ 14) j x) :
    EF (upd w (257 + j) x) τ N ln kd := by
  refine ⟨h.1.cong (fun p _ h2 => upd_n _ _ (by omega)), fun r hr => ?_, fun e' he' hk i hi => ?_⟩
  · rw [e14]
    by_cases q : r = j
    · rw [q, upd_s, upd_s]
    · rw [upd_n _ _ (by omega), upd_n _ _ q]; exact h.2.1 r hr
  · have g := h.1.end he'
    rw [e13, upd_n _ _ (by omega)]; exact h.2.2 e' he' hk i hi
theorem mfP (σ : Mem) (f n k : Nat) (h : f + n ≤ 257) : plnL (peF σ 0 f n k 3) 0 2 = [(f, nI (256 * n + k)), (f + n - 1, nI (256 * n + k))] := by
  have e1 : (nI f).toNatClampNeg = f := nI_clamp (by omega)
  have e2 : (nI (f + n - 1)).toNatClampNeg = f + n - 1 := nI_clamp (by omega)
  show [((nI f).toNatClampNeg, nI (256 * n + k)), ((nI (f + n - 1)).toNatClampNeg, nI (256 * n + k))] = _
  rw [e1, e2]
theorem pwP (σ : Mem) (p : Nat) (x : Int32) (h : p < 265) : plnL (pwF σ p x 3) 0 1 = [(p, x)] := by
  have e1 : (nI p).toNatClampNeg = p := nI_clamp (by omega)
  show [((nI p).toNatClampNeg, x)] = _
  rw [e1]
theorem pw_plOK (σ : Mem) (p : Nat) (x : Int32) (h : p < 265) : plOK (pwF σ p x 3) 1 := by
  refine ⟨by decide, fun i hi => ?_⟩
  obtain rfl : i = 0 := by omega
  exact ⟨p, h, rfl⟩
theorem pwF_ne (σ : Mem) (p : Nat) (x : Int32) (a : Nat) (h : a ≠ 3) : pwF σ p x a = σ a := by
  unfold pwF
  rw [st_ne _ _ _ h, st_ne _ _ _ h]
theorem cp_give {σ : Mem} (hJ : J σ) (a : Int32) : Cpl y_X_give mi_X_give [.inr (.inl 0), .inl a] y_M_give mi_M_give [.inr (.inl 7), .inl a] [(eIS, 1), (eNE, 2)] σ := by
  rcases hJ.bl with hd | hd
  · obtain ⟨N, ln, kd, hm, hp, he, h265, h12, h4⟩ := hJ.up hd
    by_cases q : Us N ln kd a
    · obtain ⟨e, h1, h2, rfl⟩ := q
      obtain ⟨hg1, hg2, hg3⟩ := gv_le (kd := kd) h1
      have hX := c_X_give_ok σ h4 hp h1 h2
      generalize hfr : gv0 kd e = fr at hX hg1
      generalize hto : gv1 N kd e = to at hX hg2 hg3
      have g1 := hp.end hg3
      have g2 := jlen (ln := ln) (fr := fr) (to := to) (fun i _ z => hp.ln3 (by omega)) (by omega)
      have g3 : pos ln (to + 1) = pos ln to + ln to := rfl
      rw [← g3] at hX
      obtain ⟨r, hr⟩ := Rz.ex (x := σ 1 3) (by rw [hJ.1.2.2.2.1]; exact hJ.1.1) 2
      have p1 : ∀ b, b ≠ 3 → b ≠ 4 → peF (lsF σ ln N) 0 (pos ln fr) (pos ln (to + 1) - pos ln fr) 0 b = σ b := fun b hb hb4 => (peF_ne _ _ _ _ _ _ hb).trans (lsF_ne _ _ _ _ hb4)
      obtain ⟨σc, hw, hne, hj⟩ := J_chg hJ.1 hd hm h265 h12 he (p1 1 (by decide) (by decide)) (p1 2 (by decide) (by decide)) (mf_plOK (lsF σ ln N) (pos ln fr) (pos ln (to + 1) - pos ln fr) 0 (by omega) (by omega)) hr (fun σ1 => jnM σ1 ln fr to N)
        (fun σ1 m1 e13 e14 => ⟨_, _, _, m1.jn (by omega) hg3, by
          rw [mfP _ _ _ _ (by omega)]
          refine he.jn (by omega) hg3 (fun p z1 z2 => ?_) ?_ ?_ ((jnM_ne σ1 ln fr to N 13 (by decide) (by decide) (by decide) (by decide) (by decide) (by decide)).trans e13) ((jnM_ne σ1 ln fr to N 14 (by decide) (by decide) (by decide) (by decide) (by decide) (by decide)).trans e14)
          · show upd (upd (σ 2) _ _) _ _ p = σ 2 p
            rw [upd_n _ _ (by omega), upd_n _ _ z1]
          · show upd (upd (σ 2) _ _) _ _ (pos ln fr) = _
            rw [upd_n _ _ (by omega), upd_s]; rfl
          · show upd (upd (σ 2) _ _) (pos ln fr + (pos ln (to + 1) - pos ln fr) - 1) _ (pos ln (to + 1) - 1) = _
            rw [show pos ln fr + (pos ln (to + 1) - pos ln fr) - 1 = pos ln (to + 1) - 1 by omega, upd_s]; rfl⟩)
        (fun σ1 hb j => shF_bl hb _ _ _ j) (fun σ1 => ⟨jnM_ne σ1 ln fr to N 1 (by decide) (by decide) (by decide) (by decide) (by decide) (by decide), jnM_ne σ1 ln fr to N 2 (by decide) (by decide) (by decide) (by decide) (by decide) (by decide), fun j hj => jnM_7 σ1 ln fr to N j hj⟩)
      refine Cpl.chg (D := D0) (F := fun σ1 => jnM σ1 ln fr to N) hX hw (fun b hb1 hb2 => (hne b (by omega) (by omega)).trans (p1 b (by omega) (by omega))) (D0_spec hJ.1.2.2.2.1 hr) (fun τ σ1 hτ t1 t2 hdz => hj (D0 τ) σ1 t1 t2 (D0_7 hτ) (D0_a hτ) hdz) (fun τ σ1 hτ hdz => ?_) (by simp) (fun σ1 => jnM_ne σ1 ln fr to N 15 (by decide) (by decide) (by decide) (by decide) (by decide) (by decide))
      have hM := c_M_give_ok τ (by rw [hτ.e7]; exact hd) (by rw [hτ.e7]; exact hJ.1.1) (hτ.mp hm) (fun j => by rw [hτ 12 (by decide) (by decide)]; exact hJ.1.2.2.2.2.2 j) ⟨h1, h2, rfl⟩ hdz
      rw [hfr, hto] at hM
      exact hM
    · exact Cpl.no hJ 2 (by simp) (RQ.ls σ ln N) (c_X_give_no a σ h4 hp q) (fun τ hτ => c_M_give_no a τ (by rw [hτ.e7]; exact hd) (hτ.mp hm) q)
  · obtain ⟨N, ln, kd, hm, h4⟩ := hJ.dn hd
    exact Cpl.no hJ 1 (by simp) (RQ.rf σ) (c_X_give_down a σ h4) (fun τ hτ => c_M_give_down a τ (by rw [hτ.e7]; exact hd) (hτ.mp hm))
theorem cp_store {σ : Mem} (hJ : J σ) (a x w : Int32) : Cpl y_X_store mi_X_store [.inr (.inl 0), .inl a, .inl x, .inl w] y_M_store mi_M_store [.inr (.inl 7), .inl a, .inl x, .inl w] [(eIS, 1), (eNE, 2), (eIO, 3), (eIA, 4)] σ := by
  rcases hJ.bl with hd | hd
  · obtain ⟨N, ln, kd, hm, hp, he, h265, h12, h4⟩ := hJ.up hd
    by_cases q : Us N ln kd a
    · obtain ⟨e, h1, h2, rfl⟩ := q
      have g := hp.lt h1
      have g1 := hp.end h1
      by_cases q2 : wd_ok x (ln e)
      · obtain ⟨j, hj, rfl⟩ := wd_nat q2 (by omega)
        by_cases q3 : j + 1 < kd e ∧ w ≠ 0 ∧ ¬ Us N ln kd w
        · exact Cpl.no hJ 4 (by simp) (RQ.ls σ ln N) (c_X_store_ptr j w σ h4 hp h1 h2 hj q3) (fun τ hτ => c_M_store_ptr j w τ (by rw [hτ.e7]; exact hd) (hτ.mp hm) ⟨h1, h2, rfl⟩ hj q3.1 q3.2.1 q3.2.2)
        · have hX := c_X_store_ok j w σ h4 hp h1 h2 hj q3
          have ev := he.2.2 e h1 h2 j (by omega)
          obtain ⟨r, hr⟩ := Rz.ex (x := σ 1 3) (by rw [hJ.1.2.2.2.1]; exact hJ.1.1) 1
          have p1 : ∀ b, b ≠ 3 → b ≠ 4 → pwF (lsF σ ln N) (pos ln e + 1 + j) w b = σ b := fun b hb hb4 => (pwF_ne _ _ _ _ hb).trans (lsF_ne _ _ _ _ hb4)
          obtain ⟨σc, hw, hne, hj2⟩ := J_chg hJ.1 hd hm h265 h12 he (p1 1 (by decide) (by decide)) (p1 2 (by decide) (by decide)) (pw_plOK (lsF σ ln N) (pos ln e + 1 + j) w (by omega)) hr (fun σ1 => st σ1 13 (pos ln e + 1 + j) w)
            (fun σ1 m1 e13 e14 => ⟨_, _, _, m1.cong rfl rfl rfl rfl rfl, by
              rw [pwP _ _ _ (by omega)]
              exact he.word h1 (by omega) w (by rw [← e13]; rfl) e14⟩)
            (fun σ1 hb j => hb j) (fun σ1 => ⟨rfl, rfl, fun j hj => rfl⟩)
          refine Cpl.chg (D := D0) (F := fun σ1 => st σ1 13 (pos ln e + 1 + j) w) hX hw (fun b hb1 hb2 => (hne b (by omega) (by omega)).trans (p1 b (by omega) (by omega))) (D0_spec hJ.1.2.2.2.1 hr) (fun τ σ1 hτ t1 t2 hdz => hj2 (D0 τ) σ1 t1 t2 (D0_7 hτ) (D0_a hτ) hdz) (fun τ σ1 hτ hdz => ?_) (by simp) (fun σ1 => rfl)
          have hM := c_M_store_ok j w τ (by rw [hτ.e7]; exact hd) (by rw [hτ.e7]; exact hJ.1.1) (hτ.mp hm) h1 h2 hj (fun z1 z2 => Classical.byContradiction (fun z3 => q3 ⟨z1, z2, z3⟩)) hdz
          rw [hτ 13 (by decide) (by decide), ← ev] at hM
          exact hM
      · exact Cpl.no hJ 3 (by simp) (RQ.ls σ ln N) (c_X_store_word x w σ h4 hp h1 h2 q2) (fun τ hτ => c_M_store_word x w τ (by rw [hτ.e7]; exact hd) (hτ.mp hm) ⟨h1, h2, rfl⟩ q2)
    · exact Cpl.no hJ 2 (by simp) (RQ.ls σ ln N) (c_X_store_no a x w σ h4 hp q) (fun τ hτ => c_M_store_no a x w τ (by rw [hτ.e7]; exact hd) (hτ.mp hm) q)
  · obtain ⟨N, ln, kd, hm, h4⟩ := hJ.dn hd
    exact Cpl.no hJ 1 (by simp) (RQ.rf σ) (c_X_store_down a x w σ h4) (fun τ hτ => c_M_store_down a x w τ (by rw [hτ.e7]; exact hd) (hτ.mp hm))
theorem cp_setRoot {σ : Mem} (hJ : J σ) (x w : Int32) : Cpl y_X_setRoot mi_X_setRoot [.inr (.inl 0), .inl x, .inl w] y_M_setRoot mi_M_setRoot [.inr (.inl 7), .inl x, .inl w] [(eIS, 1), (eIO, 2), (eNE, 3)] σ := by
  rcases hJ.bl with hd | hd
  · obtain ⟨N, ln, kd, hm, hp, he, h265, h12, h4⟩ := hJ.up hd
    by_cases q : rt_ok x
    · obtain ⟨j, hj, rfl⟩ := rt_nat q
      by_cases q3 : w ≠ 0 ∧ ¬ Us N ln kd w
      · exact Cpl.no hJ 3 (by simp) (RQ.ls σ ln N) (c_X_setRoot_bad j hj w σ h4 hp q3.1 q3.2) (fun τ hτ => c_M_setRoot_bad j hj w τ (by rw [hτ.e7]; exact hd) (hτ.mp hm) q3.1 q3.2)
      · have er := he.2.1 j hj
        obtain ⟨v, hv⟩ : ∃ v, (Us N ln kd (σ 14 j) → v = σ 14 j) ∧ (¬ Us N ln kd (σ 14 j) → v = 0) := by
          by_cases z : Us N ln kd (σ 14 j)
          · exact ⟨_, fun _ => rfl, fun y => absurd z y⟩
          · exact ⟨0, fun y => absurd y z, fun _ => rfl⟩
        have hX := c_X_setRoot_ok j hj w v σ h4 hp (Classical.byContradiction (fun z => q3 ⟨fun y => z (Or.inl y), fun y => z (Or.inr y)⟩)) (by rw [er]; exact hv)
        obtain ⟨r, hr⟩ := Rz.ex (x := σ 1 3) (by rw [hJ.1.2.2.2.1]; exact hJ.1.1) 1
        have p1 : ∀ b, b ≠ 3 → b ≠ 4 → pwF (lsF σ ln N) (257 + j) w b = σ b := fun b hb hb4 => (pwF_ne _ _ _ _ hb).trans (lsF_ne _ _ _ _ hb4)
        obtain ⟨σc, hw, hne, hj2⟩ := J_chg hJ.1 hd hm h265 h12 he (p1 1 (by decide) (by decide)) (p1 2 (by decide) (by decide)) (pw_plOK (lsF σ ln N) (257 + j) w (by omega)) hr (fun σ1 => st σ1 14 j w)
          (fun σ1 m1 e13 e14 => ⟨_, _, _, m1.cong rfl rfl rfl rfl rfl, by
            rw [pwP _ _ _ (by omega)]
            exact he.root hj w e13 (by rw [← e14]; rfl)⟩)
          (fun σ1 hb j => hb j) (fun σ1 => ⟨rfl, rfl, fun j hj => rfl⟩)
        refine Cpl.chg (D := D0) (F := fun σ1 => st σ1 14 j w) hX hw (fun b hb1 hb2 => (hne b (by omega) (by omega)).trans (p1 b (by omega) (by omega))) (D0_spec hJ.1.2.2.2.1 hr) (fun τ σ1 hτ t1 t2 hdz => hj2 (D0 τ) σ1 t1 t2 (D0_7 hτ) (D0_a hτ) hdz) (fun τ σ1 hτ hdz => ?_) (by simp) (fun σ1 => rfl)
        exact c_M_setRoot_ok j hj w τ (by rw [hτ.e7]; exact hd) (by rw [hτ.e7]; exact hJ.1.1) (hτ.mp hm) (fun z1 => Classical.byContradiction (fun z3 => q3 ⟨z1, z3⟩)) hdz v (by rw [hτ 14 (by decide) (by decide)]; exact hv)
    · exact Cpl.no hJ 2 (by simp) (RQ.rf σ) (c_X_setRoot_no x w σ h4 q) (fun τ hτ => c_M_setRoot_no x w τ (by rw [hτ.e7]; exact hd) q)
  · obtain ⟨N, ln, kd, hm, h4⟩ := hJ.dn hd
    exact Cpl.no hJ 1 (by simp) (RQ.rf σ) (c_X_setRoot_down x w σ h4) (fun τ hτ => c_M_setRoot_down x w τ (by rw [hτ.e7]; exact hd))
