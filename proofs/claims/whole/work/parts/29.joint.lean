/-! ===== the class and the reference, side by side ===== -/
def EF (w : Nat → Int32) (σ : Mem) (N : Nat) (ln kd : Nat → Nat) : Prop := HP w N ln kd ∧ (∀ r, r < 8 → w (257 + r) = σ 14 r) ∧ (∀ e, e < N → kd e ≠ 0 → ∀ i, i + 2 < ln e → w (pos ln e + 1 + i) = σ 13 (pos ln e + 1 + i))
theorem EF.w {w v : Nat → Int32} {σ : Mem} {N : Nat} {ln kd : Nat → Nat} (h : EF w σ N ln kd) (e : ∀ p, p < 265 → v p = w p) : EF v σ N ln kd := by
  refine ⟨h.1.cong (fun j _ h2 => e j (by omega)), fun r hr => (e _ (by omega)).trans (h.2.1 r hr), fun e' he hk i hi => (e _ ?_).trans (h.2.2 e' he hk i hi)⟩
  have := h.1.end he
  omega
theorem EF.m {w : Nat → Int32} {σ τ : Mem} {N : Nat} {ln kd : Nat → Nat} (h : EF w σ N ln kd) (e13 : τ 13 = σ 13) (e14 : τ 14 = σ 14) : EF w τ N ln kd := by
  refine ⟨h.1, fun r hr => ?_, fun e' he hk i hi => ?_⟩
  · rw [e14]; exact h.2.1 r hr
  · rw [e13]; exact h.2.2 e' he hk i hi
def JC (σ : Mem) : Prop := lOK (σ 7 10) ∧ bl (σ 7 11) ∧ σ 1 2 = σ 7 9 ∧ σ 1 3 = σ 7 10 ∧ σ 1 4 = σ 7 11 ∧ ∀ j, bl (σ 12 j)
def JH (σ : Mem) (N : Nat) (ln kd : Nat → Nat) (k : Nat) : Prop := MP σ N ln kd ∧ σ 7 12 = nI k ∧ nOK (σ 2) k ∧ (σ 7 11 = 0 → k = 0) ∧ EF (eff (σ 2) k) σ N ln kd
def J (σ : Mem) : Prop := JC σ ∧ ∃ N ln kd k, JH σ N ln kd k
theorem JC.cong {σ τ : Mem} (h : JC σ) (e1 : τ 1 = σ 1) (e7 : ∀ j, j ≠ 0 → τ 7 j = σ 7 j) (e12 : ∀ j, bl (τ 12 j)) : JC τ := by
  unfold JC
  rw [e1, e7 9 (by decide), e7 10 (by decide), e7 11 (by decide)]
  exact ⟨h.1, h.2.1, h.2.2.1, h.2.2.2.1, h.2.2.2.2.1, e12⟩
theorem JH.cong {σ τ : Mem} {N : Nat} {ln kd : Nat → Nat} {k : Nat} (h : JH σ N ln kd k) (e2 : τ 2 = σ 2) (e7 : ∀ j, j ≠ 0 → τ 7 j = σ 7 j) (e8 : τ 8 = σ 8) (e9 : τ 9 = σ 9) (e10 : τ 10 = σ 10) (e11 : τ 11 = σ 11) (e13 : τ 13 = σ 13) (e14 : τ 14 = σ 14) : JH τ N ln kd k := by
  refine ⟨h.1.cong (e7 1 (by decide)) e8 e9 e10 e11, (e7 12 (by decide)).trans h.2.1, by rw [e2]; exact h.2.2.1, fun z => h.2.2.2.1 (by rw [← e7 11 (by decide)]; exact z), ?_⟩
  rw [e2]
  exact h.2.2.2.2.m e13 e14
/-- all but what listing, searching and answering write -/
def RQ (σ τ : Mem) : Prop := ∀ a, a ≠ 4 → a ≠ 5 → a ≠ 6 → a ≠ 15 → τ a = σ a
theorem RQ.rf (σ : Mem) : RQ σ σ := fun _ _ _ _ _ => rfl
theorem RQ.ls (σ : Mem) (ln : Nat → Nat) (N : Nat) : RQ σ (lsF σ ln N) := fun a h _ _ _ => lsF_ne σ ln N a h
theorem RQ.out {σ τ : Mem} (h : RQ σ τ) (v : Int32) : RQ σ (st τ 15 0 v) := fun a h4 h5 h6 h15 => (st_ne _ _ _ h15).trans (h a h4 h5 h6 h15)
theorem RQ.mp {σ τ : Mem} {N : Nat} {ln kd : Nat → Nat} (h : RQ σ τ) (hm : MP σ N ln kd) : MP τ N ln kd := hm.cong (by rw [h 7 (by decide) (by decide) (by decide) (by decide)]) (h 8 (by decide) (by decide) (by decide) (by decide)) (h 9 (by decide) (by decide) (by decide) (by decide)) (h 10 (by decide) (by decide) (by decide) (by decide)) (h 11 (by decide) (by decide) (by decide) (by decide))
theorem RQ.e7 {σ τ : Mem} (h : RQ σ τ) : τ 7 = σ 7 := h 7 (by decide) (by decide) (by decide) (by decide)
theorem J.rd {σ τ : Mem} (h : J σ) (q : RQ σ τ) (c : Int32) : J (st τ 7 0 c) := by
  obtain ⟨hC, N, ln, kd, k, hH⟩ := h
  have e7 : ∀ j, j ≠ 0 → st τ 7 0 c 7 j = σ 7 j := fun j hj => by
    show upd (τ 7) 0 c j = σ 7 j
    rw [upd_n _ _ hj, q.e7]
  have en : ∀ a, a ≠ 4 → a ≠ 5 → a ≠ 6 → a ≠ 15 → a ≠ 7 → st τ 7 0 c a = σ a := fun a h4 h5 h6 h15 h7 => (st_ne _ _ _ h7).trans (q a h4 h5 h6 h15)
  refine ⟨hC.cong (en 1 (by decide) (by decide) (by decide) (by decide) (by decide)) e7 (fun j => ?_), N, ln, kd, k, hH.cong (en 2 (by decide) (by decide) (by decide) (by decide) (by decide)) e7 (en 8 (by decide) (by decide) (by decide) (by decide) (by decide)) (en 9 (by decide) (by decide) (by decide) (by decide) (by decide)) (en 10 (by decide) (by decide) (by decide) (by decide) (by decide)) (en 11 (by decide) (by decide) (by decide) (by decide) (by decide)) (en 13 (by decide) (by decide) (by decide) (by decide) (by decide)) (en 14 (by decide) (by decide) (by decide) (by decide) (by decide))⟩
  rw [en 12 (by decide) (by decide) (by decide) (by decide) (by decide)]
  exact hC.2.2.2.2.2 j
theorem mwd_eq {σ τ : Mem} (h13 : τ 13 = σ 13) (h14 : τ 14 = σ 14) : mwd τ = mwd σ := by
  unfold mwd
  rw [h13, h14]
/-- the two go together for one call -/
def Cpl (yX : MethodName) (MX : MI) (aX : List AV) (yM : MethodName) (MM : MI) (aM : List AV) (codes : List (String × Nat)) (σ : Mem) : Prop :=
  (∃ v σc σm, MetO yX MX aX σ (.inl (some (.inl v), σc)) ∧ MetO yM MM aM (st σc 15 0 v) (.inl (some (.inl v), σm)) ∧ σm 7 0 = 0 ∧ J σm ∧ σm 15 0 = v) ∨
  (∃ e k σc σm b, (e, k) ∈ codes ∧ MetO yX MX aX σ (.inr (e, σc)) ∧ MetO yM MM aM σc (.inl (some (.inl b), σm)) ∧ σm 7 0 = nI k ∧ J σm)
theorem Cpl.no {yX : MethodName} {MX : MI} {aX : List AV} {yM : MethodName} {MM : MI} {aM : List AV} {codes : List (String × Nat)} {σ : Mem} (h : J σ) {e : String} (k : Nat) {σc : Mem} (hin : (e, k) ∈ codes) (hc : RQ σ σc) (hX : MetO yX MX aX σ (.inr (e, σc))) (hM : ∀ τ, RQ σ τ → MetO yM MM aM τ (.inl (some (.inl 0), st τ 7 0 (nI k)))) : Cpl yX MX aX yM MM aM codes σ :=
  Or.inr ⟨e, k, σc, _, _, hin, hX, hM σc hc, rfl, h.rd hc _⟩
theorem Cpl.ok {yX : MethodName} {MX : MI} {aX : List AV} {yM : MethodName} {MM : MI} {aM : List AV} {codes : List (String × Nat)} {σ : Mem} (h : J σ) {v : Int32} {σc : Mem} (hc : RQ σ σc) (hX : MetO yX MX aX σ (.inl (some (.inl v), σc))) (hM : ∀ τ, RQ σ τ → MetO yM MM aM τ (.inl (some (.inl v), st τ 7 0 0))) : Cpl yX MX aX yM MM aM codes σ :=
  Or.inl ⟨v, σc, _, hX, hM _ (hc.out v), rfl, h.rd (hc.out v) _, rfl⟩
/-- while the power is on -/
theorem J.up {σ : Mem} (h : J σ) (hd : σ 7 11 = 0) : ∃ N ln kd, MP σ N ln kd ∧ HP (σ 2) N ln kd ∧ EF (σ 2) σ N ln kd ∧ σ 2 265 = 0 ∧ σ 7 12 = 0 ∧ σ 1 4 = 0 := by
  obtain ⟨hC, N, ln, kd, k, h1, h2, h3, h4, h5⟩ := h
  obtain rfl := h4 hd
  exact ⟨N, ln, kd, h1, h5.1, h5, h3.1, h2, by rw [hC.2.2.2.2.1]; exact hd⟩
theorem J.dn {σ : Mem} (h : J σ) (hd : σ 7 11 = 1) : ∃ N ln kd, MP σ N ln kd ∧ σ 1 4 = 1 := by
  obtain ⟨hC, N, ln, kd, k, h1, h2, h3, h4, h5⟩ := h
  exact ⟨N, ln, kd, h1, by rw [hC.2.2.2.2.1]; exact hd⟩
theorem J.bl {σ : Mem} (h : J σ) : σ 7 11 = 0 ∨ σ 7 11 = 1 := h.1.2.1
theorem RS.cong {w v : Nat → Int32} {N : Nat} {ln kd : Nat → Nat} (hr : ∀ r, r < 8 → v (257 + r) = w (257 + r)) (hc : ∀ e, e < N → ∀ i, i + 1 < kd e → v (pos ln e + 1 + i) = w (pos ln e + 1 + i)) (e : Nat) (h : RS w N ln kd e) : RS v N ln kd e := by
  intro P h1 h2
  refine h P (fun r hr8 j hj => h1 r hr8 j (by rw [hr r hr8]; exact hj)) (fun j hP hj i hi j' hj' => h2 j hP hj i hi j' (by rw [hc j hj i hi]; exact hj'))
theorem EF.rs {w : Nat → Int32} {σ : Mem} {N : Nat} {ln kd : Nat → Nat} (h : EF w σ N ln kd) (e : Nat) : RS w N ln kd e ↔ RS (mwd σ) N ln kd e := by
  have h1 : ∀ r, r < 8 → mwd σ (257 + r) = w (257 + r) := fun r hr => by rw [mwd_r]; exact (h.2.1 r hr).symm
  have h2 : ∀ e, e < N → ∀ i, i + 1 < kd e → mwd σ (pos ln e + 1 + i) = w (pos ln e + 1 + i) := fun e he i hi => by
    have g1 := h.1.end he
    have g2 := h.1.kdl he
    rw [mwd_w _ (by omega)]
    exact (h.2.2 e he (by omega) i (by omega)).symm
  exact ⟨RS.cong h1 h2 e, RS.cong (fun r hr => (h1 r hr).symm) (fun e he i hi => (h2 e he i hi).symm) e⟩
theorem cp_load {σ : Mem} (hJ : J σ) (a x : Int32) : Cpl y_X_load mi_X_load [.inr (.inl 0), .inl a, .inl x] y_M_load mi_M_load [.inr (.inl 7), .inl a, .inl x] [(eIS, 1), (eNE, 2), (eIO, 3)] σ := by
  rcases hJ.bl with hd | hd
  · obtain ⟨N, ln, kd, hm, hp, he, _, _, h4⟩ := hJ.up hd
    by_cases q : Us N ln kd a
    · obtain ⟨e, h1, h2, rfl⟩ := q
      have g := hp.lt h1
      by_cases q2 : wd_ok x (ln e)
      · obtain ⟨j, hj, rfl⟩ := wd_nat q2 (by omega)
        have hX := c_X_load_ok j σ h4 hp h1 h2 hj
        rw [he.2.2 e h1 h2 j (by omega)] at hX
        refine Cpl.ok hJ (RQ.ls σ ln N) hX (fun τ hτ => ?_)
        have hM := c_M_load_ok j τ (by rw [hτ.e7]; exact hd) (hτ.mp hm) h1 h2 hj
        rw [hτ 13 (by decide) (by decide) (by decide) (by decide)] at hM
        exact hM
      · exact Cpl.no hJ 3 (by simp) (RQ.ls σ ln N) (c_X_load_word x σ h4 hp h1 h2 q2) (fun τ hτ => c_M_load_word x τ (by rw [hτ.e7]; exact hd) (hτ.mp hm) ⟨h1, h2, rfl⟩ q2)
    · exact Cpl.no hJ 2 (by simp) (RQ.ls σ ln N) (c_X_load_no a x σ h4 hp q) (fun τ hτ => c_M_load_no a x τ (by rw [hτ.e7]; exact hd) (hτ.mp hm) q)
  · obtain ⟨N, ln, kd, hm, h4⟩ := hJ.dn hd
    exact Cpl.no hJ 1 (by simp) (RQ.rf σ) (c_X_load_down a x σ h4) (fun τ hτ => c_M_load_down a x τ (by rw [hτ.e7]; exact hd) (hτ.mp hm))
theorem cp_size {σ : Mem} (hJ : J σ) (a x : Int32) : Cpl y_X_size mi_X_size [.inr (.inl 0), .inl a, .inl x] y_M_size mi_M_size [.inr (.inl 7), .inl a, .inl x] [(eIS, 1), (eNE, 2)] σ := by
  rcases hJ.bl with hd | hd
  · obtain ⟨N, ln, kd, hm, hp, he, _, _, h4⟩ := hJ.up hd
    by_cases q : Us N ln kd a
    · obtain ⟨e, h1, h2, rfl⟩ := q
      by_cases q2 : x = 0
      · exact Cpl.ok hJ (RQ.ls σ ln N) (c_X_size_ok x σ h4 hp h1 h2 (nI (ln e - 2)) ⟨fun _ => rfl, fun z => absurd q2 z⟩) (fun τ hτ => c_M_size_ok x τ (by rw [hτ.e7]; exact hd) (hτ.mp hm) ⟨h1, h2, rfl⟩ (nI (ln e - 2)) ⟨fun _ => rfl, fun z => absurd q2 z⟩)
      · exact Cpl.ok hJ (RQ.ls σ ln N) (c_X_size_ok x σ h4 hp h1 h2 (nI (kd e - 1)) ⟨fun z => absurd z q2, fun _ => rfl⟩) (fun τ hτ => c_M_size_ok x τ (by rw [hτ.e7]; exact hd) (hτ.mp hm) ⟨h1, h2, rfl⟩ (nI (kd e - 1)) ⟨fun z => absurd z q2, fun _ => rfl⟩)
    · exact Cpl.no hJ 2 (by simp) (RQ.ls σ ln N) (c_X_size_no a x σ h4 hp q) (fun τ hτ => c_M_size_no a x τ (by rw [hτ.e7]; exact hd) (hτ.mp hm) q)
  · obtain ⟨N, ln, kd, hm, h4⟩ := hJ.dn hd
    exact Cpl.no hJ 1 (by simp) (RQ.rf σ) (c_X_size_down a x σ h4) (fun τ hτ => c_M_size_down a x τ (by rw [hτ.e7]; exact hd) (hτ.mp hm))
theorem cp_root {σ : Mem} (hJ : J σ) (x : Int32) : Cpl y_X_root mi_X_root [.inr (.inl 0), .inl x] y_M_root mi_M_root [.inr (.inl 7), .inl x] [(eIS, 1), (eIO, 2)] σ := by
  rcases hJ.bl with hd | hd
  · obtain ⟨N, ln, kd, hm, hp, he, _, _, h4⟩ := hJ.up hd
    by_cases q : rt_ok x
    · obtain ⟨j, hj, rfl⟩ := rt_nat q
      have er := he.2.1 j hj
      have e14 : ∀ τ, RQ σ τ → τ 14 = σ 14 := fun τ hτ => hτ 14 (by decide) (by decide) (by decide) (by decide)
      by_cases q2 : Us N ln kd (σ 14 j)
      · refine Cpl.ok hJ (v := σ 14 j) (RQ.ls σ ln N) (c_X_root_ok j hj σ h4 hp _ (by rw [er]; exact ⟨fun _ => rfl, fun z => absurd q2 z⟩)) (fun τ hτ => c_M_root_ok j hj τ (by rw [hτ.e7]; exact hd) (hτ.mp hm) _ (by rw [e14 τ hτ]; exact ⟨fun _ => rfl, fun z => absurd q2 z⟩))
      · refine Cpl.ok hJ (v := 0) (RQ.ls σ ln N) (c_X_root_ok j hj σ h4 hp _ (by rw [er]; exact ⟨fun z => absurd z q2, fun _ => rfl⟩)) (fun τ hτ => c_M_root_ok j hj τ (by rw [hτ.e7]; exact hd) (hτ.mp hm) _ (by rw [e14 τ hτ]; exact ⟨fun z => absurd z q2, fun _ => rfl⟩))
    · exact Cpl.no hJ 2 (by simp) (RQ.rf σ) (c_X_root_no x σ h4 q) (fun τ hτ => c_M_root_no x τ (by rw [hτ.e7]; exact hd) q)
  · obtain ⟨N, ln, kd, hm, h4⟩ := hJ.dn hd
    exact Cpl.no hJ 1 (by simp) (RQ.rf σ) (c_X_root_down x σ h4) (fun τ hτ => c_M_root_down x τ (by rw [hτ.e7]; exact hd))
theorem cp_freeWords {σ : Mem} (hJ : J σ) : Cpl y_X_freeWords mi_X_freeWords [.inr (.inl 0)] y_M_freeWords mi_M_freeWords [.inr (.inl 7)] [(eIS, 1)] σ := by
  rcases hJ.bl with hd | hd
  · obtain ⟨N, ln, kd, hm, hp, he, _, _, h4⟩ := hJ.up hd
    exact Cpl.ok hJ (RQ.ls σ ln N) (c_X_freeWords_up σ h4 hp) (fun τ hτ => c_M_freeWords_up τ (by rw [hτ.e7]; exact hd) (hτ.mp hm))
  · obtain ⟨N, ln, kd, hm, h4⟩ := hJ.dn hd
    exact Cpl.no hJ 1 (by simp) (RQ.rf σ) (c_X_freeWords_down σ h4) (fun τ hτ => c_M_freeWords_down τ (by rw [hτ.e7]; exact hd) (hτ.mp hm))
theorem cp_largestFree {σ : Mem} (hJ : J σ) : Cpl y_X_largestFree mi_X_largestFree [.inr (.inl 0)] y_M_largestFree mi_M_largestFree [.inr (.inl 7)] [(eIS, 1)] σ := by
  rcases hJ.bl with hd | hd
  · obtain ⟨N, ln, kd, hm, hp, he, _, _, h4⟩ := hJ.up hd
    exact Cpl.ok hJ (RQ.ls σ ln N) (c_X_largestFree_up σ h4 hp) (fun τ hτ => c_M_largestFree_up τ (by rw [hτ.e7]; exact hd) (hτ.mp hm))
  · obtain ⟨N, ln, kd, hm, h4⟩ := hJ.dn hd
    exact Cpl.no hJ 1 (by simp) (RQ.rf σ) (c_X_largestFree_down σ h4) (fun τ hτ => c_M_largestFree_down τ (by rw [hτ.e7]; exact hd) (hτ.mp hm))
theorem cp_extent {σ : Mem} (hJ : J σ) (i : Int32) : Cpl y_X_extent mi_X_extent [.inr (.inl 0), .inl i] y_M_extent mi_M_extent [.inr (.inl 7), .inl i] [(eIS, 1), (eIO, 2)] σ := by
  rcases hJ.bl with hd | hd
  · obtain ⟨N, ln, kd, hm, hp, he, _, _, h4⟩ := hJ.up hd
    by_cases q : i < 0
    · exact Cpl.no hJ 2 (by simp) (RQ.rf σ) (c_X_extent_neg i σ h4 q) (fun τ hτ => c_M_extent_no i τ (by rw [hτ.e7]; exact hd) (hτ.mp hm) (Or.inl q))
    · by_cases q2 : i < nI N
      · obtain ⟨k, hk, rfl⟩ := nI_of q
        have hN := hp.N85
        have hk2 : k < N := (nI_ltI hk (by omega)).mp q2
        by_cases q3 : kd k = 0
        · exact Cpl.ok hJ (v := -nI (pos ln k + 1)) (RQ.ls σ ln N) (c_X_extent_ok k σ h4 hp hk2 _ ⟨fun _ => rfl, fun z => absurd q3 z⟩) (fun τ hτ => c_M_extent_ok k τ (by rw [hτ.e7]; exact hd) (hτ.mp hm) hk2 _ ⟨fun _ => rfl, fun z => absurd q3 z⟩)
        · exact Cpl.ok hJ (v := nI (pos ln k + 1)) (RQ.ls σ ln N) (c_X_extent_ok k σ h4 hp hk2 _ ⟨fun z => absurd z q3, fun _ => rfl⟩) (fun τ hτ => c_M_extent_ok k τ (by rw [hτ.e7]; exact hd) (hτ.mp hm) hk2 _ ⟨fun z => absurd z q3, fun _ => rfl⟩)
      · exact Cpl.no hJ 2 (by simp) (RQ.ls σ ln N) (c_X_extent_big i σ h4 hp q q2) (fun τ hτ => c_M_extent_no i τ (by rw [hτ.e7]; exact hd) (hτ.mp hm) (Or.inr q2))
  · obtain ⟨N, ln, kd, hm, h4⟩ := hJ.dn hd
    exact Cpl.no hJ 1 (by simp) (RQ.rf σ) (c_X_extent_down i σ h4) (fun τ hτ => c_M_extent_down i τ (by rw [hτ.e7]; exact hd))
theorem cp_reached {σ : Mem} (hJ : J σ) : Cpl y_X_reached mi_X_reached [.inr (.inl 0)] y_M_reached mi_M_reached [.inr (.inl 7)] [(eIS, 1)] σ := by
  rcases hJ.bl with hd | hd
  · obtain ⟨N, ln, kd, hm, hp, he, _, _, h4⟩ := hJ.up hd
    have hq : RQ σ (srM σ N ln kd) := fun a h4 h5 h6 _ => srM_ne hp a h4 h5 h6
    have hX := c_X_reached_up σ h4 hp
    rw [cntP_cong (Q := RS (mwd σ) N ln kd) (fun j _ => he.rs j)] at hX
    have hq2 := hq.out (nI (cntP (RS (mwd σ) N ln kd) N))
    have hM := c_M_reached_up (st (srM σ N ln kd) 15 0 (nI (cntP (RS (mwd σ) N ln kd) N))) (by rw [hq2.e7]; exact hd) (hq2.mp hm)
    have ew : mwd (st (srM σ N ln kd) 15 0 (nI (cntP (RS (mwd σ) N ln kd) N))) = mwd σ := mwd_eq (hq2 13 (by decide) (by decide) (by decide) (by decide)) (hq2 14 (by decide) (by decide) (by decide) (by decide))
    rw [ew] at hM
    refine Or.inl ⟨_, _, _, hX, hM, rfl, ?_, rfl⟩
    have hr := hJ.rd hq2 (nI 0)
    obtain ⟨hC, N', ln', kd', k', hH⟩ := hr
    exact ⟨hC.cong rfl (fun _ _ => rfl) (maF_bl (fun j => by rw [hq2 12 (by decide) (by decide) (by decide) (by decide)]; exact hJ.1.2.2.2.2.2 j)), N', ln', kd', k', hH.cong rfl (fun _ _ => rfl) rfl rfl rfl rfl rfl rfl⟩
  · obtain ⟨N, ln, kd, hm, h4⟩ := hJ.dn hd
    exact Cpl.no hJ 1 (by simp) (RQ.rf σ) (c_X_reached_down σ h4) (fun τ hτ => c_M_reached_down τ (by rw [hτ.e7]; exact hd))
theorem J_chg {σ : Mem} (hC : JC σ) (hu : σ 7 11 = 0) {N : Nat} {ln kd : Nat → Nat} (hm : MP σ N ln kd) (h265 : σ 2 265 = 0) (h12 : σ 7 12 = 0) (he : EF (σ 2) σ N ln kd) {σp : Mem} (p1 : σp 1 = σ 1) (p2 : σp 2 = σ 2) {f : Nat → Int32} {k r : Nat} (hk : plOK f k) (hr : Rz (σ 1 3) k r) (F : Mem → Mem)
    (hF : ∀ σ1, MP σ1 N ln kd → σ1 13 = σ 13 → σ1 14 = σ 14 → ∃ N' ln' kd', MP (F σ1) N' ln' kd' ∧ EF (apl (σ 2) (plnL f 0 k)) (F σ1) N' ln' kd')
    (hF12 : ∀ σ1, (∀ j, bl (σ1 12 j)) → ∀ j, bl (F σ1 12 j)) (hFa : ∀ σ1, F σ1 1 = σ1 1 ∧ F σ1 2 = σ1 2 ∧ ∀ j, j ≠ 1 → F σ1 7 j = σ1 7 j) :
    ∃ σc, wrs σp (chgL f k) = (σc, decide (r ≠ 0)) ∧ (∀ a, a ≠ 1 → a ≠ 2 → σc a = σp a) ∧ ∀ τ σ1, τ 1 = σc 1 → τ 2 = σc 2 → (∀ j, j ≠ 0 → τ 7 j = σ 7 j) → (∀ a, 8 ≤ a → a ≤ 14 → τ a = σ a) → Dz τ k r σ1 →
      J (if r < 2 then F σ1 else σ1) ∧ (if r < 2 then F σ1 else σ1) 7 0 = dc r := by
  obtain ⟨σc, kk, hw, hne, hn, hef, hr0, hcnt⟩ := chg_cpl (σ := σp) hk (by rw [p2]; exact h265) (by rw [p1]; exact hr)
  refine ⟨σc, hw, hne, fun τ σ1 t1 t2 t7 ta hd => ?_⟩
  obtain ⟨c1, c2, c3, c4, c5, c6⟩ := hcnt τ σ1 hd (by rw [t7 _ (by decide), p1]; exact hC.2.2.2.1.symm) (by rw [t7 _ (by decide), p1]; exact hC.2.2.1.symm) (by rw [t7 _ (by decide), p1]; exact hC.2.2.2.2.1.symm) (by rw [t7 _ (by decide)]; exact h12) (by rw [p1, hC.2.2.2.1]; exact hC.1)
  have s1 : σ1 1 = σc 1 := (hd.ne 1 (by decide)).trans t1
  have s2 : σ1 2 = σc 2 := (hd.ne 2 (by decide)).trans t2
  have sa : ∀ a, 8 ≤ a → a ≤ 14 → σ1 a = σ a := fun a q1 q2 => (hd.ne a (by omega)).trans (ta a q1 q2)
  have hm1 : MP σ1 N ln kd := hm.cong (hd.n.trans (t7 1 (by decide))) (sa 8 (by decide) (by decide)) (sa 9 (by decide) (by decide)) (sa 10 (by decide) (by decide)) (sa 11 (by decide) (by decide))
  have hb12 : ∀ j, bl (σ1 12 j) := fun j => by rw [sa 12 (by decide) (by decide)]; exact hC.2.2.2.2.2 j
  have hC1 : JC σ1 := by
    refine ⟨c5, ?_, by rw [s1]; exact c1, by rw [s1]; exact c2, by rw [s1]; exact c3, hb12⟩
    rw [c6]
    split
    · rw [t7 _ (by decide), hu]; exact Or.inl rfl
    · exact Or.inr rfl
  have hpend : σ1 7 11 = 0 → kk = 0 := by
    intro z
    rw [c6] at z
    by_cases q : r = 0
    · exact hr0 q
    · rw [if_neg q] at z; exact absurd z (by decide)
  by_cases q : r < 2
  · rw [if_pos q]
    obtain ⟨f1, f2, f7⟩ := hFa σ1
    obtain ⟨N', ln', kd', g1, g2⟩ := hF σ1 hm1 (sa 13 (by decide) (by decide)) (sa 14 (by decide) (by decide))
    refine ⟨⟨?_, N', ln', kd', kk, g1, ?_, ?_, ?_, ?_⟩, (f7 0 (by decide)).trans hd.code⟩
    · refine ⟨by rw [f7 _ (by decide)]; exact hC1.1, by rw [f7 _ (by decide)]; exact hC1.2.1, by rw [f7 _ (by decide), f1]; exact hC1.2.2.1, by rw [f7 _ (by decide), f1]; exact hC1.2.2.2.1, by rw [f7 _ (by decide), f1]; exact hC1.2.2.2.2.1, hF12 σ1 hb12⟩
    · rw [f7 _ (by decide)]; exact c4
    · rw [f2, s2]; exact hn
    · rw [f7 _ (by decide)]; exact hpend
    · rw [f2, s2]
      refine g2.w (fun p hp => ?_)
      rw [hef p hp, if_pos q, p2]
  · rw [if_neg q]
    refine ⟨⟨hC1, N, ln, kd, kk, hm1, c4, by rw [s2]; exact hn, hpend, ?_⟩, hd.code⟩
    rw [s2]
    refine (he.w (fun p hp => ?_)).m (sa 13 (by decide) (by decide)) (sa 14 (by decide) (by decide))
    rw [hef p hp, if_neg q, p2]
