def sm (σ : Mem) (m f : Nat → Int32) : Mem := stA (stA σ 5 m) 6 f
theorem sm_upd (σ : Mem) (m f : Nat → Int32) (a c : Nat) (v w : Int32) : st (st (sm σ m f) 5 a v) 6 c w = sm σ (upd m a v) (upd f c w) := by
  funext b
  by_cases h6 : b = 6
  · subst h6; rfl
  · by_cases h5 : b = 5
    · subst h5; rfl
    · unfold sm
      rw [st_ne _ _ _ h6, st_ne _ _ _ h5, stA_ne _ _ h6, stA_ne _ _ h5, stA_ne _ _ h6, stA_ne _ _ h5]
theorem sm_ne (σ : Mem) (m f : Nat → Int32) (a : Nat) (h5 : a ≠ 5) (h6 : a ≠ 6) : sm σ m f a = σ a := by unfold sm; rw [stA_ne _ _ h6, stA_ne _ _ h5]
theorem sm_5 (σ : Mem) (m f : Nat → Int32) : sm σ m f 5 = m := by unfold sm; rw [stA_ne _ _ (by decide), stA_self]
theorem sm_6 (σ : Mem) (m f : Nat → Int32) : sm σ m f 6 = f := by unfold sm; rw [stA_self]
/-- the search, half way: marks m, c found, in the row f -/
def BI (w : Nat → Int32) (N : Nat) (ln kd : Nat → Nat) (m : Nat → Int32) (c : Nat) (f : Nat → Int32) : Prop :=
  (∀ a, a < 258 → m a ≠ 0 → ∃ j, j < N ∧ kd j ≠ 0 ∧ a = pos ln j + 1) ∧ (∀ j, j < N → kd j ≠ 0 → m (pos ln j + 1) = 1 ∨ m (pos ln j + 1) = 2) ∧ c = cntP (fun j => m (pos ln j + 1) = 2) N ∧
  (∀ k, k < c → ∃ e, e < N ∧ f k = nI (pos ln e + 1) ∧ m (pos ln e + 1) = 2) ∧ (∀ e, e < N → m (pos ln e + 1) = 2 → RS w N ln kd e ∧ ∃ k, k < c ∧ f k = nI (pos ln e + 1))
/-- what a word leads to is marked -/
def Cov (N : Nat) (ln kd : Nat → Nat) (m : Nat → Int32) (x : Int32) : Prop := ∀ e, Usd N ln kd e x → m (pos ln e + 1) = 2
def Ext (m : Nat → Int32) (c : Nat) (f m' : Nat → Int32) (c' : Nat) (f' : Nat → Int32) : Prop := (∀ a, m a = 2 → m' a = 2) ∧ (∀ k, k < c → f' k = f k) ∧ c ≤ c'
theorem Ext.rf {m : Nat → Int32} {c : Nat} {f : Nat → Int32} : Ext m c f m c f := ⟨fun _ h => h, fun _ _ => rfl, Nat.le_refl _⟩
theorem Ext.tr {m m1 m2 : Nat → Int32} {c c1 c2 : Nat} {f f1 f2 : Nat → Int32} (h : Ext m c f m1 c1 f1) (h' : Ext m1 c1 f1 m2 c2 f2) : Ext m c f m2 c2 f2 :=
  ⟨fun a q => h'.1 a (h.1 a q), fun k q => (h'.2.1 k (Nat.lt_of_lt_of_le q h.2.2)).trans (h.2.1 k q), Nat.le_trans h.2.2 h'.2.2⟩
theorem Cov.ext {N : Nat} {ln kd : Nat → Nat} {m m' : Nat → Int32} {x : Int32} (h : Cov N ln kd m x) (q : ∀ a, m a = 2 → m' a = 2) : Cov N ln kd m' x := fun e he => q _ (h e he)
theorem BI.c85 {w : Nat → Int32} {N : Nat} {ln kd : Nat → Nat} {m f : Nat → Int32} {c : Nat} (h : BI w N ln kd m c f) : c ≤ N := by
  rw [h.2.2.1]; exact cntP_le _ _
theorem BI.hit {w : Nat → Int32} {N : Nat} {ln kd : Nat → Nat} (hp : HP w N ln kd) {m f : Nat → Int32} {c : Nat} (h : BI w N ln kd m c f) {a : Nat} (ha : Hit m a) (hr : ∀ e, Usd N ln kd e (nI a) → RS w N ln kd e) :
    BI w N ln kd (upd m a 2) (c + 1) (upd f c (nI a)) ∧ Ext m c f (upd m a 2) (c + 1) (upd f c (nI a)) ∧ Cov N ln kd (upd m a 2) (nI a) := by
  obtain ⟨h1, h2, h3, h4, h5⟩ := h
  obtain ⟨a1, a2, a3⟩ := ha
  obtain ⟨j, j1, j2, j3⟩ := h1 a (by omega) (by rw [a3]; decide)
  have up : ∀ b, m b = 2 → upd m a 2 b = 2 := fun b hb => by
    by_cases e : b = a
    · rw [e, upd_s]
    · rw [upd_n _ _ e]; exact hb
  have iff : ∀ i, i < N → (upd m a 2 (pos ln i + 1) = 2 ↔ (m (pos ln i + 1) = 2 ∨ i = j)) := by
    intro i hi
    by_cases e : i = j
    · subst e
      rw [← j3, upd_s]
      exact ⟨fun _ => Or.inr rfl, fun _ => rfl⟩
    · rw [upd_n _ _ (by rw [j3]; intro z; exact e (hp.inj hi j1 (by omega)))]
      exact ⟨Or.inl, fun z => z.elim id (fun z => absurd z e)⟩
  have hj : ¬ m (pos ln j + 1) = 2 := by rw [← j3, a3]; decide
  refine ⟨⟨fun b hb hm => ?_, fun i hi hk => ?_, ?_, fun k hk => ?_, fun e he hm => ?_⟩, ⟨up, fun k hk => upd_n _ _ (by omega), Nat.le_succ c⟩, fun e he => ?_⟩
  · by_cases e : b = a
    · exact ⟨j, j1, j2, e.trans j3⟩
    · rw [upd_n _ _ e] at hm; exact h1 b hb hm
  · rcases h2 i hi hk with z | z
    · by_cases e : pos ln i + 1 = a
      · right; rw [e, upd_s]
      · left; rw [upd_n _ _ e]; exact z
    · exact Or.inr (up _ z)
  · rw [cntP_cong iff, cntP_add hj j1, ← h3]
  · rcases Nat.lt_or_ge k c with z | z
    · obtain ⟨e, e1, e2, e3⟩ := h4 k z
      exact ⟨e, e1, by rw [upd_n _ _ (by omega)]; exact e2, up _ e3⟩
    · obtain rfl : k = c := by omega
      exact ⟨j, j1, by rw [upd_s, j3], by rw [← j3, upd_s]⟩
  · rcases (iff e he).mp hm with z | z
    · obtain ⟨q1, k, q2, q3⟩ := h5 e he z
      exact ⟨q1, k, by omega, by rw [upd_n _ _ (by omega)]; exact q3⟩
    · subst z
      exact ⟨hr e ⟨j1, j2, by rw [j3]⟩, c, by omega, by rw [upd_s, j3]⟩
  · have : e = j := Us.uniq hp he.1 j1 he.2.2 (by rw [j3])
    rw [this, ← j3, upd_s]
theorem BI.miss {w : Nat → Int32} {N : Nat} {ln kd : Nat → Nat} (hp : HP w N ln kd) {m f : Nat → Int32} {c : Nat} (h : BI w N ln kd m c f) {x : Int32} (ha : ∀ a, x = nI a → ¬ Hit m a) : Cov N ln kd m x := by
  intro e he
  have g := hp.lt he.1
  rcases h.2.1 e he.1 he.2.1 with z | z
  · exact absurd ⟨by omega, by omega, z⟩ (ha _ he.2.2.symm)
  · exact z
def mi_X_searchFromRoots : MI := (b_X_searchFromRoots, 6, "RootedWords", some .int, 4, tbl_of 109 f_X_searchFromRoots, fl_X, [(82, (0, 1, ct_X_pointersAt)), (90, (1, 1, ct_D_word)), (168, (0, 0, ct_X_markUsed)), (171, (0, 2, ct_X_reach))], [])
theorem ok_X_searchFromRoots : MOK mi_X_searchFromRoots := ⟨tbl_ok k_X_searchFromRoots, flok_X rfl, List.forall_mem_cons.mpr ⟨okV 0 (by decide) s_X_pointersAt rfl (Nat.le_of_ble_eq_true rfl) (Nat.le_of_ble_eq_true rfl) (by decide +kernel) lk_X_82 vv_X_pointersAt, List.forall_mem_cons.mpr ⟨okV 1 (by decide) s_D_word rfl (Nat.le_of_ble_eq_true rfl) (Nat.le_of_ble_eq_true rfl) (by decide +kernel) lk_X_90 vv_D_word, List.forall_mem_cons.mpr ⟨okV 0 (by decide) s_X_markUsed rfl (Nat.le_of_ble_eq_true rfl) (Nat.le_of_ble_eq_true rfl) (by decide +kernel) lk_X_168 vv_X_markUsed, List.forall_mem_cons.mpr ⟨okV 0 (by decide) s_X_reach rfl (Nat.le_of_ble_eq_true rfl) (Nat.le_of_ble_eq_true rfl) (by decide +kernel) lk_X_171 vv_X_reach, (fun _ h => absurd h List.not_mem_nil)⟩⟩⟩⟩⟩
theorem si_X_searchFromRoots : ∀ q ∈ m_tr mi_X_searchFromRoots, SiteF mi_X_searchFromRoots q := (fun _ h => absurd h List.not_mem_nil)
theorem c_X_search_in {w : Nat → Int32} {N : Nat} {ln kd : Nat → Nat} (hp : HP w N ln kd) {σ : Mem} (hw : σ 2 = w) {e : Nat} (he : e < N) (hk : kd e ≠ 0) (hrs : RS w N ln kd e) (k : Nat) : ∀ (n i : Nat) (m : Nat → Int32) (c : Nat) (f : Nat → Int32), i + n + 1 = kd e → BI w N ln kd m c f → (∀ i', i' < i → Cov N ln kd m (w (pos ln e + 1 + i'))) →
    ∃ (m' : Nat → Int32) (c' : Nat) (f' : Nat → Int32), BI w N ln kd m' c' f' ∧ Ext m c f m' c' f' ∧ (∀ i', i' + 1 < kd e → Cov N ln kd m' (w (pos ln e + 1 + i'))) ∧ ∀ (X : CT) (oc : OC), CxO X mi_X_searchFromRoots oc →
      (∀ a3 a4 a5, Go X mi_X_searchFromRoots 40 [some (.inr (.inl 0)), some (.inl (nI c')), some (.inl (nI (k + 1))), a3, a4, a5] [] (sm σ m' f')) →
      Go X mi_X_searchFromRoots 71 [some (.inr (.inl 0)), some (.inl (nI c)), some (.inl (nI k)), some (.inl (nI (pos ln e + 1))), some (.inl (nI (kd e - 1))), some (.inl (nI i))] [] (sm σ m f) := by
  have g := hp.lt he
  have gk := hp.kdl he
  have ge := hp.end he
  have e1 : nI k + nI 1 = nI (k + 1) := nI_add k 1
  intro n
  induction n with
  | zero =>
    intro i m c f hi hB hC
    refine ⟨m, c, f, hB, Ext.rf, fun i' hi' => hC i' (by omega), fun X oc hX hG => ?_⟩
    obtain rfl : i = kd e - 1 := by omega
    refine Go_run ok_X_searchFromRoots hX [40] 60 (fun K R1 T1 hK hR hT => ?_)
    conv => whnf
    refine ⟨fun _ => ?_, fun h1 => absurd (nI_le (Nat.le_refl _) (by omega)) h1⟩
    conv => whnf
    refine hK _ _ _ _ ?_
    have h9 := hG (some (.inl (nI (pos ln e + 1)))) (some (.inl (nI (kd e - 1)))) (some (.inl (nI (kd e - 1))))
    rw [← e1] at h9
    exact h9
  | succ n ih =>
    intro i m c f hi hB hC
    have hc := hB.c85
    have hN := hp.N85
    have e2 : nI (pos ln e + 1) + nI i = nI (pos ln e + 1 + i) := nI_add _ _
    have e3 : nI i + nI 1 = nI (i + 1) := nI_add i 1
    have hx : ∀ e', Usd N ln kd e' (w (pos ln e + 1 + i)) → RS w N ln kd e' := fun e' h' => hrs.step he (by omega) h'
    have hw2 : sm σ m f 2 = w := by rw [sm_ne _ _ _ _ (by decide) (by decide)]; exact hw
    by_cases q : ∃ a, w (pos ln e + 1 + i) = nI a ∧ Hit m a
    · obtain ⟨a, qa, qh⟩ := q
      obtain ⟨b1, b2, b3⟩ := hB.hit hp qh (fun e' h' => hx e' (by rw [qa]; exact h'))
      obtain ⟨m', c', f', r1, r2, r3, r4⟩ := ih (i + 1) _ _ _ (by omega) b1 (fun i' hi' => by
        rcases Nat.lt_or_ge i' i with z | z
        · exact (hC i' z).ext b2.1
        · obtain rfl : i' = i := by omega
          rw [qa]; exact b3)
      refine ⟨m', c', f', r1, b2.tr r2, r3, fun X oc hX hG => ?_⟩
      have hG2 := r4 X oc hX hG
      refine Go_run ok_X_searchFromRoots hX [71] 60 (fun K R1 T1 hK hR hT => ?_)
      conv => whnf
      refine ⟨fun h2 => absurd h2 (nI_ge (by omega) (by omega)), fun _ => ?_⟩
      conv => whnf
      rw [e2]
      refine ⟨vp_in_nI (by omega) (by decide), ?_⟩
      rw [nI_clamp (by omega), hw2]
      conv => whnf
      refine ⟨_, c, rfl, by omega, fun a' h1 h2 => ?_, fun h1 => absurd qh (by have := h1 a qa; rw [sm_5] at this; exact this)⟩
      have : a' = a := nI_inj (by have := h2.2.1; omega) (by have := qh.2.1; omega) (h1.symm.trans qa)
      subst this
      conv => whnf
      refine hK _ _ _ _ ?_
      show Go X mi_X_searchFromRoots 71 [some (.inr (.inl 0)), some (.inl (nI (c + 1))), some (.inl (nI k)), some (.inl (nI (pos ln e + 1))), some (.inl (nI (kd e - 1))), some (.inl (nI i + nI 1))] [] (st (st (sm σ m f) 5 a' 2) 6 c (nI a'))
      rw [e3, sm_upd]
      exact hG2
    · have hm : ∀ a, w (pos ln e + 1 + i) = nI a → ¬ Hit m a := fun a h1 h2 => q ⟨a, h1, h2⟩
      obtain ⟨m', c', f', r1, r2, r3, r4⟩ := ih (i + 1) m c f (by omega) hB (fun i' hi' => by
        rcases Nat.lt_or_ge i' i with z | z
        · exact hC i' z
        · obtain rfl : i' = i := by omega
          exact hB.miss hp hm)
      refine ⟨m', c', f', r1, r2, r3, fun X oc hX hG => ?_⟩
      have hG2 := r4 X oc hX hG
      refine Go_run ok_X_searchFromRoots hX [71] 60 (fun K R1 T1 hK hR hT => ?_)
      conv => whnf
      refine ⟨fun h2 => absurd h2 (nI_ge (by omega) (by omega)), fun _ => ?_⟩
      conv => whnf
      rw [e2]
      refine ⟨vp_in_nI (by omega) (by decide), ?_⟩
      rw [nI_clamp (by omega), hw2]
      conv => whnf
      refine ⟨_, c, rfl, by omega, fun a' h1 h2 => absurd h2 (by rw [sm_5]; exact hm a' h1), fun _ => ?_⟩
      conv => whnf
      refine hK _ _ _ _ ?_
      show Go X mi_X_searchFromRoots 71 [some (.inr (.inl 0)), some (.inl (nI c)), some (.inl (nI k)), some (.inl (nI (pos ln e + 1))), some (.inl (nI (kd e - 1))), some (.inl (nI i + nI 1))] [] (sm σ m f)
      rw [e3]
      exact hG2
/-- all that is reached is marked, and nothing else -/
def FP (w : Nat → Int32) (N : Nat) (ln kd : Nat → Nat) (m : Nat → Int32) : Prop := ∀ e, e < N → (m (pos ln e + 1) = 2 ↔ RS w N ln kd e)
theorem c_X_search_out {w : Nat → Int32} {N : Nat} {ln kd : Nat → Nat} (hp : HP w N ln kd) {σ : Mem} (hw : σ 2 = w) : ∀ (n k : Nat) (m : Nat → Int32) (c : Nat) (f : Nat → Int32), k + n = 86 → k ≤ c → BI w N ln kd m c f → (∀ r, r < 8 → Cov N ln kd m (w (257 + r))) →
    (∀ k', k' < k → ∀ e, e < N → f k' = nI (pos ln e + 1) → ∀ i, i + 1 < kd e → Cov N ln kd m (w (pos ln e + 1 + i))) →
    ∃ (m' : Nat → Int32) (c' : Nat) (f' : Nat → Int32), BI w N ln kd m' c' f' ∧ FP w N ln kd m' ∧ ∀ (X : CT) (oc : OC), CxO X mi_X_searchFromRoots oc → oc = .inl (some (.inl (nI c')), sm σ m' f') →
      ∀ a3 a4 a5, Go X mi_X_searchFromRoots 40 [some (.inr (.inl 0)), some (.inl (nI c)), some (.inl (nI k)), a3, a4, a5] [] (sm σ m f) := by
  have hN := hp.N85
  intro n
  induction n with
  | zero =>
    intro k m c f hn hk hB
    have := hB.c85
    omega
  | succ n ih =>
    intro k m c f hn hk hB hR8 hPr
    have hc := hB.c85
    rcases Nat.lt_or_ge k c with z | z
    · obtain ⟨e, e1, e2, e3⟩ := hB.2.2.2.1 k z
      obtain ⟨q1, -⟩ := hB.2.2.2.2 e e1 e3
      have hkd := q1.used.2
      have g := hp.lt e1
      have g3 := hp.ln3 e1
      have gk := hp.kdl e1
      obtain ⟨m1, c1, f1, r1, r2, r3, r4⟩ := c_X_search_in hp hw e1 hkd q1 k (kd e - 1) 0 m c f (by omega) hB (fun i' hi' => absurd hi' (Nat.not_lt_zero _))
      obtain ⟨m', c', f', s1, s2, s3⟩ := ih (k + 1) m1 c1 f1 (by omega) (by have := r2.2.2; omega) r1 (fun r hr => (hR8 r hr).ext r2.1) (fun k' hk' e' he' hf' i hi => by
        rcases Nat.lt_or_ge k' k with y | y
        · rw [r2.2.1 k' (by omega)] at hf'
          exact (hPr k' y e' he' hf' i hi).ext r2.1
        · obtain rfl : k' = k := by omega
          rw [r2.2.1 k' (by omega), e2] at hf'
          have : e = e' := Us.uniq hp e1 he' hf' rfl
          subst this
          exact r3 i hi)
      refine ⟨m', c', f', s1, s2, fun X oc hX ho a3 a4 a5 => ?_⟩
      have hG := r4 X oc hX (s3 X oc hX ho)
      have hw2 : sm σ m f 2 = w := by rw [sm_ne _ _ _ _ (by decide) (by decide)]; exact hw
      refine Go_run ok_X_searchFromRoots hX [71] 60 (fun K R1 T1 hK hR hT => ?_)
      conv => whnf
      refine ⟨fun h2 => absurd h2 (nI_ge z (by omega)), fun _ => ?_⟩
      conv => whnf
      refine ⟨fun h2 => absurd h2 (nI_ge (by omega) (by decide)), fun _ => ?_⟩
      conv => whnf
      refine ⟨vp_in_nI (by omega) (by decide), ?_⟩
      rw [nI_clamp (by omega), sm_6, e2]
      conv => whnf
      refine ⟨pos ln e, ln e, kd e, congrArg (fun x => [(.inl x : AV)]) (nI_pred (pos ln e)), by rw [hw2]; exact tg_of hp e1, by omega, ?_⟩
      conv => whnf
      exact hK _ _ _ _ hG
    · obtain rfl : k = c := by omega
      refine ⟨m, k, f, hB, fun e he => ⟨fun h => (hB.2.2.2.2 e he h).1, fun h => ?_⟩, fun X oc hX ho a3 a4 a5 => ?_⟩
      · have h1 := h (fun e => e < N ∧ m (pos ln e + 1) = 2) (fun r hr j hj => ⟨hj.1, hR8 r hr j hj⟩) (fun j hj hjN i hi j' hj' => by
          obtain ⟨-, k', hk', hf'⟩ := hB.2.2.2.2 j hjN hj.2
          exact ⟨hj'.1, hPr k' hk' j hjN hf' i hi j' hj'⟩)
        exact h1.2
      · refine Go_run ok_X_searchFromRoots hX [71] 60 (fun K R1 T1 hK hR hT => ?_)
        conv => whnf
        refine ⟨fun _ => ?_, fun h2 => absurd (nI_le (Nat.le_refl _) (by omega)) h2⟩
        conv => whnf
        exact hR _ _ ho
theorem c_X_search_roots {w : Nat → Int32} {N : Nat} {ln kd : Nat → Nat} (hp : HP w N ln kd) {σ : Mem} (hw : σ 2 = w) : ∀ (n r : Nat) (m : Nat → Int32) (c : Nat) (f : Nat → Int32), r + n = 8 → BI w N ln kd m c f → (∀ r', r' < r → Cov N ln kd m (w (257 + r'))) →
    ∃ (m' : Nat → Int32) (c' : Nat) (f' : Nat → Int32), BI w N ln kd m' c' f' ∧ FP w N ln kd m' ∧ ∀ (X : CT) (oc : OC), CxO X mi_X_searchFromRoots oc → oc = .inl (some (.inl (nI c')), sm σ m' f') →
      Go X mi_X_searchFromRoots 8 [some (.inr (.inl 0)), some (.inl (nI c)), some (.inl (nI r)), none, none, none] [] (sm σ m f) := by
  have hN := hp.N85
  intro n
  induction n with
  | zero =>
    intro r m c f hr hB hC
    obtain rfl : r = 8 := by omega
    obtain ⟨m', c', f', s1, s2, s3⟩ := c_X_search_out hp hw 86 0 m c f (by omega) (Nat.zero_le _) hB hC (fun k' hk' => absurd hk' (Nat.not_lt_zero _))
    refine ⟨m', c', f', s1, s2, fun X oc hX ho => ?_⟩
    have hG := s3 X oc hX ho none none none
    refine Go_run ok_X_searchFromRoots hX [40] 60 (fun K R1 T1 hK hR hT => ?_)
    conv => whnf
    refine ⟨fun _ => ?_, fun h1 => absurd (nI_le (Nat.le_refl _) (by omega)) h1⟩
    conv => whnf
    exact hK _ _ _ _ hG
  | succ n ih =>
    intro r m c f hr hB hC
    have hc := hB.c85
    have e2 : nI 257 + nI r = nI (257 + r) := nI_add _ _
    have e3 : nI r + nI 1 = nI (r + 1) := nI_add r 1
    have hx : ∀ e', Usd N ln kd e' (w (257 + r)) → RS w N ln kd e' := fun e' h' => RS.root (by omega) h'
    have hw2 : sm σ m f 2 = w := by rw [sm_ne _ _ _ _ (by decide) (by decide)]; exact hw
    by_cases q : ∃ a, w (257 + r) = nI a ∧ Hit m a
    · obtain ⟨a, qa, qh⟩ := q
      obtain ⟨b1, b2, b3⟩ := hB.hit hp qh (fun e' h' => hx e' (by rw [qa]; exact h'))
      obtain ⟨m', c', f', r1, r2, r4⟩ := ih (r + 1) _ _ _ (by omega) b1 (fun i' hi' => by
        rcases Nat.lt_or_ge i' r with z | z
        · exact (hC i' z).ext b2.1
        · obtain rfl : i' = r := by omega
          rw [qa]; exact b3)
      refine ⟨m', c', f', r1, r2, fun X oc hX ho => ?_⟩
      have hG2 := r4 X oc hX ho
      refine Go_run ok_X_searchFromRoots hX [8] 60 (fun K R1 T1 hK hR hT => ?_)
      conv => whnf
      refine ⟨fun h2 => absurd h2 (nI_ge (by omega) (by omega)), fun _ => ?_⟩
      conv => whnf
      rw [e2]
      refine ⟨vp_in_nI (by omega) (by decide), ?_⟩
      rw [nI_clamp (by omega), hw2]
      conv => whnf
      refine ⟨_, c, rfl, by omega, fun a' h1 h2 => ?_, fun h1 => absurd qh (by have := h1 a qa; rw [sm_5] at this; exact this)⟩
      have : a' = a := nI_inj (by have := h2.2.1; omega) (by have := qh.2.1; omega) (h1.symm.trans qa)
      subst this
      conv => whnf
      refine hK _ _ _ _ ?_
      show Go X mi_X_searchFromRoots 8 [some (.inr (.inl 0)), some (.inl (nI (c + 1))), some (.inl (nI r + nI 1)), none, none, none] [] (st (st (sm σ m f) 5 a' 2) 6 c (nI a'))
      rw [e3, sm_upd]
      exact hG2
    · have hm : ∀ a, w (257 + r) = nI a → ¬ Hit m a := fun a h1 h2 => q ⟨a, h1, h2⟩
      obtain ⟨m', c', f', r1, r2, r4⟩ := ih (r + 1) m c f (by omega) hB (fun i' hi' => by
        rcases Nat.lt_or_ge i' r with z | z
        · exact hC i' z
        · obtain rfl : i' = r := by omega
          exact hB.miss hp hm)
      refine ⟨m', c', f', r1, r2, fun X oc hX ho => ?_⟩
      have hG2 := r4 X oc hX ho
      refine Go_run ok_X_searchFromRoots hX [8] 60 (fun K R1 T1 hK hR hT => ?_)
      conv => whnf
      refine ⟨fun h2 => absurd h2 (nI_ge (by omega) (by omega)), fun _ => ?_⟩
      conv => whnf
      rw [e2]
      refine ⟨vp_in_nI (by omega) (by decide), ?_⟩
      rw [nI_clamp (by omega), hw2]
      conv => whnf
      refine ⟨_, c, rfl, by omega, fun a' h1 h2 => absurd h2 (by rw [sm_5]; exact hm a' h1), fun _ => ?_⟩
      conv => whnf
      refine hK _ _ _ _ ?_
      show Go X mi_X_searchFromRoots 8 [some (.inr (.inl 0)), some (.inl (nI c)), some (.inl (nI r + nI 1)), none, none, none] [] (sm σ m f)
      rw [e3]
      exact hG2
theorem BI.start {σ : Mem} {N : Nat} {ln kd : Nat → Nat} (hp : HP (σ 2) N ln kd) (f : Nat → Int32) : BI (σ 2) N ln kd (muF (c0F (σ 5)) ln kd N) 0 f := by
  have hs := fun a ha => muF_spec (f := c0F (σ 5)) hp (fun a ha => fl0_in ha) N (Nat.le_refl N) a ha
  have h2 : ∀ a, a < 258 → ¬ muF (c0F (σ 5)) ln kd N a = 2 := fun a ha => by
    rcases hs a ha with ⟨h, -⟩ | ⟨h, -⟩ <;> rw [h] <;> decide
  refine ⟨fun a ha hm => ?_, fun j hj hk => ?_, (cntP_0 fun j hj => h2 _ (by have := hp.lt hj; omega)).symm, fun k hk => absurd hk (Nat.not_lt_zero _), fun e he hm => absurd hm (h2 _ (by have := hp.lt he; omega))⟩
  · rcases hs a ha with ⟨-, h⟩ | ⟨h, -⟩
    · exact h
    · exact absurd h hm
  · rcases hs (pos ln j + 1) (by have := hp.lt hj; omega) with ⟨h, -⟩ | ⟨-, h⟩
    · exact Or.inl h
    · exact absurd rfl (h j hj hk)
theorem c_X_searchFromRoots (σ : Mem) (N : Nat) (ln kd : Nat → Nat) (h : HP (σ 2) N ln kd) : ∃ (m f : Nat → Int32), FP (σ 2) N ln kd m ∧ MetO y_X_searchFromRoots mi_X_searchFromRoots [.inr (.inl 0)] σ (.inl (some (.inl (nI (cntP (RS (σ 2) N ln kd) N))), sm (muM σ N ln kd) m f)) := by
  have e6 : sm (muM σ N ln kd) (muF (c0F (σ 5)) ln kd N) (muM σ N ln kd 6) = muM σ N ln kd := by
    have e5 : muF (c0F (σ 5)) ln kd N = muM σ N ln kd 5 := by unfold muM; rw [stA_self]
    unfold sm
    rw [e5, stA_id, stA_id]
  obtain ⟨m, c, f, h1, h2, h3⟩ := c_X_search_roots h (σ := muM σ N ln kd) (w := σ 2) rfl 8 0 _ 0 (muM σ N ln kd 6) (by omega) (BI.start h _) (fun r' hr' => absurd hr' (Nat.not_lt_zero _))
  refine ⟨m, f, h2, ?_⟩
  have hc : c = cntP (RS (σ 2) N ln kd) N := by rw [h1.2.2.1]; exact cntP_cong fun j hj => h2 j hj
  refine met_go ok_X_searchFromRoots ⟨rfl, rfl⟩ si_X_searchFromRoots (Nat.le_of_ble_eq_true rfl) ⟨trivial, trivial⟩ [8] 60 (fun X hX K R1 T1 hK hR hT => ?_)
  conv => whnf
  refine ⟨N, ln, kd, h, ?_⟩
  conv => whnf
  refine hK _ _ _ _ ?_
  have h9 := h3 X _ hX (by rw [hc])
  rw [e6] at h9
  exact h9
/-- the memory behind the search: one that its contract names -/
theorem sr_ex (σ : Mem) (N : Nat) (ln kd : Nat → Nat) : ∃ τ : Mem, HP (σ 2) N ln kd → (∃ m f, FP (σ 2) N ln kd m ∧ τ = sm (muM σ N ln kd) m f) ∧ MetO y_X_searchFromRoots mi_X_searchFromRoots [.inr (.inl 0)] σ (.inl (some (.inl (nI (cntP (RS (σ 2) N ln kd) N))), τ)) := by
  by_cases h : HP (σ 2) N ln kd
  · obtain ⟨m, f, h1, h2⟩ := c_X_searchFromRoots σ N ln kd h
    exact ⟨_, fun _ => ⟨⟨m, f, h1, rfl⟩, h2⟩⟩
  · exact ⟨σ, fun z => absurd z h⟩
noncomputable def srM (σ : Mem) (N : Nat) (ln kd : Nat → Nat) : Mem := Classical.choose (sr_ex σ N ln kd)
theorem srM_spec {σ : Mem} {N : Nat} {ln kd : Nat → Nat} (h : HP (σ 2) N ln kd) : ∃ m f, FP (σ 2) N ln kd m ∧ srM σ N ln kd = sm (muM σ N ln kd) m f := (Classical.choose_spec (sr_ex σ N ln kd) h).1
theorem srM_ne {σ : Mem} {N : Nat} {ln kd : Nat → Nat} (h : HP (σ 2) N ln kd) (a : Nat) (h4 : a ≠ 4) (h5 : a ≠ 5) (h6 : a ≠ 6) : srM σ N ln kd a = σ a := by
  obtain ⟨m, f, -, e⟩ := srM_spec h
  rw [e, sm_ne _ _ _ _ h5 h6]
  unfold muM
  rw [stA_ne _ _ h5, lsF_ne _ _ _ _ h4]
theorem srM_5 {σ : Mem} {N : Nat} {ln kd : Nat → Nat} (h : HP (σ 2) N ln kd) : FP (σ 2) N ln kd (srM σ N ln kd 5) := by
  obtain ⟨m, f, h1, e⟩ := srM_spec h
  rw [e, sm_5]
  exact h1
def ct_X_searchFromRoots : CTy := fun as σ KN _ => match as with
  | [] => ∃ N ln kd, HP (σ 2) N ln kd ∧ KN (some (.inl (nI (cntP (RS (σ 2) N ln kd) N)))) (srM σ N ln kd)
  | _ => False
theorem s_X_searchFromRoots : Snd y_X_searchFromRoots mi_X_searchFromRoots 0 0 ct_X_searchFromRoots := by
  intro as σ KN KX _ hf
  match as, hf with
  | [], ⟨N, ln, kd, h, hf⟩ => exact ⟨.inl (_, _), hf, (Classical.choose_spec (sr_ex σ N ln kd) h).2⟩
