/-! ===== the search from the roots ===== -/
/-- the used extent with an address -/
def Usd (N : Nat) (ln kd : Nat → Nat) (j : Nat) (a : Int32) : Prop := j < N ∧ kd j ≠ 0 ∧ nI (pos ln j + 1) = a
/-- what is reached: the least set with the roots' extents, closed under their pointers -/
def RS (w : Nat → Int32) (N : Nat) (ln kd : Nat → Nat) (e : Nat) : Prop := ∀ P : Nat → Prop, (∀ r, r < 8 → ∀ j, Usd N ln kd j (w (257 + r)) → P j) → (∀ j, P j → j < N → ∀ i, i + 1 < kd j → ∀ j', Usd N ln kd j' (w (pos ln j + 1 + i)) → P j') → P e
theorem RS.root {w : Nat → Int32} {N : Nat} {ln kd : Nat → Nat} {r j : Nat} (hr : r < 8) (h : Usd N ln kd j (w (257 + r))) : RS w N ln kd j := fun _ h1 _ => h1 r hr j h
theorem RS.step {w : Nat → Int32} {N : Nat} {ln kd : Nat → Nat} {j i j' : Nat} (h : RS w N ln kd j) (hj : j < N) (hi : i + 1 < kd j) (h' : Usd N ln kd j' (w (pos ln j + 1 + i))) : RS w N ln kd j' := fun P h1 h2 => h2 j (h P h1 h2) hj i hi j' h'
theorem RS.used {w : Nat → Int32} {N : Nat} {ln kd : Nat → Nat} {e : Nat} (h : RS w N ln kd e) : e < N ∧ kd e ≠ 0 := h (fun e => e < N ∧ kd e ≠ 0) (fun _ _ _ h => ⟨h.1, h.2.1⟩) (fun _ _ _ _ _ _ h => ⟨h.1, h.2.1⟩)
theorem Usd.uniq {w : Nat → Int32} {N : Nat} {ln kd : Nat → Nat} (h : HP w N ln kd) {i j : Nat} {a : Int32} (h1 : Usd N ln kd i a) (h2 : Usd N ln kd j a) : i = j := Us.uniq h h1.1 h2.1 h1.2.2 h2.2.2
/-- how many below n are such -/
noncomputable def cntP (P : Nat → Prop) : Nat → Nat
  | 0 => 0
  | n + 1 => cntP P n + @ite Nat (P n) (Classical.propDecidable _) 1 0
theorem cntP_le (P : Nat → Prop) : ∀ n, cntP P n ≤ n
  | 0 => Nat.le_refl _
  | n + 1 => by
    have h := cntP_le P n
    show cntP P n + @ite Nat (P n) (Classical.propDecidable _) 1 0 ≤ n + 1
    by_cases q : P n
    · rw [if_pos q]; omega
    · rw [if_neg q]; omega
theorem cntP_cong {P Q : Nat → Prop} : ∀ {n : Nat}, (∀ j, j < n → (P j ↔ Q j)) → cntP P n = cntP Q n
  | 0, _ => rfl
  | n + 1, h => by
    have h1 := cntP_cong (P := P) (Q := Q) (n := n) (fun j hj => h j (by omega))
    show cntP P n + @ite Nat (P n) (Classical.propDecidable _) 1 0 = cntP Q n + @ite Nat (Q n) (Classical.propDecidable _) 1 0
    rw [h1]
    by_cases q : P n
    · rw [if_pos q, if_pos ((h n (by omega)).mp q)]
    · rw [if_neg q, if_neg (fun z => q ((h n (by omega)).mpr z))]
theorem cntP_add {P : Nat → Prop} {j : Nat} (hj : ¬ P j) : ∀ {n : Nat}, j < n → cntP (fun i => P i ∨ i = j) n = cntP P n + 1
  | 0, h => absurd h (Nat.not_lt_zero j)
  | n + 1, h => by
    show cntP (fun i => P i ∨ i = j) n + @ite Nat (P n ∨ n = j) (Classical.propDecidable _) 1 0 = cntP P n + @ite Nat (P n) (Classical.propDecidable _) 1 0 + 1
    rcases Nat.lt_or_ge j n with q | q
    · rw [cntP_add hj q]
      by_cases z : P n
      · rw [if_pos (Or.inl z), if_pos z]
      · rw [if_neg (fun y => y.elim z (by omega)), if_neg z]
    · obtain rfl : j = n := by omega
      rw [if_pos (Or.inr rfl), if_neg hj, cntP_cong (P := fun i => P i ∨ i = j) (Q := P) (fun i hi => ⟨fun y => y.elim id (fun y => by omega), Or.inl⟩)]
theorem cntP_0 {P : Nat → Prop} : ∀ {n : Nat}, (∀ j, j < n → ¬ P j) → cntP P n = 0
  | 0, _ => rfl
  | n + 1, h => by
    show cntP P n + @ite Nat (P n) (Classical.propDecidable _) 1 0 = 0
    rw [if_neg (h n (by omega)), cntP_0 (fun j hj => h j (by omega))]
def mi_X_markUsed : MI := (b_X_markUsed, 3, "RootedWords", none, 3, tbl_of 70 f_X_markUsed, fl_X, [(72, (0, 1, ct_X_isFreeAt)), (105, (0, 0, ct_X_listExtents))], [])
theorem ok_X_markUsed : MOK mi_X_markUsed := ⟨tbl_ok k_X_markUsed, flok_X rfl, List.forall_mem_cons.mpr ⟨okV 0 (by decide) s_X_isFreeAt rfl (Nat.le_of_ble_eq_true rfl) (Nat.le_of_ble_eq_true rfl) (by decide +kernel) lk_X_72 vv_X_isFreeAt, List.forall_mem_cons.mpr ⟨okV 0 (by decide) s_X_listExtents rfl (Nat.le_of_ble_eq_true rfl) (Nat.le_of_ble_eq_true rfl) (by decide +kernel) lk_X_105 vv_X_listExtents, (fun _ h => absurd h List.not_mem_nil)⟩⟩⟩
theorem si_X_markUsed : ∀ q ∈ m_tr mi_X_markUsed, SiteF mi_X_markUsed q := (fun _ h => absurd h List.not_mem_nil)
def c0F (f : Nat → Int32) : Nat → Int32 := fl0 (fun _ => 0) f 258
def muF (f : Nat → Int32) (ln kd : Nat → Nat) : Nat → (Nat → Int32)
  | 0 => f
  | i + 1 => if kd i = 0 then muF f ln kd i else upd (muF f ln kd i) (pos ln i + 1) 1
def muM (σ : Mem) (N : Nat) (ln kd : Nat → Nat) : Mem := stA (lsF σ ln N) 5 (muF (c0F (σ 5)) ln kd N)
theorem c_X_markUsed_l2 {X : CT} {oc : OC} (hX : CxO X mi_X_markUsed oc) {σ : Mem} {N : Nat} {ln kd : Nat → Nat} (h : HP (σ 2) N ln kd) (ho : oc = .inl (none, muM σ N ln kd)) : ∀ (n i : Nat), i + n = N →
    Go X mi_X_markUsed 31 [some (.inr (.inl 0)), some (.inl (nI N)), some (.inl (nI i))] [] (stA (lsF σ ln N) 5 (muF (c0F (σ 5)) ln kd i)) := by
  intro n
  have hN := h.N85
  have hf : ∀ i j, j < N → (stA (lsF σ ln N) 5 (muF (c0F (σ 5)) ln kd i)) 4 j = nI (pos ln j) := fun i j hj => by
    rw [stA_ne _ _ (by decide)]; exact lsF_4 σ ln N j hj
  induction n with
  | zero =>
    intro i hi
    obtain rfl : i = N := by omega
    refine Go_run ok_X_markUsed hX [31] 60 (fun K R1 T1 hK hR hT => ?_)
    conv => whnf
    refine ⟨fun _ => ?_, fun h1 => absurd (nI_le (Nat.le_refl _) (by omega)) h1⟩
    conv => whnf
    exact hR _ _ ho
  | succ n ih =>
    intro i hi
    have hi' : i < N := by omega
    have g1 := h.lt hi'
    have e2 : nI i + nI 1 = nI (i + 1) := nI_add i 1
    have e3 : nI (pos ln i) + nI 1 = nI (pos ln i + 1) := nI_add _ _
    refine Go_run ok_X_markUsed hX [31] 60 (fun K R1 T1 hK hR hT => ?_)
    conv => whnf
    refine ⟨fun h2 => absurd h2 (nI_ge hi' (by omega)), fun _ => ?_⟩
    conv => whnf
    refine ⟨vp_in_nI (by omega) (by decide), ?_⟩
    rw [nI_clamp (by omega), hf i i hi']
    conv => whnf
    refine ⟨pos ln i, ln i, kd i, rfl, tg_of (w := σ 2) h hi', ?_⟩
    conv => whnf
    refine ⟨fun h3 => ?_, fun h3 => ?_⟩
    · conv => whnf
      refine hK _ _ _ _ ?_
      show Go X mi_X_markUsed 31 [some (.inr (.inl 0)), some (.inl (nI N)), some (.inl (nI i + nI 1))] [] _
      rw [e2]
      have h9 := ih (i + 1) (by omega)
      unfold muF at h9
      rw [if_pos (fr_0.mp h3)] at h9
      exact h9
    · conv => whnf
      refine ⟨vp_in_nI (by omega) (by decide), ?_⟩
      rw [nI_clamp (by omega), hf i i hi']
      conv => whnf
      rw [e3]
      refine ⟨vp_in_nI (by omega) (by decide), ?_⟩
      rw [nI_clamp (by omega)]
      conv => whnf
      refine hK _ _ _ _ ?_
      show Go X mi_X_markUsed 31 [some (.inr (.inl 0)), some (.inl (nI N)), some (.inl (nI i + nI 1))] [] (st (stA (lsF σ ln N) 5 (muF (c0F (σ 5)) ln kd i)) 5 (pos ln i + 1) (nI 1))
      rw [e2, st_stA, stA_stA, stA_self]
      have h9 := ih (i + 1) (by omega)
      unfold muF at h9
      rw [if_neg (fr_1.mp h3)] at h9
      exact h9
theorem c_X_markUsed_l1 {X : CT} {oc : OC} (hX : CxO X mi_X_markUsed oc) {σ : Mem} {N : Nat} {ln kd : Nat → Nat} (h : HP (σ 2) N ln kd) (ho : oc = .inl (none, muM σ N ln kd)) (x : Option AV) : ∀ (n i : Nat), i + n = 258 →
    Go X mi_X_markUsed 2 [some (.inr (.inl 0)), some (.inl (nI i)), x] [] (stA σ 5 (fl0 (fun _ => 0) (σ 5) i)) := by
  intro n
  induction n with
  | zero =>
    intro i hi
    obtain rfl : i = 258 := by omega
    refine Go_run ok_X_markUsed hX [31] 60 (fun K R1 T1 hK hR hT => ?_)
    conv => whnf
    refine ⟨fun _ => ?_, fun h1 => absurd (nI_le (Nat.le_refl _) (by decide)) h1⟩
    conv => whnf
    refine ⟨N, ln, kd, h, ?_⟩
    conv => whnf
    refine hK _ _ _ _ ?_
    have h9 := c_X_markUsed_l2 hX h ho N 0 (by omega)
    have e : stA (lsF σ ln N) 5 (muF (c0F (σ 5)) ln kd 0) = lsF (stA σ 5 (fl0 (fun _ => 0) (σ 5) 258)) ln N := by
      unfold lsF
      rw [stA_comm _ _ _ (by decide), stA_ne _ _ (by decide : (4 : Nat) ≠ 5)]
      rfl
    rw [e] at h9
    exact h9
  | succ n ih =>
    intro i hi
    have e2 : nI i + nI 1 = nI (i + 1) := nI_add i 1
    refine Go_run ok_X_markUsed hX [2] 60 (fun K R1 T1 hK hR hT => ?_)
    conv => whnf
    refine ⟨fun h2 => absurd h2 (nI_ge (by omega) (by decide)), fun _ => ?_⟩
    conv => whnf
    refine ⟨vp_in_nI (by omega) (by decide), ?_⟩
    rw [nI_clamp (by omega)]
    conv => whnf
    refine hK _ _ _ _ ?_
    show Go X mi_X_markUsed 2 [some (.inr (.inl 0)), some (.inl (nI i + nI 1)), x] [] (st (stA σ 5 (fl0 (fun _ => 0) (σ 5) i)) 5 i 0)
    rw [e2, st_stA, stA_stA, stA_self, fl0_s (fun _ => 0) (σ 5) i]
    exact ih (i + 1) (by omega)
theorem c_X_markUsed (σ : Mem) (N : Nat) (ln kd : Nat → Nat) (h : HP (σ 2) N ln kd) : MetO y_X_markUsed mi_X_markUsed [.inr (.inl 0)] σ (.inl (none, muM σ N ln kd)) := by
  refine met_go ok_X_markUsed ⟨rfl, rfl⟩ si_X_markUsed (Nat.le_of_ble_eq_true rfl) ⟨trivial, trivial⟩ [2] 60 (fun X hX K R1 T1 hK hR hT => ?_)
  conv => whnf
  refine hK _ _ _ _ ?_
  have h9 := c_X_markUsed_l1 hX h rfl none 258 0 (by omega)
  rw [fl0_0, stA_id] at h9
  exact h9
def ct_X_markUsed : CTy := fun as σ KN _ => match as with
  | [] => ∃ N ln kd, HP (σ 2) N ln kd ∧ KN none (muM σ N ln kd)
  | _ => False
theorem s_X_markUsed : Snd y_X_markUsed mi_X_markUsed 0 0 ct_X_markUsed := by
  intro as σ KN KX _ hf
  match as, hf with
  | [], ⟨N, ln, kd, h, hf⟩ => exact ⟨.inl (_, _), hf, c_X_markUsed σ N ln kd h⟩
/-- the marks behind it -/
theorem muF_spec {f : Nat → Int32} {w : Nat → Int32} {N : Nat} {ln kd : Nat → Nat} (h : HP w N ln kd) (hf : ∀ a, a < 258 → f a = 0) : ∀ n, n ≤ N → ∀ a, a < 258 → (muF f ln kd n a = 1 ∧ ∃ j, j < n ∧ kd j ≠ 0 ∧ a = pos ln j + 1) ∨ (muF f ln kd n a = 0 ∧ ∀ j, j < n → kd j ≠ 0 → a ≠ pos ln j + 1)
  | 0, _, a, ha => Or.inr ⟨hf a ha, fun j hj => absurd hj (Nat.not_lt_zero j)⟩
  | n + 1, hn, a, ha => by
    have ih := muF_spec h hf n (by omega) a ha
    unfold muF
    by_cases q : kd n = 0
    · rw [if_pos q]
      rcases ih with ⟨h1, j, h2, h3, h4⟩ | ⟨h1, h2⟩
      · exact Or.inl ⟨h1, j, by omega, h3, h4⟩
      · refine Or.inr ⟨h1, fun j hj hk => ?_⟩
        rcases Nat.lt_or_ge j n with z | z
        · exact h2 j z hk
        · obtain rfl : j = n := by omega
          exact absurd q hk
    · rw [if_neg q]
      by_cases e : a = pos ln n + 1
      · exact Or.inl ⟨by rw [e, upd_s], n, by omega, q, e⟩
      · rw [upd_n _ _ e]
        rcases ih with ⟨h1, j, h2, h3, h4⟩ | ⟨h1, h2⟩
        · exact Or.inl ⟨h1, j, by omega, h3, h4⟩
        · refine Or.inr ⟨h1, fun j hj hk => ?_⟩
          rcases Nat.lt_or_ge j n with z | z
          · exact h2 j z hk
          · obtain rfl : j = n := by omega
            exact e
def mi_X_reach : MI := (b_X_reach, 3, "RootedWords", some .int, 0, tbl_of 42 f_X_reach, fl_X, [], [])
theorem ok_X_reach : MOK mi_X_reach := ⟨tbl_ok k_X_reach, flok_X rfl, (fun _ h => absurd h List.not_mem_nil)⟩
theorem si_X_reach : ∀ q ∈ m_tr mi_X_reach, SiteF mi_X_reach q := (fun _ h => absurd h List.not_mem_nil)
def Hit (m : Nat → Int32) (a : Nat) : Prop := 1 ≤ a ∧ a ≤ 256 ∧ m a = 1
theorem c_X_reach_hit (a c : Nat) (hc : c < 257) (σ : Mem) (h : Hit (σ 5) a) : MetO y_X_reach mi_X_reach [.inr (.inl 0), .inl (nI a), .inl (nI c)] σ (.inl (some (.inl (nI (c + 1))), st (st σ 5 a 2) 6 c (nI a))) := by
  have e2 : nI c + nI 1 = nI (c + 1) := nI_add c 1
  have ha := h.2.1
  refine met_go ok_X_reach ⟨rfl, rfl⟩ si_X_reach (Nat.le_of_ble_eq_true rfl) ⟨trivial, trivial, trivial, trivial⟩ [] 60 (fun X hX K R1 T1 hK hR hT => ?_)
  conv => whnf
  refine ⟨fun h1 => absurd h1 (nI_nlt h.1 (by omega)), fun _ => ?_⟩
  conv => whnf
  refine ⟨fun h1 => absurd h1 (nI_nlt h.2.1 (by decide)), fun _ => ?_⟩
  conv => whnf
  refine ⟨vp_in_nI (by omega) (by decide), ?_⟩
  rw [nI_clamp (by omega)]
  conv => whnf
  refine ⟨fun _ => ?_, fun h1 => absurd h.2.2 h1⟩
  conv => whnf
  refine ⟨vp_in_nI (by omega) (by decide), ?_⟩
  rw [nI_clamp (by omega)]
  conv => whnf
  refine ⟨vp_in_nI (by omega) (by decide), ?_⟩
  rw [nI_clamp (by omega)]
  conv => whnf
  refine hR _ _ ?_
  rw [e2]; rfl
theorem c_X_reach_miss (x : Int32) (c : Nat) (σ : Mem) (h : ∀ a, x = nI a → ¬ Hit (σ 5) a) : MetO y_X_reach mi_X_reach [.inr (.inl 0), .inl x, .inl (nI c)] σ (.inl (some (.inl (nI c)), σ)) := by
  refine met_go ok_X_reach ⟨rfl, rfl⟩ si_X_reach (Nat.le_of_ble_eq_true rfl) ⟨trivial, trivial, trivial, trivial⟩ [] 60 (fun X hX K R1 T1 hK hR hT => ?_)
  conv => whnf
  refine ⟨fun h1 => ?_, fun h1 => ?_⟩
  · conv => whnf
    exact hR _ _ rfl
  conv => whnf
  refine ⟨fun h2 => ?_, fun h2 => ?_⟩
  · conv => whnf
    exact hR _ _ rfl
  obtain ⟨a, ha, e⟩ : ∃ a, a ≤ 256 ∧ x = nI a := by
    have h3 : ¬ x < 0 := fun z => h1 (by
      rw [Int32.lt_iff_toInt_lt] at z ⊢
      have : (nI 1).toInt = 1 := nI_toInt (by decide)
      rw [this]
      have : (0 : Int32).toInt = 0 := by decide
      omega)
    obtain ⟨a, ha, e⟩ := nI_of h3
    refine ⟨a, ?_, e⟩
    rw [e] at h2
    have := (not_congr (nI_ltI (by decide) ha)).mp h2
    omega
  subst e
  have h4 : 1 ≤ a := by
    have := (not_congr (nI_ltI (a := a) (b := 1) (by omega) (by decide))).mp h1
    omega
  conv => whnf
  refine ⟨vp_in_nI (by omega) (by decide), ?_⟩
  rw [nI_clamp (by omega)]
  conv => whnf
  refine ⟨fun h5 => absurd ⟨h4, ha, h5⟩ (h a rfl), fun _ => ?_⟩
  conv => whnf
  exact hR _ _ rfl
def ct_X_reach : CTy := fun as σ KN _ => ∃ x c, as = [.inl x, .inl (nI c)] ∧ c < 257 ∧ (∀ a, x = nI a → Hit (σ 5) a → KN (some (.inl (nI (c + 1)))) (st (st σ 5 a 2) 6 c (nI a))) ∧ ((∀ a, x = nI a → ¬ Hit (σ 5) a) → KN (some (.inl (nI c))) σ)
theorem s_X_reach : Snd y_X_reach mi_X_reach 0 2 ct_X_reach := by
  intro as σ KN KX _ ⟨x, c, e, hc, h1, h2⟩
  subst e
  by_cases q : ∃ a, x = nI a ∧ Hit (σ 5) a
  · obtain ⟨a, e, ha⟩ := q
    subst e
    exact ⟨.inl (_, _), h1 a rfl ha, c_X_reach_hit a c hc σ ha⟩
  · exact ⟨.inl (_, _), h2 (fun a e h => q ⟨a, e, h⟩), c_X_reach_miss x c σ (fun a e h => q ⟨a, e, h⟩)⟩
