/-! ===== the reference: its arrays as a heap ===== -/
def HL (N : Nat) (ln kd : Nat → Nat) : Prop := pos ln N = 257 ∧ ∀ i, i < N → 3 ≤ ln i ∧ kd i + 1 ≤ ln i
theorem HP.hl {w : Nat → Int32} {N : Nat} {ln kd : Nat → Nat} (h : HP w N ln kd) : HL N ln kd := ⟨h.1, fun i hi => ⟨h.ln3 hi, h.kdl hi⟩⟩
section HL
variable {N : Nat} {ln kd : Nat → Nat}
theorem HL.ln3 (h : HL N ln kd) {i : Nat} (hi : i < N) : 3 ≤ ln i := (h.2 i hi).1
theorem HL.kdl (h : HL N ln kd) {i : Nat} (hi : i < N) : kd i + 1 ≤ ln i := (h.2 i hi).2
theorem HL.end (h : HL N ln kd) {i : Nat} (hi : i < N) : pos ln i + ln i ≤ 257 := by
  have h1 := pos_mono (ln := ln) (i := i + 1) (j := N) hi
  rw [h.1] at h1
  exact h1
theorem HL.N85 (h : HL N ln kd) : N ≤ 85 := by
  have h1 := pos_lo (ln := ln) (fun i hi => h.ln3 hi) N (Nat.le_refl N)
  rw [h.1] at h1
  omega
theorem HL.pos1 (h : HL N ln kd) : 1 ≤ N := by
  rcases Nat.eq_zero_or_pos N with q | q
  · have h1 := h.1
    rw [q] at h1
    exact absurd h1 (by show ¬ 1 = 257; decide)
  · exact q
theorem HL.lt (h : HL N ln kd) {i : Nat} (hi : i < N) : pos ln i ≤ 254 ∧ pos ln i + 1 < 257 ∧ ln i ≤ 256 ∧ kd i < 256 ∧ 1 ≤ pos ln i := by
  have h1 := h.end hi
  have h2 := h.ln3 hi
  have h3 := h.kdl hi
  have h4 := pos_pos ln i
  omega
theorem HL.sep (h : HL N ln kd) {i j : Nat} (hi : i < N) (q : i < j) : pos ln i + ln i ≤ pos ln j := pos_mono (ln := ln) (i := i + 1) (j := j) q
theorem HL.inj (h : HL N ln kd) {i j : Nat} (hi : i < N) (hj : j < N) (e : pos ln i = pos ln j) : i = j := by
  rcases Nat.lt_trichotomy i j with q | q | q
  · have h1 := h.sep hi q
    have h2 := h.ln3 hi
    omega
  · exact q
  · have h1 := h.sep hj q
    have h2 := h.ln3 hj
    omega
theorem HL.uniq (h : HL N ln kd) {i j : Nat} {a : Int32} (h1 : Usd N ln kd i a) (h2 : Usd N ln kd j a) : i = j := by
  have g1 := h.lt h1.1
  have g2 := h.lt h2.1
  have h3 := nI_inj (a := pos ln i + 1) (b := pos ln j + 1) (by omega) (by omega) (h1.2.2.trans h2.2.2.symm)
  exact h.inj h1.1 h2.1 (by omega)
end HL
def ub (k : Nat) : Int32 := if k = 0 then 0 else 1
theorem ub_0 {k : Nat} : ub k = 0 ↔ k = 0 := by
  unfold ub
  by_cases h : k = 0
  · rw [if_pos h]; exact ⟨fun _ => h, fun _ => rfl⟩
  · rw [if_neg h]; exact ⟨fun z => absurd z (by decide), fun z => absurd z h⟩
theorem ub_bl (k : Nat) : bl (ub k) := by
  unfold ub bl
  split
  · exact Or.inl rfl
  · exact Or.inr rfl
def MP (τ : Mem) (N : Nat) (ln kd : Nat → Nat) : Prop := HL N ln kd ∧ τ 7 1 = nI N ∧ ∀ i, i < N → τ 8 i = nI (pos ln i) ∧ τ 9 i = nI (ln i) ∧ τ 10 i = ub (kd i) ∧ (kd i ≠ 0 → τ 11 i = nI (kd i - 1))
theorem MP.cong {σ τ : Mem} {N : Nat} {ln kd : Nat → Nat} (h : MP σ N ln kd) (h1 : τ 7 1 = σ 7 1) (h8 : τ 8 = σ 8) (h9 : τ 9 = σ 9) (h10 : τ 10 = σ 10) (h11 : τ 11 = σ 11) : MP τ N ln kd := by
  refine ⟨h.1, h1.trans h.2.1, fun i hi => ?_⟩
  rw [h8, h9, h10, h11]
  exact h.2.2 i hi
def mi_M_at : MI := (b_M_at, 4, "RootedWordsModel", some .int, 0, tbl_of 47 f_M_at, fl_M, [], [])
theorem ok_M_at : MOK mi_M_at := ⟨tbl_ok k_M_at, flok_M rfl, (fun _ h => absurd h List.not_mem_nil)⟩
theorem si_M_at : ∀ q ∈ m_tr mi_M_at, SiteF mi_M_at q := (fun _ h => absurd h List.not_mem_nil)
theorem c_M_at_loop {X : CT} {oc : OC} (hX : CxO X mi_M_at oc) {σ : Mem} {N : Nat} {ln kd : Nat → Nat} (h : MP σ N ln kd) {a r : Int32} (hr : (∀ e, Usd N ln kd e a → r = nI e) ∧ (¬ Us N ln kd a → r = -1)) (ho : oc = .inl (some (.inl r), σ)) : ∀ (n i : Nat) (f : Int32), i + n = N → (∀ j, j < i → Usd N ln kd j a → f = nI j) → ((∀ j, j < i → ¬ Usd N ln kd j a) → f = -1) →
    Go X mi_M_at 4 [some (.inr (.inl 7)), some (.inl a), some (.inl f), some (.inl (nI i))] [] σ := by
  intro n
  have hN := h.1.N85
  induction n with
  | zero =>
    intro i f hi h1 h2
    obtain rfl : i = N := by omega
    refine Go_run ok_M_at hX [4] 60 (fun K R1 T1 hK hR hT => ?_)
    conv => whnf
    rw [h.2.1]
    refine ⟨fun _ => ?_, fun z => absurd (nI_le (Nat.le_refl _) (by omega)) z⟩
    conv => whnf
    refine hR _ _ ?_
    rw [ho]
    have e : r = f := by
      by_cases q : Us i ln kd a
      · obtain ⟨e, e1, e2, e3⟩ := q
        rw [hr.1 e ⟨e1, e2, e3⟩, h1 e e1 ⟨e1, e2, e3⟩]
      · rw [hr.2 q, h2 (fun j hj hu => q ⟨j, hu.1, hu.2.1, hu.2.2⟩)]
    rw [e]; rfl
  | succ n ih =>
    intro i f hi h1 h2
    have hi' : i < N := by omega
    have g1 := h.1.lt hi'
    obtain ⟨m8, m9, m10, m11⟩ := h.2.2 i hi'
    have e2 : nI i + nI 1 = nI (i + 1) := nI_add i 1
    have e3 : nI (pos ln i) + nI 1 = nI (pos ln i + 1) := nI_add _ _
    have keep : ¬ Usd N ln kd i a → Go X mi_M_at 4 [some (.inr (.inl 7)), some (.inl a), some (.inl f), some (.inl (nI i + nI 1))] [] σ := by
      intro hn
      rw [e2]
      refine ih (i + 1) f (by omega) (fun j hj hu => ?_) (fun hx => h2 (fun j hj => hx j (by omega)))
      rcases Nat.lt_or_ge j i with q | q
      · exact h1 j q hu
      · obtain rfl : j = i := by omega
        exact absurd hu hn
    refine Go_run ok_M_at hX [4] 60 (fun K R1 T1 hK hR hT => ?_)
    conv => whnf
    rw [h.2.1]
    refine ⟨fun z => absurd z (nI_ge hi' (by omega)), fun _ => ?_⟩
    conv => whnf
    refine ⟨vp_in_nI (by omega) (by decide), ?_⟩
    rw [nI_clamp (by omega), m10]
    conv => whnf
    refine ⟨fun z => ?_, fun z => ?_⟩
    · conv => whnf
      exact hK _ _ _ _ (keep (fun hu => hu.2.1 (ub_0.mp z)))
    · conv => whnf
      refine ⟨vp_in_nI (by omega) (by decide), ?_⟩
      rw [nI_clamp (by omega), m8]
      conv => whnf
      rw [e3]
      refine ⟨fun z2 => ?_, fun z2 => ?_⟩
      · conv => whnf
        exact hK _ _ _ _ (keep (fun hu => z2 hu.2.2))
      · conv => whnf
        refine hK _ _ _ _ ?_
        show Go X mi_M_at 4 [some (.inr (.inl 7)), some (.inl a), some (.inl (nI i)), some (.inl (nI i + nI 1))] [] σ
        rw [e2]
        have hu : Usd N ln kd i a := ⟨hi', fun q => z (ub_0.mpr q), z2⟩
        refine ih (i + 1) (nI i) (by omega) (fun j hj hu2 => by rw [h.1.uniq hu hu2]) (fun hx => absurd hu (hx i (by omega)))
theorem c_M_at (σ : Mem) {N : Nat} {ln kd : Nat → Nat} (h : MP σ N ln kd) (a r : Int32) (hr : (∀ e, Usd N ln kd e a → r = nI e) ∧ (¬ Us N ln kd a → r = -1)) : MetO y_M_at mi_M_at [.inr (.inl 7), .inl a] σ (.inl (some (.inl r), σ)) := by
  refine met_go ok_M_at ⟨rfl, rfl⟩ si_M_at (Nat.le_of_ble_eq_true rfl) ⟨trivial, trivial, trivial⟩ [4] 60 (fun X hX K R1 T1 hK hR hT => ?_)
  conv => whnf
  exact hK _ _ _ _ (c_M_at_loop hX h hr rfl N 0 (-1) (by omega) (fun j hj => absurd hj (Nat.not_lt_zero j)) (fun _ => rfl))
def ct_M_at : CTy := fun as σ KN _ => match as with
  | [.inl a] => ∃ N ln kd, MP σ N ln kd ∧ (∀ e, Usd N ln kd e a → KN (some (.inl (nI e))) σ) ∧ (¬ Us N ln kd a → KN (some (.inl (-1))) σ)
  | _ => False
theorem s_M_at : Snd y_M_at mi_M_at 7 1 ct_M_at := by
  intro as σ KN KX _ hf
  match as, hf with
  | [.inl a], ⟨N, ln, kd, h, h1, h2⟩ =>
    by_cases q : Us N ln kd a
    · obtain ⟨e, e1, e2, e3⟩ := q
      exact ⟨.inl (_, _), h1 e ⟨e1, e2, e3⟩, c_M_at σ h a (nI e) ⟨fun e' he' => by rw [h.1.uniq ⟨e1, e2, e3⟩ he'], fun z => absurd ⟨e, e1, e2, e3⟩ z⟩⟩
    · exact ⟨.inl (_, _), h2 q, c_M_at σ h a (-1) ⟨fun e' he' => absurd ⟨e', he'.1, he'.2.1, he'.2.2⟩ q, fun _ => rfl⟩⟩
theorem nI_nm1 {n : Nat} (h : n < 2 ^ 31) : ¬ nI n < 0 := nI_pos h
theorem nI_0le {n : Nat} (h : n < 2 ^ 31) : 0 ≤ nI n := nI_pos' h
def mi_M_isWord : MI := (b_M_isWord, 3, "RootedWordsModel", some .boolean, 0, tbl_of 22 f_M_isWord, fl_M, [], [])
theorem ok_M_isWord : MOK mi_M_isWord := ⟨tbl_ok k_M_isWord, flok_M rfl, (fun _ h => absurd h List.not_mem_nil)⟩
theorem si_M_isWord : ∀ q ∈ m_tr mi_M_isWord, SiteF mi_M_isWord q := (fun _ h => absurd h List.not_mem_nil)
theorem c_M_isWord (σ : Mem) {N : Nat} {ln kd : Nat → Nat} (h : MP σ N ln kd) {e : Nat} (he : e < N) (i r : Int32) (hr : (wd_ok i (ln e) → r = 1) ∧ (¬ wd_ok i (ln e) → r = 0)) : MetO y_M_isWord mi_M_isWord [.inr (.inl 7), .inl (nI e), .inl i] σ (.inl (some (.inl r), σ)) := by
  have hN := h.1.N85
  have g3 := h.1.ln3 he
  obtain ⟨m8, m9, m10, m11⟩ := h.2.2 e he
  refine met_go ok_M_isWord ⟨rfl, rfl⟩ si_M_isWord (Nat.le_of_ble_eq_true rfl) ⟨trivial, trivial, trivial, trivial⟩ [] 60 (fun X hX K R1 T1 hK hR hT => ?_)
  conv => whnf
  refine ⟨fun z => ?_, fun z => ?_⟩
  · conv => whnf
    refine ⟨rfl, hR _ _ ?_⟩
    rw [hr.2 (fun q => q.1 z)]; rfl
  conv => whnf
  refine ⟨vp_in_nI (by omega) (by decide), ?_⟩
  rw [nI_clamp (by omega), m9]
  conv => whnf
  rw [pk_sub (a := ln e) (b := 2) (by omega)]
  refine ⟨fun z2 => ?_, fun z2 => ?_⟩
  · conv => whnf
    refine ⟨rfl, hR _ _ ?_⟩
    rw [hr.2 (fun q => Int32.not_le.mpr q.2 z2)]; rfl
  · conv => whnf
    refine ⟨rfl, hR _ _ ?_⟩
    rw [hr.1 ⟨z, Int32.not_le.mp z2⟩]; rfl
def ct_M_isWord : CTy := fun as σ KN _ => ∃ N ln kd e i, as = [.inl (nI e), .inl i] ∧ MP σ N ln kd ∧ e < N ∧ (wd_ok i (ln e) → KN (some (.inl 1)) σ) ∧ (¬ wd_ok i (ln e) → KN (some (.inl 0)) σ)
theorem s_M_isWord : Snd y_M_isWord mi_M_isWord 7 2 ct_M_isWord := by
  intro as σ KN KX _ ⟨N, ln, kd, e, i, ea, h, he, h1, h2⟩
  subst ea
  by_cases q : wd_ok i (ln e)
  · exact ⟨.inl (_, _), h1 q, c_M_isWord σ h he i 1 ⟨fun _ => rfl, fun z => absurd q z⟩⟩
  · exact ⟨.inl (_, _), h2 q, c_M_isWord σ h he i 0 ⟨fun z => absurd z q, fun _ => rfl⟩⟩
def mi_M_isRoot : MI := (b_M_isRoot, 1, "RootedWordsModel", some .boolean, 0, tbl_of 16 f_M_isRoot, fl_M, [], [])
theorem ok_M_isRoot : MOK mi_M_isRoot := ⟨tbl_ok k_M_isRoot, flok_M rfl, (fun _ h => absurd h List.not_mem_nil)⟩
theorem si_M_isRoot : ∀ q ∈ m_tr mi_M_isRoot, SiteF mi_M_isRoot q := (fun _ h => absurd h List.not_mem_nil)
theorem c_M_isRoot (σ : Mem) (i r : Int32) (hr : (rt_ok i → r = 1) ∧ (¬ rt_ok i → r = 0)) : MetO y_M_isRoot mi_M_isRoot [.inl i] σ (.inl (some (.inl r), σ)) := by
  refine met_go ok_M_isRoot ⟨rfl, rfl⟩ si_M_isRoot (Nat.le_of_ble_eq_true rfl) ⟨trivial, trivial⟩ [] 60 (fun X hX K R1 T1 hK hR hT => ?_)
  conv => whnf
  refine ⟨fun z => ?_, fun z => ?_⟩
  · conv => whnf
    refine ⟨rfl, hR _ _ ?_⟩
    rw [hr.2 (fun q => q.1 z)]; rfl
  conv => whnf
  refine ⟨fun z2 => ?_, fun z2 => ?_⟩
  · conv => whnf
    refine ⟨rfl, hR _ _ ?_⟩
    rw [hr.2 (fun q => Int32.not_le.mpr q.2 z2)]; rfl
  · conv => whnf
    refine ⟨rfl, hR _ _ ?_⟩
    rw [hr.1 ⟨z, Int32.not_le.mp z2⟩]; rfl
def ct_M_isRoot : CTy := fun as σ KN _ => match as with
  | [.inl i] => (rt_ok i → KN (some (.inl 1)) σ) ∧ (¬ rt_ok i → KN (some (.inl 0)) σ)
  | _ => False
theorem s_M_isRoot : SndS y_M_isRoot mi_M_isRoot 1 ct_M_isRoot := by
  intro as σ KN KX _ hf
  match as, hf with
  | [.inl i], ⟨h1, h2⟩ =>
    by_cases q : rt_ok i
    · exact ⟨.inl (_, _), h1 q, c_M_isRoot σ i 1 ⟨fun _ => rfl, fun z => absurd q z⟩⟩
    · exact ⟨.inl (_, _), h2 q, c_M_isRoot σ i 0 ⟨fun z => absurd z q, fun _ => rfl⟩⟩
def mi_M_rootNow : MI := (b_M_rootNow, 2, "RootedWordsModel", some .int, 1, tbl_of 24 f_M_rootNow, fl_M, [(67, (7, 1, ct_M_at))], [])
theorem ok_M_rootNow : MOK mi_M_rootNow := ⟨tbl_ok k_M_rootNow, flok_M rfl, List.forall_mem_cons.mpr ⟨okV 2 (by decide) s_M_at rfl (Nat.le_of_ble_eq_true rfl) (Nat.le_of_ble_eq_true rfl) (by decide +kernel) lk_M_67 vv_M_at, (fun _ h => absurd h List.not_mem_nil)⟩⟩
theorem si_M_rootNow : ∀ q ∈ m_tr mi_M_rootNow, SiteF mi_M_rootNow q := (fun _ h => absurd h List.not_mem_nil)
theorem c_M_rootNow (σ : Mem) {N : Nat} {ln kd : Nat → Nat} (h : MP σ N ln kd) (j : Nat) (hj : j < 8) (r : Int32) (hr : (Us N ln kd (σ 14 j) → r = σ 14 j) ∧ (¬ Us N ln kd (σ 14 j) → r = 0)) : MetO y_M_rootNow mi_M_rootNow [.inr (.inl 7), .inl (nI j)] σ (.inl (some (.inl r), σ)) := by
  have hN := h.1.N85
  refine met_go ok_M_rootNow ⟨rfl, rfl⟩ si_M_rootNow (Nat.le_of_ble_eq_true rfl) ⟨trivial, trivial, trivial⟩ [] 60 (fun X hX K R1 T1 hK hR hT => ?_)
  conv => whnf
  refine ⟨vp_in_nI (by omega) (by decide), ?_⟩
  rw [nI_clamp (by omega)]
  conv => whnf
  refine ⟨N, ln, kd, h, fun e he => ?_, fun q => ?_⟩
  · conv => whnf
    refine ⟨fun _ => ?_, fun z => absurd (nI_0le (by have := he.1; omega)) z⟩
    conv => whnf
    refine ⟨vp_in_nI (by omega) (by decide), ?_⟩
    rw [nI_clamp (by omega)]
    conv => whnf
    refine hR _ _ ?_
    rw [hr.1 ⟨e, he.1, he.2.1, he.2.2⟩]
  · conv => whnf
    refine ⟨fun z => absurd z (by decide), fun _ => ?_⟩
    conv => whnf
    refine hR _ _ ?_
    rw [hr.2 q]; rfl
def ct_M_rootNow : CTy := fun as σ KN _ => ∃ N ln kd j, as = [.inl (nI j)] ∧ MP σ N ln kd ∧ j < 8 ∧ (Us N ln kd (σ 14 j) → KN (some (.inl (σ 14 j))) σ) ∧ (¬ Us N ln kd (σ 14 j) → KN (some (.inl 0)) σ)
theorem s_M_rootNow : Snd y_M_rootNow mi_M_rootNow 7 1 ct_M_rootNow := by
  intro as σ KN KX _ ⟨N, ln, kd, j, e, h, hj, h1, h2⟩
  subst e
  by_cases q : Us N ln kd (σ 14 j)
  · exact ⟨.inl (_, _), h1 q, c_M_rootNow σ h j hj _ ⟨fun _ => rfl, fun z => absurd q z⟩⟩
  · exact ⟨.inl (_, _), h2 q, c_M_rootNow σ h j hj _ ⟨fun z => absurd z q, fun _ => rfl⟩⟩
