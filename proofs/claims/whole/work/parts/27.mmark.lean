/-! ===== the reference: what is reached ===== -/
theorem cntP_mono {P Q : Nat → Prop} : ∀ {n : Nat}, (∀ j, j < n → P j → Q j) → cntP P n ≤ cntP Q n
  | 0, _ => Nat.le_refl _
  | n + 1, h => by
    have h1 := cntP_mono (P := P) (Q := Q) (n := n) (fun j hj => h j (by omega))
    show cntP P n + @ite Nat (P n) (Classical.propDecidable _) 1 0 ≤ cntP Q n + @ite Nat (Q n) (Classical.propDecidable _) 1 0
    by_cases q : P n
    · rw [if_pos q, if_pos (h n (by omega) q)]; omega
    · rw [if_neg q]; omega
theorem cntP_back {P Q : Nat → Prop} : ∀ {n : Nat}, (∀ j, j < n → P j → Q j) → cntP Q n ≤ cntP P n → ∀ j, j < n → Q j → P j
  | 0, _, _ => fun j hj => absurd hj (Nat.not_lt_zero j)
  | n + 1, h, hc => by
    have h1 := cntP_mono (P := P) (Q := Q) (n := n) (fun j hj => h j (by omega))
    have hc' : cntP Q n + @ite Nat (Q n) (Classical.propDecidable _) 1 0 ≤ cntP P n + @ite Nat (P n) (Classical.propDecidable _) 1 0 := hc
    intro j hj hq
    by_cases p : P n
    · rw [if_pos p, if_pos (h n (by omega) p)] at hc'
      rcases Nat.lt_or_ge j n with z | z
      · exact cntP_back (fun j hj => h j (by omega)) (by omega) j z hq
      · obtain rfl : j = n := by omega
        exact p
    · rw [if_neg p] at hc'
      by_cases q : Q n
      · rw [if_pos q] at hc'; omega
      · rw [if_neg q] at hc'
        rcases Nat.lt_or_ge j n with z | z
        · exact cntP_back (fun j hj => h j (by omega)) (by omega) j z hq
        · obtain rfl : j = n := by omega
          exact absurd hq q
def mi_M_mark : MI := (b_M_mark, 3, "RootedWordsModel", none, 1, tbl_of 18 f_M_mark, fl_M, [(67, (7, 1, ct_M_at))], [])
theorem ok_M_mark : MOK mi_M_mark := ⟨tbl_ok k_M_mark, flok_M rfl, List.forall_mem_cons.mpr ⟨okV 2 (by decide) s_M_at rfl (Nat.le_of_ble_eq_true rfl) (Nat.le_of_ble_eq_true rfl) (by decide +kernel) lk_M_67 vv_M_at, (fun _ h => absurd h List.not_mem_nil)⟩⟩
theorem si_M_mark : ∀ q ∈ m_tr mi_M_mark, SiteF mi_M_mark q := (fun _ h => absurd h List.not_mem_nil)
theorem c_M_mark_us (σ : Mem) {N : Nat} {ln kd : Nat → Nat} (h : MP σ N ln kd) {a : Int32} {e : Nat} (hu : Usd N ln kd e a) : MetO y_M_mark mi_M_mark [.inr (.inl 7), .inl a] σ (.inl (none, st σ 12 e 1)) := by
  have hN := h.1.N85
  have he := hu.1
  refine met_go ok_M_mark ⟨rfl, rfl⟩ si_M_mark (Nat.le_of_ble_eq_true rfl) ⟨trivial, trivial, trivial⟩ [] 60 (fun X hX K R1 T1 hK hR hT => ?_)
  conv => whnf
  refine ⟨N, ln, kd, h, fun e' he' => ?_, fun q => absurd hu.us q⟩
  obtain rfl := h.1.uniq he' hu
  conv => whnf
  refine ⟨fun z => absurd z (nI_pos (by omega)), fun _ => ?_⟩
  conv => whnf
  refine ⟨vp_in_nI (by omega) (by decide), ?_⟩
  rw [nI_clamp (by omega)]
  conv => whnf
  exact hR _ _ rfl
theorem c_M_mark_no (σ : Mem) {N : Nat} {ln kd : Nat → Nat} (h : MP σ N ln kd) {a : Int32} (q : ¬ Us N ln kd a) : MetO y_M_mark mi_M_mark [.inr (.inl 7), .inl a] σ (.inl (none, σ)) := by
  refine met_go ok_M_mark ⟨rfl, rfl⟩ si_M_mark (Nat.le_of_ble_eq_true rfl) ⟨trivial, trivial, trivial⟩ [] 60 (fun X hX K R1 T1 hK hR hT => ?_)
  conv => whnf
  refine ⟨N, ln, kd, h, fun e' he' => absurd he'.us q, fun _ => ?_⟩
  conv => whnf
  refine ⟨fun _ => ?_, fun z => absurd (by decide) z⟩
  conv => whnf
  exact hR _ _ rfl
def ct_M_mark : CTy := fun as σ KN _ => ∃ N ln kd a, as = [.inl a] ∧ MP σ N ln kd ∧ (∀ e, Usd N ln kd e a → KN none (st σ 12 e 1)) ∧ (¬ Us N ln kd a → KN none σ)
theorem s_M_mark : Snd y_M_mark mi_M_mark 7 1 ct_M_mark := by
  intro as σ KN KX _ ⟨N, ln, kd, a, e, h, h1, h2⟩
  subst e
  by_cases q : Us N ln kd a
  · obtain ⟨e, he⟩ := q
    exact ⟨.inl (_, _), h1 e he, c_M_mark_us σ h he⟩
  · exact ⟨.inl (_, _), h2 q, c_M_mark_no σ h q⟩
def mi_M_countMarked : MI := (b_M_countMarked, 3, "RootedWordsModel", some .int, 0, tbl_of 37 f_M_countMarked, fl_M, [], [])
theorem ok_M_countMarked : MOK mi_M_countMarked := ⟨tbl_ok k_M_countMarked, flok_M rfl, (fun _ h => absurd h List.not_mem_nil)⟩
theorem si_M_countMarked : ∀ q ∈ m_tr mi_M_countMarked, SiteF mi_M_countMarked q := (fun _ h => absurd h List.not_mem_nil)
theorem c_M_countMarked_loop {X : CT} {oc : OC} (hX : CxO X mi_M_countMarked oc) {σ : Mem} {N : Nat} (hn : σ 7 1 = nI N) (hN : N ≤ 85) (ho : oc = .inl (some (.inl (nI (cntP (fun j => σ 12 j ≠ 0) N))), σ)) : ∀ (n i : Nat), i + n = N →
    Go X mi_M_countMarked 4 [some (.inr (.inl 7)), some (.inl (nI (cntP (fun j => σ 12 j ≠ 0) i))), some (.inl (nI i))] [] σ := by
  intro n
  induction n with
  | zero =>
    intro i hi
    obtain rfl : i = N := by omega
    refine Go_run ok_M_countMarked hX [4] 60 (fun K R1 T1 hK hR hT => ?_)
    conv => whnf
    rw [hn]
    refine ⟨fun _ => ?_, fun h1 => absurd (nI_le (Nat.le_refl _) (by omega)) h1⟩
    conv => whnf
    exact hR _ _ ho
  | succ n ih =>
    intro i hi
    have e2 : nI i + nI 1 = nI (i + 1) := nI_add i 1
    have e3 : nI (cntP (fun j => σ 12 j ≠ 0) i) + nI 1 = nI (cntP (fun j => σ 12 j ≠ 0) i + 1) := nI_add _ _
    have h9 := ih (i + 1) (by omega)
    unfold cntP at h9
    refine Go_run ok_M_countMarked hX [4] 60 (fun K R1 T1 hK hR hT => ?_)
    conv => whnf
    rw [hn]
    refine ⟨fun z => absurd z (nI_ge (by omega) (by omega)), fun _ => ?_⟩
    conv => whnf
    refine ⟨vp_in_nI (by omega) (by decide), ?_⟩
    rw [nI_clamp (by omega)]
    conv => whnf
    refine ⟨fun z => ?_, fun z => ?_⟩
    · conv => whnf
      refine hK _ _ _ _ ?_
      show Go X mi_M_countMarked 4 [some (.inr (.inl 7)), some (.inl (nI (cntP (fun j => σ 12 j ≠ 0) i))), some (.inl (nI i + nI 1))] [] σ
      rw [if_neg (fun q => q z)] at h9
      rw [e2]; exact h9
    · conv => whnf
      refine hK _ _ _ _ ?_
      show Go X mi_M_countMarked 4 [some (.inr (.inl 7)), some (.inl (nI (cntP (fun j => σ 12 j ≠ 0) i) + nI 1)), some (.inl (nI i + nI 1))] [] σ
      rw [if_pos z] at h9
      rw [e2, e3]; exact h9
theorem c_M_countMarked (σ : Mem) {N : Nat} (hn : σ 7 1 = nI N) (hN : N ≤ 85) : MetO y_M_countMarked mi_M_countMarked [.inr (.inl 7)] σ (.inl (some (.inl (nI (cntP (fun j => σ 12 j ≠ 0) N))), σ)) := by
  refine met_go ok_M_countMarked ⟨rfl, rfl⟩ si_M_countMarked (Nat.le_of_ble_eq_true rfl) ⟨trivial, trivial⟩ [4] 60 (fun X hX K R1 T1 hK hR hT => ?_)
  conv => whnf
  exact hK _ _ _ _ (c_M_countMarked_loop hX hn hN rfl N 0 (by omega))
def ct_M_countMarked : CTy := fun as σ KN _ => match as with
  | [] => ∃ N, σ 7 1 = nI N ∧ N ≤ 85 ∧ KN (some (.inl (nI (cntP (fun j => σ 12 j ≠ 0) N)))) σ
  | _ => False
theorem s_M_countMarked : Snd y_M_countMarked mi_M_countMarked 7 0 ct_M_countMarked := by
  intro as σ KN KX _ hf
  match as, hf with
  | [], ⟨N, hn, hN, hf⟩ => exact ⟨.inl (_, _), hf, c_M_countMarked σ hn hN⟩
/-- the model's words by the disk's places -/
def mwd (σ : Mem) : Nat → Int32 := fun p => if 257 ≤ p then σ 14 (p - 257) else σ 13 p
theorem mwd_r (σ : Mem) (r : Nat) : mwd σ (257 + r) = σ 14 r := by
  unfold mwd
  rw [if_pos (by omega), Nat.add_sub_cancel_left]
theorem mwd_w (σ : Mem) {p : Nat} (h : p < 257) : mwd σ p = σ 13 p := if_neg (by omega)
noncomputable def maF (σ : Mem) (N : Nat) (ln kd : Nat → Nat) : Nat → Int32 := fun e => if e < N then @ite _ (RS (mwd σ) N ln kd e) (Classical.propDecidable _) 1 0 else σ 12 e
theorem maF_bl {σ : Mem} {N : Nat} {ln kd : Nat → Nat} (h : ∀ j, bl (σ 12 j)) (j : Nat) : bl (maF σ N ln kd j) := by
  unfold maF
  by_cases q : j < N
  · rw [if_pos q]
    by_cases z : RS (mwd σ) N ln kd j
    · rw [if_pos z]; exact Or.inr rfl
    · rw [if_neg z]; exact Or.inl rfl
  · rw [if_neg q]; exact h j
theorem maF_rs {σ : Mem} {N : Nat} {ln kd : Nat → Nat} {j : Nat} (hj : j < N) : maF σ N ln kd j ≠ 0 ↔ RS (mwd σ) N ln kd j := by
  unfold maF
  rw [if_pos hj]
  by_cases z : RS (mwd σ) N ln kd j
  · rw [if_pos z]; exact ⟨fun _ => z, fun _ => by decide⟩
  · rw [if_neg z]; exact ⟨fun q => absurd rfl q, fun q => absurd q z⟩
/-- marks on the way -/
def IM (σ : Mem) (N : Nat) (ln kd : Nat → Nat) (m : Nat → Int32) : Prop := (∀ e, e < N → m e ≠ 0 → RS (mwd σ) N ln kd e) ∧ (∀ e, e < N → bl (m e)) ∧ (∀ e, N ≤ e → m e = σ 12 e)
def CovM (N : Nat) (ln kd : Nat → Nat) (m : Nat → Int32) (x : Int32) : Prop := ∀ e, Usd N ln kd e x → m e ≠ 0
def LeM (m m' : Nat → Int32) : Prop := ∀ e, m e ≠ 0 → m' e ≠ 0
theorem LeM.rf (m : Nat → Int32) : LeM m m := fun _ h => h
theorem LeM.tr {m m1 m2 : Nat → Int32} (h : LeM m m1) (h' : LeM m1 m2) : LeM m m2 := fun e z => h' e (h e z)
theorem CovM.le {N : Nat} {ln kd : Nat → Nat} {m m' : Nat → Int32} {x : Int32} (h : CovM N ln kd m x) (q : LeM m m') : CovM N ln kd m' x := fun e he => q e (h e he)
theorem LeM.upd (m : Nat → Int32) (e : Nat) : LeM m (upd m e 1) := by
  intro j hj
  by_cases q : j = e
  · rw [q, upd_s]; decide
  · rw [upd_n _ _ q]; exact hj
theorem IM.upd {σ : Mem} {N : Nat} {ln kd : Nat → Nat} {m : Nat → Int32} (h : IM σ N ln kd m) {e : Nat} (he : e < N) (hr : RS (mwd σ) N ln kd e) : IM σ N ln kd (upd m e 1) := by
  refine ⟨fun j hj hz => ?_, fun j hj => ?_, fun j hj => ?_⟩
  · by_cases q : j = e
    · rw [q]; exact hr
    · rw [upd_n _ _ q] at hz; exact h.1 j hj hz
  · by_cases q : j = e
    · rw [q, upd_s]; exact Or.inr rfl
    · rw [upd_n _ _ q]; exact h.2.1 j hj
  · rw [upd_n _ _ (by omega)]; exact h.2.2 j hj
theorem IM.end {σ : Mem} {N : Nat} {ln kd : Nat → Nat} {m : Nat → Int32} (h : IM σ N ln kd m) (hr : ∀ r, r < 8 → CovM N ln kd m (σ 14 r)) (hc : ∀ e, e < N → m e ≠ 0 → ∀ i, i + 1 < kd e → CovM N ln kd m (mwd σ (pos ln e + 1 + i))) : m = maF σ N ln kd := by
  have key : ∀ e, RS (mwd σ) N ln kd e → m e ≠ 0 := fun e he => he (fun e => m e ≠ 0) (fun r hr8 j hj => hr r hr8 j (by rw [mwd_r] at hj; exact hj)) (fun j hj hjN i hi j' hj' => hc j hjN hj i hi j' hj')
  funext e
  unfold maF
  by_cases q : e < N
  · rw [if_pos q]
    by_cases z : RS (mwd σ) N ln kd e
    · rw [if_pos z]
      exact (h.2.1 e q).resolve_left (key e z)
    · rw [if_neg z]
      exact Classical.byContradiction (fun y => z (h.1 e q y))
  · rw [if_neg q]; exact h.2.2 e (by omega)
theorem stA12 (σ : Mem) (m : Nat → Int32) (e : Nat) (v : Int32) : st (stA σ 12 m) 12 e v = stA σ 12 (upd m e v) := by rw [st_stA, stA_stA, stA_self]
def mi_M_markAll : MI := (b_M_markAll, 4, "RootedWordsModel", some .int, 2, tbl_of 129 f_M_markAll, fl_M, [(83, (7, 1, ct_M_mark)), (87, (7, 0, ct_M_countMarked))], [])
theorem ok_M_markAll : MOK mi_M_markAll := ⟨tbl_ok k_M_markAll, flok_M rfl, List.forall_mem_cons.mpr ⟨okV 2 (by decide) s_M_mark rfl (Nat.le_of_ble_eq_true rfl) (Nat.le_of_ble_eq_true rfl) (by decide +kernel) lk_M_83 vv_M_mark, List.forall_mem_cons.mpr ⟨okV 2 (by decide) s_M_countMarked rfl (Nat.le_of_ble_eq_true rfl) (Nat.le_of_ble_eq_true rfl) (by decide +kernel) lk_M_87 vv_M_countMarked, (fun _ h => absurd h List.not_mem_nil)⟩⟩⟩
theorem si_M_markAll : ∀ q ∈ m_tr mi_M_markAll, SiteF mi_M_markAll q := (fun _ h => absurd h List.not_mem_nil)
/-- the pointers of one extent -/
theorem c_M_ma_74 {X : CT} {oc : OC} (hX : CxO X mi_M_markAll oc) {σ : Mem} {N : Nat} {ln kd : Nat → Nat} (h : MP σ N ln kd) {e : Nat} (he : e < N) (b : Option AV) {m0 : Nat → Int32}
    (hG : ∀ m' x, IM σ N ln kd m' → LeM m0 m' → (∀ i, i + 1 < kd e → CovM N ln kd m' (mwd σ (pos ln e + 1 + i))) → Go X mi_M_markAll 118 [some (.inr (.inl 7)), b, some (.inl (nI e)), x] [] (stA σ 12 m')) :
    ∀ (n i : Nat) (m : Nat → Int32), i + n + 1 = kd e → IM σ N ln kd m → LeM m0 m → m e ≠ 0 → (∀ i', i' < i → CovM N ln kd m (mwd σ (pos ln e + 1 + i'))) → Go X mi_M_markAll 74 [some (.inr (.inl 7)), b, some (.inl (nI e)), some (.inl (nI i))] [] (stA σ 12 m) := by
  have hN := h.1.N85
  have g := h.1.lt he
  have g3 := h.1.kdl he
  have g4 := h.1.end he
  obtain ⟨m8, m9, m10, m11⟩ := h.2.2 e he
  intro n
  induction n with
  | zero =>
    intro i m hi hm hle hme hc
    have m11' : stA σ 12 m 11 e = nI (kd e - 1) := m11 (by omega)
    have m12' : stA σ 12 m 12 e = m e := rfl
    refine Go_run ok_M_markAll hX [118] 60 (fun K R1 T1 hK hR hT => ?_)
    conv => whnf
    refine ⟨vp_in_nI (by omega) (by decide), ?_⟩
    rw [nI_clamp (by omega), m12']
    conv => whnf
    refine ⟨fun z => absurd z hme, fun _ => ?_⟩
    conv => whnf
    refine ⟨vp_in_nI (by omega) (by decide), ?_⟩
    rw [nI_clamp (by omega), m11']
    conv => whnf
    refine ⟨fun _ => ?_, fun z => absurd (nI_le (by omega) (by omega)) z⟩
    conv => whnf
    exact hK _ _ _ _ (hG m _ hm hle (fun i' hi' => hc i' (by omega)))
  | succ n ih =>
    intro i m hi hm hle hme hc
    have m11' : stA σ 12 m 11 e = nI (kd e - 1) := m11 (by omega)
    have m12' : stA σ 12 m 12 e = m e := rfl
    have m8' : stA σ 12 m 8 e = nI (pos ln e) := m8
    have hre := hm.1 e he hme
    have e2 : nI i + nI 1 = nI (i + 1) := nI_add i 1
    have e3 : nI (pos ln e) + nI 1 + nI i = nI (pos ln e + 1 + i) := by rw [nI_add, nI_add]
    have ew : mwd σ (pos ln e + 1 + i) = σ 13 (pos ln e + 1 + i) := mwd_w σ (by omega)
    have nxt : ∀ m', IM σ N ln kd m' → LeM m m' → CovM N ln kd m' (mwd σ (pos ln e + 1 + i)) → Go X mi_M_markAll 74 [some (.inr (.inl 7)), b, some (.inl (nI e)), some (.inl (nI i + nI 1))] [] (stA σ 12 m') := by
      intro m' h1 h2 h3
      rw [e2]
      refine ih (i + 1) m' (by omega) h1 (hle.tr h2) (h2 e hme) (fun i' hi' => ?_)
      rcases Nat.lt_or_ge i' i with q | q
      · exact (hc i' q).le h2
      · obtain rfl : i' = i := by omega
        exact h3
    refine Go_run ok_M_markAll hX [74] 60 (fun K R1 T1 hK hR hT => ?_)
    conv => whnf
    refine ⟨vp_in_nI (by omega) (by decide), ?_⟩
    rw [nI_clamp (by omega), m12']
    conv => whnf
    refine ⟨fun z => absurd z hme, fun _ => ?_⟩
    conv => whnf
    refine ⟨vp_in_nI (by omega) (by decide), ?_⟩
    rw [nI_clamp (by omega), m11']
    conv => whnf
    refine ⟨fun z => absurd z (nI_ge (by omega) (by omega)), fun _ => ?_⟩
    conv => whnf
    refine ⟨vp_in_nI (by omega) (by decide), ?_⟩
    rw [nI_clamp (by omega), m8']
    conv => whnf
    rw [e3]
    refine ⟨vp_in_nI (by omega) (by decide), ?_⟩
    rw [nI_clamp (by omega)]
    conv => whnf
    refine ⟨N, ln, kd, σ 13 (pos ln e + 1 + i), rfl, h.cong rfl rfl rfl rfl rfl, fun e' he' => ?_, fun q => ?_⟩
    · conv => whnf
      refine hK _ _ _ _ ?_
      rw [stA12]
      refine nxt _ (hm.upd he'.1 (hre.step he (i := i) (by omega) (by rw [ew]; exact he'))) (LeM.upd m e') (fun e2 he2 => ?_)
      rw [ew] at he2
      rw [h.1.uniq he2 he', upd_s]; decide
    · conv => whnf
      refine hK _ _ _ _ (nxt m hm (LeM.rf m) (fun e2 he2 => ?_))
      rw [ew] at he2
      exact absurd he2.us q
/-- one pass -/
theorem c_M_ma_64 {X : CT} {oc : OC} (hX : CxO X mi_M_markAll oc) {σ : Mem} {N : Nat} {ln kd : Nat → Nat} (h : MP σ N ln kd) (b : Option AV) {m0 : Nat → Int32}
    (hG : ∀ m' x y, IM σ N ln kd m' → LeM m0 m' → (∀ e, e < N → m0 e ≠ 0 → ∀ i, i + 1 < kd e → CovM N ln kd m' (mwd σ (pos ln e + 1 + i))) → Go X mi_M_markAll 49 [some (.inr (.inl 7)), b, x, y] [] (stA σ 12 m')) :
    ∀ (n e : Nat) (m : Nat → Int32) (y : Option AV), e + n = N → IM σ N ln kd m → LeM m0 m → (∀ e', e' < e → m0 e' ≠ 0 → ∀ i, i + 1 < kd e' → CovM N ln kd m (mwd σ (pos ln e' + 1 + i))) → Go X mi_M_markAll 64 [some (.inr (.inl 7)), b, some (.inl (nI e)), y] [] (stA σ 12 m) := by
  have hN := h.1.N85
  intro n
  induction n with
  | zero =>
    intro e m y he hm hle hc
    obtain rfl : e = N := by omega
    have hn : stA σ 12 m 7 1 = nI e := h.2.1
    refine Go_run ok_M_markAll hX [49] 60 (fun K R1 T1 hK hR hT => ?_)
    conv => whnf
    rw [hn]
    refine ⟨fun _ => ?_, fun z => absurd (nI_le (Nat.le_refl _) (by omega)) z⟩
    conv => whnf
    exact hK _ _ _ _ (hG m _ _ hm hle hc)
  | succ n ih =>
    intro e m y he hm hle hc
    have he' : e < N := by omega
    have hn : stA σ 12 m 7 1 = nI N := h.2.1
    have e2 : nI e + nI 1 = nI (e + 1) := nI_add e 1
    have nxt : ∀ m' x, IM σ N ln kd m' → LeM m m' → (m0 e ≠ 0 → ∀ i, i + 1 < kd e → CovM N ln kd m' (mwd σ (pos ln e + 1 + i))) → Go X mi_M_markAll 118 [some (.inr (.inl 7)), b, some (.inl (nI e)), x] [] (stA σ 12 m') := by
      intro m' x h1 h2 h3
      refine Go_run ok_M_markAll hX [64] 60 (fun K R1 T1 hK hR hT => ?_)
      conv => whnf
      refine hK _ _ _ _ ?_
      show Go X mi_M_markAll 64 [some (.inr (.inl 7)), b, some (.inl (nI e + nI 1)), x] [] (stA σ 12 m')
      rw [e2]
      refine ih (e + 1) m' x (by omega) h1 (hle.tr h2) (fun e' q1 q2 i q3 => ?_)
      rcases Nat.lt_or_ge e' e with q | q
      · exact (hc e' q q2 i q3).le h2
      · obtain rfl : e' = e := by omega
        exact h3 q2 i q3
    by_cases hme : m e = 0
    · refine Go_run ok_M_markAll hX [118] 60 (fun K R1 T1 hK hR hT => ?_)
      conv => whnf
      rw [hn]
      refine ⟨fun z => absurd z (nI_ge he' (by omega)), fun _ => ?_⟩
      have m12' : stA σ 12 m 12 e = m e := rfl
      conv => whnf
      refine ⟨vp_in_nI (by omega) (by decide), ?_⟩
      rw [nI_clamp (by omega), m12']
      conv => whnf
      refine ⟨fun _ => ?_, fun z => absurd hme z⟩
      conv => whnf
      exact hK _ _ _ _ (nxt m _ hm (LeM.rf m) (fun q => absurd hme (hle e q)))
    · have hu := (hm.1 e he' hme).used
      refine Go_run ok_M_markAll hX [74] 60 (fun K R1 T1 hK hR hT => ?_)
      conv => whnf
      rw [hn]
      refine ⟨fun z => absurd z (nI_ge he' (by omega)), fun _ => ?_⟩
      conv => whnf
      exact hK _ _ _ _ (c_M_ma_74 hX h he' b (m0 := m) (fun m' x h1 h2 h3 => nxt m' x h1 h2 (fun _ => h3)) (kd e - 1) 0 m (by omega) hm (LeM.rf m) hme (fun i' hi' => absurd hi' (Nat.not_lt_zero _)))
theorem c_M_ma_49 {X : CT} {oc : OC} (hX : CxO X mi_M_markAll oc) {σ : Mem} {N : Nat} {ln kd : Nat → Nat} (h : MP σ N ln kd) (ho : oc = .inl (some (.inl (nI (cntP (RS (mwd σ) N ln kd) N))), stA σ 12 (maF σ N ln kd))) :
    ∀ (n : Nat) (m : Nat → Int32) (b : Int32) (x y : Option AV), IM σ N ln kd m → (∀ r, r < 8 → CovM N ln kd m (σ 14 r)) →
      ((b = -1 ∧ N + 2 < n) ∨ ∃ m0, b = nI (cntP (fun j => m0 j ≠ 0) N) ∧ N < cntP (fun j => m0 j ≠ 0) N + n ∧ LeM m0 m ∧ (∀ e, e < N → m0 e ≠ 0 → ∀ i, i + 1 < kd e → CovM N ln kd m (mwd σ (pos ln e + 1 + i)))) →
      Go X mi_M_markAll 49 [some (.inr (.inl 7)), some (.inl b), x, y] [] (stA σ 12 m) := by
  have hN := h.1.N85
  intro n
  induction n with
  | zero =>
    intro m b x y hm hr hb
    rcases hb with ⟨_, hb⟩ | ⟨m0, _, hb, _⟩
    · exact absurd hb (by omega)
    · have := cntP_le (fun j => m0 j ≠ 0) N
      omega
  | succ n ih =>
    intro m b x y hm hr hb
    have hn : stA σ 12 m 7 1 = nI N := h.2.1
    have hcl := cntP_le (fun j => m j ≠ 0) N
    refine Go_run ok_M_markAll hX [64] 60 (fun K R1 T1 hK hR hT => ?_)
    conv => whnf
    refine ⟨N, hn, hN, ?_⟩
    have hcm : cntP (fun j => stA σ 12 m 12 j ≠ 0) N = cntP (fun j => m j ≠ 0) N := rfl
    rw [hcm]
    conv => whnf
    refine ⟨fun z => ?_, fun z => ?_⟩
    · conv => whnf
      rcases hb with ⟨hb, _⟩ | ⟨m0, hb, _, hle, hc⟩
      · rw [hb] at z
        exact absurd z (Int32.not_le.mpr (by
          rw [Int32.lt_iff_toInt_lt, nI_toInt (by omega)]
          have : (-1 : Int32).toInt = -1 := by decide
          rw [this]; omega))
      · rw [hb] at z ⊢
        have hc0 := cntP_le (fun j => m0 j ≠ 0) N
        have z1 := (nI_leI (by omega) (by omega)).mp z
        have hbk := cntP_back (P := fun j => m0 j ≠ 0) (Q := fun j => m j ≠ 0) (fun j _ hj => hle j hj) z1
        have hmono := cntP_mono (P := fun j => m0 j ≠ 0) (Q := fun j => m j ≠ 0) (n := N) (fun j _ hj => hle j hj)
        have hend := hm.end hr (fun e he hme => hc e he (hbk e he hme))
        refine hR _ _ ?_
        have e5 : cntP (fun j => m0 j ≠ 0) N = cntP (RS (mwd σ) N ln kd) N := cntP_cong (fun j hj => by
          refine ⟨fun q => hm.1 j hj (hle j q), fun q => hbk j hj ?_⟩
          rw [hend]; exact (maF_rs hj).mpr q)
        rw [ho, e5, hend]; rfl
    · conv => whnf
      refine ⟨N, hn, hN, ?_⟩
      conv => whnf
      refine hK _ _ _ _ (c_M_ma_64 hX h _ (m0 := m) (fun m' x' y' h1 h2 h3 => ?_) N 0 m y (by omega) hm (LeM.rf m) (fun e' q => absurd q (Nat.not_lt_zero _)))
      refine ih m' _ x' y' h1 (fun r hr8 => (hr r hr8).le h2) (Or.inr ⟨m, rfl, ?_, h2, h3⟩)
      rcases hb with ⟨hb, hb2⟩ | ⟨m0, hb, hb2, hle, hc⟩
      · omega
      · rw [hb] at z
        have hc0 := cntP_le (fun j => m0 j ≠ 0) N
        have z1 := (not_congr (nI_leI (by omega) (by omega))).mp z
        omega
theorem c_M_ma_25 {X : CT} {oc : OC} (hX : CxO X mi_M_markAll oc) {σ : Mem} {N : Nat} {ln kd : Nat → Nat} (h : MP σ N ln kd) (ho : oc = .inl (some (.inl (nI (cntP (RS (mwd σ) N ln kd) N))), stA σ 12 (maF σ N ln kd))) (x y : Option AV) :
    ∀ (n r : Nat) (m : Nat → Int32), r + n = 8 → IM σ N ln kd m → (∀ r', r' < r → CovM N ln kd m (σ 14 r')) → Go X mi_M_markAll 25 [some (.inr (.inl 7)), some (.inl (nI r)), x, y] [] (stA σ 12 m) := by
  have hN := h.1.N85
  intro n
  induction n with
  | zero =>
    intro r m hrn hm hr
    obtain rfl : r = 8 := by omega
    refine Go_run ok_M_markAll hX [49] 60 (fun K R1 T1 hK hR hT => ?_)
    conv => whnf
    refine ⟨fun _ => ?_, fun z => absurd (nI_le (Nat.le_refl _) (by decide)) z⟩
    conv => whnf
    exact hK _ _ _ _ (c_M_ma_49 hX h ho (N + 3) m (-1) _ _ hm hr (Or.inl ⟨rfl, by omega⟩))
  | succ n ih =>
    intro r m hrn hm hr
    have e2 : nI r + nI 1 = nI (r + 1) := nI_add r 1
    have nxt : ∀ m', IM σ N ln kd m' → LeM m m' → CovM N ln kd m' (σ 14 r) → Go X mi_M_markAll 25 [some (.inr (.inl 7)), some (.inl (nI r + nI 1)), x, y] [] (stA σ 12 m') := by
      intro m' h1 h2 h3
      rw [e2]
      refine ih (r + 1) m' (by omega) h1 (fun r' hr' => ?_)
      rcases Nat.lt_or_ge r' r with q | q
      · exact (hr r' q).le h2
      · obtain rfl : r' = r := by omega
        exact h3
    refine Go_run ok_M_markAll hX [25] 60 (fun K R1 T1 hK hR hT => ?_)
    conv => whnf
    refine ⟨fun z => absurd z (nI_ge (by omega) (by decide)), fun _ => ?_⟩
    conv => whnf
    refine ⟨vp_in_nI (by omega) (by decide), ?_⟩
    rw [nI_clamp (by omega)]
    conv => whnf
    refine ⟨N, ln, kd, σ 14 r, rfl, h.cong rfl rfl rfl rfl rfl, fun e' he' => ?_, fun q => ?_⟩
    · conv => whnf
      refine hK _ _ _ _ ?_
      rw [stA12]
      refine nxt _ (hm.upd he'.1 (RS.root (r := r) (by omega) (by rw [mwd_r]; exact he'))) (LeM.upd m e') (fun e2 he2 => ?_)
      rw [h.1.uniq he2 he', upd_s]; decide
    · conv => whnf
      refine hK _ _ _ _ (nxt m hm (LeM.rf m) (fun e2 he2 => absurd he2.us q))
theorem c_M_ma_2 {X : CT} {oc : OC} (hX : CxO X mi_M_markAll oc) {σ : Mem} {N : Nat} {ln kd : Nat → Nat} (h : MP σ N ln kd) (ho : oc = .inl (some (.inl (nI (cntP (RS (mwd σ) N ln kd) N))), stA σ 12 (maF σ N ln kd))) (x y : Option AV) :
    ∀ (n i : Nat), i + n = N → Go X mi_M_markAll 2 [some (.inr (.inl 7)), some (.inl (nI i)), x, y] [] (stA σ 12 (fl0 (fun _ => 0) (σ 12) i)) := by
  have hN := h.1.N85
  intro n
  induction n with
  | zero =>
    intro i hi
    obtain rfl : i = N := by omega
    have hn : stA σ 12 (fl0 (fun _ => 0) (σ 12) i) 7 1 = nI i := h.2.1
    refine Go_run ok_M_markAll hX [25] 60 (fun K R1 T1 hK hR hT => ?_)
    conv => whnf
    rw [hn]
    refine ⟨fun _ => ?_, fun z => absurd (nI_le (Nat.le_refl _) (by omega)) z⟩
    conv => whnf
    refine hK _ _ _ _ (c_M_ma_25 hX h ho _ _ 8 0 _ (by omega) ⟨fun e he hz => ?_, fun e he => ?_, fun e he => ?_⟩ (fun r' q => absurd q (Nat.not_lt_zero _)))
    · rw [fl0_in he] at hz; exact absurd rfl hz
    · rw [fl0_in he]; exact Or.inl rfl
    · rw [fl0_out he]
  | succ n ih =>
    intro i hi
    have e2 : nI i + nI 1 = nI (i + 1) := nI_add i 1
    have hn : stA σ 12 (fl0 (fun _ => 0) (σ 12) i) 7 1 = nI N := h.2.1
    refine Go_run ok_M_markAll hX [2] 60 (fun K R1 T1 hK hR hT => ?_)
    conv => whnf
    rw [hn]
    refine ⟨fun z => absurd z (nI_ge (by omega) (by omega)), fun _ => ?_⟩
    conv => whnf
    refine ⟨vp_in_nI (by omega) (by decide), ?_⟩
    rw [nI_clamp (by omega)]
    conv => whnf
    refine hK _ _ _ _ ?_
    show Go X mi_M_markAll 2 [some (.inr (.inl 7)), some (.inl (nI i + nI 1)), x, y] [] (st (stA σ 12 (fl0 (fun _ => 0) (σ 12) i)) 12 i 0)
    rw [e2, stA12, fl0_s (fun _ => 0) (σ 12) i]
    exact ih (i + 1) (by omega)
theorem c_M_markAll (σ : Mem) {N : Nat} {ln kd : Nat → Nat} (h : MP σ N ln kd) : MetO y_M_markAll mi_M_markAll [.inr (.inl 7)] σ (.inl (some (.inl (nI (cntP (RS (mwd σ) N ln kd) N))), stA σ 12 (maF σ N ln kd))) := by
  refine met_go ok_M_markAll ⟨rfl, rfl⟩ si_M_markAll (Nat.le_of_ble_eq_true rfl) ⟨trivial, trivial⟩ [2] 60 (fun X hX K R1 T1 hK hR hT => ?_)
  conv => whnf
  refine hK _ _ _ _ ?_
  have h9 := c_M_ma_2 hX h rfl none none N 0 (by omega)
  rw [fl0_0, stA_id] at h9
  exact h9
def ct_M_markAll : CTy := fun as σ KN _ => match as with
  | [] => ∃ N ln kd, MP σ N ln kd ∧ KN (some (.inl (nI (cntP (RS (mwd σ) N ln kd) N)))) (stA σ 12 (maF σ N ln kd))
  | _ => False
theorem s_M_markAll : Snd y_M_markAll mi_M_markAll 7 0 ct_M_markAll := by
  intro as σ KN KX _ hf
  match as, hf with
  | [], ⟨N, ln, kd, h, hf⟩ => exact ⟨.inl (_, _), hf, c_M_markAll σ h⟩
def mi_M_reached : MI := (b_M_reached, 1, "RootedWordsModel", some .int, 3, tbl_of 32 f_M_reached, fl_M, [(91, (7, 0, ct_M_markAll))], [])
theorem ok_M_reached : MOK mi_M_reached := ⟨tbl_ok k_M_reached, flok_M rfl, List.forall_mem_cons.mpr ⟨okV 2 (by decide) s_M_markAll rfl (Nat.le_of_ble_eq_true rfl) (Nat.le_of_ble_eq_true rfl) (by decide +kernel) lk_M_91 vv_M_markAll, (fun _ h => absurd h List.not_mem_nil)⟩⟩
theorem si_M_reached : ∀ q ∈ m_tr mi_M_reached, SiteF mi_M_reached q := (fun _ h => absurd h List.not_mem_nil)
theorem c_M_reached_down (σ : Mem) (hd : σ 7 11 = 1) : MetO y_M_reached mi_M_reached [.inr (.inl 7)] σ (.inl (some (.inl 0), st σ 7 0 1)) := by
  refine met_go ok_M_reached ⟨rfl, rfl⟩ si_M_reached (Nat.le_of_ble_eq_true rfl) ⟨trivial, trivial⟩ [] 60 (fun X hX K R1 T1 hK hR hT => ?_)
  conv => whnf
  refine ⟨fun z => absurd (hd.symm.trans z) (by decide), fun _ => ?_⟩
  conv => whnf
  refine ⟨fun z => absurd z (cIn (k := 1) (by decide)), fun _ => ?_⟩
  conv => whnf
  exact hR _ _ rfl
theorem c_M_reached_up (σ : Mem) (hd : σ 7 11 = 0) {N : Nat} {ln kd : Nat → Nat} (h : MP σ N ln kd) : MetO y_M_reached mi_M_reached [.inr (.inl 7)] σ (.inl (some (.inl (nI (cntP (RS (mwd σ) N ln kd) N))), stA (st σ 7 0 (nI 0)) 12 (maF σ N ln kd))) := by
  refine met_go ok_M_reached ⟨rfl, rfl⟩ si_M_reached (Nat.le_of_ble_eq_true rfl) ⟨trivial, trivial⟩ [] 60 (fun X hX K R1 T1 hK hR hT => ?_)
  conv => whnf
  refine ⟨fun _ => ?_, fun z => absurd hd z⟩
  conv => whnf
  refine ⟨fun _ => ?_, fun z => absurd c0n z⟩
  conv => whnf
  refine ⟨N, ln, kd, h.st7 0 (nI 0) (by decide), ?_⟩
  conv => whnf
  exact hR _ _ rfl
