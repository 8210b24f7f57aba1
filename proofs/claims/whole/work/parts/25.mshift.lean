/-! ===== the reference: extents joined, an extent cut ===== -/
theorem st_id (σ : Mem) (o k : Nat) : st σ o k (σ o k) = σ := by
  rw [st_stA]
  have : upd (σ o) k (σ o k) = σ o := by
    funext j
    unfold upd
    split
    · rename_i h; rw [h]
    · rfl
  rw [this, stA_id]
theorem st_st (σ : Mem) (o k : Nat) (v v' : Int32) : st (st σ o k v) o k v' = st σ o k v' := by
  rw [st_stA, st_stA, st_stA, stA_stA, stA_self]
  congr 1
  funext j
  unfold upd
  split <;> rfl
/-- the model's five rows -/
def ar (τ : Mem) (A B C D E : Nat → Int32) : Mem := fun a => if a = 8 then A else if a = 9 then B else if a = 10 then C else if a = 11 then D else if a = 12 then E else τ a
theorem ar_self (σ : Mem) : ar σ (σ 8) (σ 9) (σ 10) (σ 11) (σ 12) = σ := by
  funext a
  unfold ar
  by_cases h8 : a = 8
  · rw [if_pos h8, h8]
  rw [if_neg h8]
  by_cases h9 : a = 9
  · rw [if_pos h9, h9]
  rw [if_neg h9]
  by_cases h10 : a = 10
  · rw [if_pos h10, h10]
  rw [if_neg h10]
  by_cases h11 : a = 11
  · rw [if_pos h11, h11]
  rw [if_neg h11]
  by_cases h12 : a = 12
  · rw [if_pos h12, h12]
  rw [if_neg h12]
theorem ar_ne (τ : Mem) (A B C D E : Nat → Int32) (a : Nat) (h8 : a ≠ 8) (h9 : a ≠ 9) (h10 : a ≠ 10) (h11 : a ≠ 11) (h12 : a ≠ 12) : ar τ A B C D E a = τ a := by
  unfold ar
  rw [if_neg h8, if_neg h9, if_neg h10, if_neg h11, if_neg h12]
section ar
variable (τ : Mem) (A B C D E : Nat → Int32) (k : Nat) (v : Int32)
theorem ar_8 : st (ar τ A B C D E) 8 k v = ar τ (upd A k v) B C D E := by
  funext a
  by_cases h : a = 8
  · subst h; rfl
  · rw [st_ne _ _ _ h]; unfold ar; simp only [if_neg h]
theorem ar_9 : st (ar τ A B C D E) 9 k v = ar τ A (upd B k v) C D E := by
  funext a
  by_cases h : a = 9
  · subst h; rfl
  · rw [st_ne _ _ _ h]; unfold ar; simp only [if_neg h]
theorem ar_10 : st (ar τ A B C D E) 10 k v = ar τ A B (upd C k v) D E := by
  funext a
  by_cases h : a = 10
  · subst h; rfl
  · rw [st_ne _ _ _ h]; unfold ar; simp only [if_neg h]
theorem ar_11 : st (ar τ A B C D E) 11 k v = ar τ A B C (upd D k v) E := by
  funext a
  by_cases h : a = 11
  · subst h; rfl
  · rw [st_ne _ _ _ h]; unfold ar; simp only [if_neg h]
theorem ar_12 : st (ar τ A B C D E) 12 k v = ar τ A B C D (upd E k v) := by
  funext a
  by_cases h : a = 12
  · subst h; rfl
  · rw [st_ne _ _ _ h]; unfold ar; simp only [if_neg h]
theorem ar_7 : st (ar τ A B C D E) 7 k v = ar (st τ 7 k v) A B C D E := by
  funext a
  by_cases h : a = 7
  · subst h; rfl
  · rw [st_ne _ _ _ h]; unfold ar; rw [st_ne _ _ _ h]
end ar
/-- a row moved down by g behind fr, as far as n -/
def shF (f : Nat → Int32) (fr g n : Nat) : Nat → Int32 := fun j => if fr < j ∧ j < n then f (j + g) else f j
theorem shF_0 (f : Nat → Int32) (fr g : Nat) : shF f fr g (fr + 1) = f := by
  funext j
  exact if_neg (fun h => by omega)
theorem shF_r (f : Nat → Int32) (fr g e : Nat) : shF f fr g e (e + g) = f (e + g) := if_neg (fun h => by omega)
theorem shF_s (f : Nat → Int32) {fr g e : Nat} (h : fr < e) : upd (shF f fr g e) e (f (e + g)) = shF f fr g (e + 1) := by
  funext j
  unfold upd shF
  by_cases q : j = e
  · rw [if_pos q, if_pos (by omega), q]
  · rw [if_neg q]
    by_cases q2 : fr < j ∧ j < e
    · rw [if_pos q2, if_pos (by omega)]
    · rw [if_neg q2, if_neg (by omega)]
theorem shF_lo (f : Nat → Int32) {fr g n j : Nat} (h : j ≤ fr) : shF f fr g n j = f j := if_neg (fun z => by omega)
theorem shF_hi (f : Nat → Int32) {fr g n j : Nat} (h : fr < j) (h2 : j < n) : shF f fr g n j = f (j + g) := if_pos ⟨h, h2⟩
theorem shF_bl {f : Nat → Int32} (h : ∀ j, bl (f j)) (fr g n j : Nat) : bl (shF f fr g n j) := by
  unfold shF
  split
  · exact h _
  · exact h _
def jnM (σ : Mem) (ln : Nat → Nat) (fr to N : Nat) : Mem := ar (st σ 7 1 (nI (N - (to - fr)))) (shF (σ 8) fr (to - fr) (N - (to - fr))) (shF (upd (σ 9) fr (nI (pos ln (to + 1) - pos ln fr))) fr (to - fr) (N - (to - fr))) (shF (upd (σ 10) fr 0) fr (to - fr) (N - (to - fr))) (shF (σ 11) fr (to - fr) (N - (to - fr))) (shF (σ 12) fr (to - fr) (N - (to - fr)))
theorem jnM_ne (σ : Mem) (ln : Nat → Nat) (fr to N a : Nat) (h7 : a ≠ 7) (h8 : a ≠ 8) (h9 : a ≠ 9) (h10 : a ≠ 10) (h11 : a ≠ 11) (h12 : a ≠ 12) : jnM σ ln fr to N a = σ a := by
  unfold jnM
  rw [ar_ne _ _ _ _ _ _ a h8 h9 h10 h11 h12, st_ne _ _ _ h7]
theorem jnM_7 (σ : Mem) (ln : Nat → Nat) (fr to N k : Nat) (h : k ≠ 1) : jnM σ ln fr to N 7 k = σ 7 k := by
  show upd (σ 7) 1 _ k = σ 7 k
  exact upd_n _ _ h
theorem MP.jn {σ : Mem} {N : Nat} {ln kd : Nat → Nat} (h : MP σ N ln kd) {fr to : Nat} (hft : fr ≤ to) (ht : to < N) : MP (jnM σ ln fr to N) (N - (to - fr)) (jln ln fr to) (jkd kd fr to) := by
  refine ⟨h.1.jn hft ht, rfl, fun i hi => ?_⟩
  show shF (σ 8) fr (to - fr) (N - (to - fr)) i = _ ∧ shF (upd (σ 9) fr (nI (pos ln (to + 1) - pos ln fr))) fr (to - fr) (N - (to - fr)) i = _ ∧ shF (upd (σ 10) fr 0) fr (to - fr) (N - (to - fr)) i = _ ∧ (_ → shF (σ 11) fr (to - fr) (N - (to - fr)) i = _)
  rcases Nat.lt_trichotomy i fr with q | q | q
  · obtain ⟨m8, m9, m10, m11⟩ := h.2.2 i (by omega)
    rw [shF_lo _ (by omega), shF_lo _ (by omega), shF_lo _ (by omega), shF_lo _ (by omega), upd_n _ _ (by omega), upd_n _ _ (by omega), jln_lo q, jkd_lo q, jpos_lo (by omega)]
    exact ⟨m8, m9, m10, m11⟩
  · subst q
    obtain ⟨m8, m9, m10, m11⟩ := h.2.2 i (by omega)
    rw [shF_lo _ (by omega), shF_lo _ (by omega), shF_lo _ (by omega), shF_lo _ (by omega), upd_s, upd_s, jln_at, jkd_at, jpos_lo (by omega)]
    exact ⟨m8, rfl, rfl, fun z => absurd rfl z⟩
  · obtain ⟨m8, m9, m10, m11⟩ := h.2.2 (i + (to - fr)) (by omega)
    rw [shF_hi _ q hi, shF_hi _ q hi, shF_hi _ q hi, shF_hi _ q hi, upd_n _ _ (by omega), upd_n _ _ (by omega), jln_hi q, jkd_hi q, jpos_hi hft q]
    exact ⟨m8, m9, m10, m11⟩
def mi_M_join : MI := (b_M_join, 5, "RootedWordsModel", none, 0, tbl_of 159 f_M_join, fl_M, [], [])
theorem ok_M_join : MOK mi_M_join := ⟨tbl_ok k_M_join, flok_M rfl, (fun _ h => absurd h List.not_mem_nil)⟩
theorem si_M_join : ∀ q ∈ m_tr mi_M_join, SiteF mi_M_join q := (fun _ h => absurd h List.not_mem_nil)
theorem c_M_join_63 {X : CT} {oc : OC} (hX : CxO X mi_M_join oc) (τ : Mem) (A B C D E : Nat → Int32) (fr g n' : Nat) (a2 : Option AV) (hn : τ 7 1 = nI n') (hg : n' + g ≤ 86) (hC : ∀ j, j < n' + g → bl (C j)) (hE : ∀ j, bl (E j))
    (ho : oc = .inl (none, ar τ (shF A fr g n') (shF B fr g n') (shF C fr g n') (shF D fr g n') (shF E fr g n'))) : ∀ (n e : Nat), e + n = n' → fr < e →
    Go X mi_M_join 63 [some (.inr (.inl 7)), some (.inl (nI fr)), a2, some (.inl (nI g)), some (.inl (nI e))] [] (ar τ (shF A fr g e) (shF B fr g e) (shF C fr g e) (shF D fr g e) (shF E fr g e)) := by
  intro n
  induction n with
  | zero =>
    intro e he hfe
    obtain rfl : e = n' := by omega
    refine Go_run ok_M_join hX [63] 80 (fun K R1 T1 hK hR hT => ?_)
    conv => whnf
    have hn' : ar τ (shF A fr g e) (shF B fr g e) (shF C fr g e) (shF D fr g e) (shF E fr g e) 7 1 = nI e := hn
    rw [hn']
    refine ⟨fun _ => ?_, fun z => absurd (nI_le (Nat.le_refl _) (by omega)) z⟩
    conv => whnf
    exact hR _ _ ho
  | succ n ih =>
    intro e he hfe
    have e2 : nI e + nI 1 = nI (e + 1) := nI_add e 1
    have e3 : nI e + nI g = nI (e + g) := nI_add e g
    refine Go_run ok_M_join hX [63] 120 (fun K R1 T1 hK hR hT => ?_)
    conv => whnf
    have hn' : ar τ (shF A fr g e) (shF B fr g e) (shF C fr g e) (shF D fr g e) (shF E fr g e) 7 1 = nI n' := hn
    rw [hn']
    refine ⟨fun z => absurd z (nI_ge (by omega) (by omega)), fun _ => ?_⟩
    conv => whnf
    rw [e3]
    refine ⟨vp_in_nI (by omega) (by decide), ?_⟩
    rw [nI_clamp (by omega)]
    conv => whnf
    refine ⟨vp_in_nI (by omega) (by decide), ?_⟩
    rw [nI_clamp (by omega)]
    conv => whnf
    rw [e3]
    refine ⟨vp_in_nI (by omega) (by decide), ?_⟩
    rw [nI_clamp (by omega)]
    conv => whnf
    refine ⟨vp_in_nI (by omega) (by decide), ?_⟩
    rw [nI_clamp (by omega)]
    conv => whnf
    rw [e3]
    refine ⟨vp_in_nI (by omega) (by decide), ?_⟩
    rw [nI_clamp (by omega)]
    conv => whnf
    refine ⟨vp_in_nI (by omega) (by decide), ?_⟩
    rw [nI_clamp (by omega)]
    conv => whnf
    rw [e3]
    refine ⟨vp_in_nI (by omega) (by decide), ?_⟩
    rw [nI_clamp (by omega)]
    conv => whnf
    refine ⟨vp_in_nI (by omega) (by decide), ?_⟩
    rw [nI_clamp (by omega)]
    conv => whnf
    rw [e3]
    refine ⟨vp_in_nI (by omega) (by decide), ?_⟩
    rw [nI_clamp (by omega)]
    conv => whnf
    refine ⟨vp_in_nI (by omega) (by decide), ?_⟩
    rw [nI_clamp (by omega)]
    conv => whnf
    refine hK _ _ _ _ ?_
    show Go X mi_M_join 63 [some (.inr (.inl 7)), some (.inl (nI fr)), a2, some (.inl (nI g)), some (.inl (nI e + nI 1))] [] (st (st (st (st (st (ar τ (shF A fr g e) (shF B fr g e) (shF C fr g e) (shF D fr g e) (shF E fr g e)) 8 e (shF A fr g e (e + g))) 9 e (shF B fr g e (e + g))) 10 e (shF C fr g e (e + g) &&& 1)) 11 e (shF D fr g e (e + g))) 12 e (shF E fr g e (e + g) &&& 1))
    rw [e2, shF_r, shF_r, shF_r, shF_r, shF_r, bl_and (hC _ (by omega)), bl_and (hE _), ar_8, ar_9, ar_10, ar_11, ar_12, shF_s _ hfe, shF_s _ hfe, shF_s _ hfe, shF_s _ hfe, shF_s _ hfe]
    exact ih (e + 1) (by omega) (by omega)
theorem c_M_join_9 {X : CT} {oc : OC} (hX : CxO X mi_M_join oc) (σ : Mem) {N : Nat} {ln kd : Nat → Nat} (h : MP σ N ln kd) {fr to : Nat} (hft : fr ≤ to) (ht : to < N) (hm : ∀ j, bl (σ 12 j)) (ho : oc = .inl (none, jnM σ ln fr to N)) : ∀ (n e : Nat), e + n = to + 1 → fr < e →
    Go X mi_M_join 9 [some (.inr (.inl 7)), some (.inl (nI fr)), some (.inl (nI to)), some (.inl (nI (to - fr))), some (.inl (nI e))] [] (st σ 9 fr (nI (pos ln e - pos ln fr))) := by
  have hN := h.1.N85
  intro n
  induction n with
  | zero =>
    intro e he hfe
    obtain rfl : e = to + 1 := by omega
    have hx : st σ 9 fr (nI (pos ln (to + 1) - pos ln fr)) 7 1 = nI N := h.2.1
    have e2 : nI fr + nI 1 = nI (fr + 1) := nI_add _ _
    have e3 : nI N - nI (to - fr) = nI (N - (to - fr)) := pk_sub (by omega)
    have h63 := fun a2 => c_M_join_63 hX (st σ 7 1 (nI (N - (to - fr)))) (σ 8) (upd (σ 9) fr (nI (pos ln (to + 1) - pos ln fr))) (upd (σ 10) fr 0) (σ 11) (σ 12) fr (to - fr) (N - (to - fr)) a2 rfl (by omega) (fun j hj => ?_) hm ho (N - (to - fr) - (fr + 1)) (fr + 1) (by omega) (by omega)
    · rw [shF_0, shF_0, shF_0, shF_0, shF_0] at h63
      refine Go_run ok_M_join hX [63] 80 (fun K R1 T1 hK hR hT => ?_)
      conv => whnf
      refine ⟨fun _ => ?_, fun z => absurd (nI_lt (by omega) (by omega)) z⟩
      conv => whnf
      refine ⟨vp_in_nI (by omega) (by decide), ?_⟩
      rw [nI_clamp (by omega)]
      conv => whnf
      refine hK _ _ _ _ ?_
      show Go X mi_M_join 63 [some (.inr (.inl 7)), some (.inl (nI fr)), some (.inl (nI to)), some (.inl (nI (to - fr))), some (.inl (nI fr + nI 1))] [] (st (st (st σ 9 fr (nI (pos ln (to + 1) - pos ln fr))) 10 fr (nI 0 &&& 1)) 7 1 (st σ 9 fr (nI (pos ln (to + 1) - pos ln fr)) 7 1 - nI (to - fr)))
      rw [e2, hx, e3]
      have e4 : st (st (st σ 9 fr (nI (pos ln (to + 1) - pos ln fr))) 10 fr (nI 0 &&& 1)) 7 1 (nI (N - (to - fr))) = ar (st σ 7 1 (nI (N - (to - fr)))) (σ 8) (upd (σ 9) fr (nI (pos ln (to + 1) - pos ln fr))) (upd (σ 10) fr 0) (σ 11) (σ 12) := by
        conv => lhs; rw [← ar_self σ]
        rw [ar_9, ar_10, ar_7]; rfl
      rw [e4]
      exact h63 _
    · unfold upd
      split
      · exact Or.inl rfl
      · rw [(h.2.2 j (by omega)).2.2.1]; exact ub_bl _
  | succ n ih =>
    intro e he hfe
    have e2 : nI e + nI 1 = nI (e + 1) := nI_add e 1
    have he' : e < N := by omega
    have p1 := pos_mono (ln := ln) (i := fr) (j := e) (by omega)
    have r1 : st σ 9 fr (nI (pos ln e - pos ln fr)) 9 fr = nI (pos ln e - pos ln fr) := upd_s _ _ _
    have r2 : st σ 9 fr (nI (pos ln e - pos ln fr)) 9 e = nI (ln e) := (upd_n (σ 9) _ (by omega)).trans (h.2.2 e he').2.1
    refine Go_run ok_M_join hX [9] 80 (fun K R1 T1 hK hR hT => ?_)
    conv => whnf
    refine ⟨fun z => absurd z (nI_nlt (by omega) (by omega)), fun _ => ?_⟩
    conv => whnf
    refine ⟨vp_in_nI (by omega) (by decide), ?_⟩
    rw [nI_clamp (by omega), r1]
    conv => whnf
    refine ⟨vp_in_nI (by omega) (by decide), ?_⟩
    rw [nI_clamp (by omega), r2]
    conv => whnf
    refine ⟨vp_in_nI (by omega) (by decide), ?_⟩
    rw [nI_clamp (by omega)]
    conv => whnf
    refine hK _ _ _ _ ?_
    show Go X mi_M_join 9 [some (.inr (.inl 7)), some (.inl (nI fr)), some (.inl (nI to)), some (.inl (nI (to - fr))), some (.inl (nI e + nI 1))] [] (st (st σ 9 fr (nI (pos ln e - pos ln fr))) 9 fr (nI (pos ln e - pos ln fr) + nI (ln e)))
    have e3 : nI (pos ln e - pos ln fr) + nI (ln e) = nI (pos ln (e + 1) - pos ln fr) := by
      rw [nI_add]
      exact nI_eqI (by show _ = pos ln e + ln e - pos ln fr; omega)
    rw [e2, st_st, e3]
    exact ih (e + 1) (by omega) (by omega)
theorem c_M_join (σ : Mem) {N : Nat} {ln kd : Nat → Nat} (h : MP σ N ln kd) {fr to : Nat} (hft : fr ≤ to) (ht : to < N) (hm : ∀ j, bl (σ 12 j)) : MetO y_M_join mi_M_join [.inr (.inl 7), .inl (nI fr), .inl (nI to)] σ (.inl (none, jnM σ ln fr to N)) := by
  have hN := h.1.N85
  have e2 : nI fr + nI 1 = nI (fr + 1) := nI_add _ _
  have e3 : nI to - nI fr = nI (to - fr) := pk_sub hft
  refine met_go ok_M_join ⟨rfl, rfl⟩ si_M_join (Nat.le_of_ble_eq_true rfl) ⟨trivial, trivial, trivial, trivial⟩ [9] 60 (fun X hX K R1 T1 hK hR hT => ?_)
  conv => whnf
  refine hK _ _ _ _ ?_
  show Go X mi_M_join 9 [some (.inr (.inl 7)), some (.inl (nI fr)), some (.inl (nI to)), some (.inl (nI to - nI fr)), some (.inl (nI fr + nI 1))] [] σ
  rw [e2, e3]
  have h9 := c_M_join_9 hX σ h hft ht hm rfl (to - fr) (fr + 1) (by omega) (by omega)
  have e4 : nI (pos ln (fr + 1) - pos ln fr) = σ 9 fr := by
    rw [(h.2.2 fr (by omega)).2.1]
    exact nI_eqI (by show pos ln fr + ln fr - pos ln fr = _; omega)
  rw [e4, st_id] at h9
  exact h9
def ct_M_join : CTy := fun as σ KN _ => ∃ N ln kd fr to, as = [.inl (nI fr), .inl (nI to)] ∧ MP σ N ln kd ∧ fr ≤ to ∧ to < N ∧ (∀ j, bl (σ 12 j)) ∧ KN none (jnM σ ln fr to N)
theorem s_M_join : Snd y_M_join mi_M_join 7 2 ct_M_join := by
  intro as σ KN KX _ ⟨N, ln, kd, fr, to, e, h, h1, h2, h3, h4⟩
  subst e
  exact ⟨.inl (_, _), h4, c_M_join σ h h1 h2 h3⟩
/-- a row moved up by one behind e, from k on -/
def suF (f : Nat → Int32) (k N : Nat) : Nat → Int32 := fun j => if k < j ∧ j ≤ N then f (j - 1) else f j
theorem suF_N (f : Nat → Int32) (N : Nat) : suF f N N = f := by
  funext j
  exact if_neg (fun h => by omega)
theorem suF_r (f : Nat → Int32) (k N : Nat) : suF f (k + 1) N k = f k := if_neg (fun h => by omega)
theorem suF_s (f : Nat → Int32) {k N : Nat} (h : k + 1 ≤ N) : upd (suF f (k + 1) N) (k + 1) (f k) = suF f k N := by
  funext j
  unfold upd suF
  by_cases q : j = k + 1
  · rw [if_pos q, if_pos (by omega), q]; rfl
  · rw [if_neg q]
    by_cases q2 : k + 1 < j ∧ j ≤ N
    · rw [if_pos q2, if_pos (by omega)]
    · rw [if_neg q2, if_neg (by omega)]
theorem suF_lo (f : Nat → Int32) {k N j : Nat} (h : j ≤ k) : suF f k N j = f j := if_neg (fun z => by omega)
theorem suF_hi (f : Nat → Int32) {k N j : Nat} (h : k < j) (h2 : j ≤ N) : suF f k N j = f (j - 1) := if_pos ⟨h, h2⟩
def cuM (σ : Mem) (ln : Nat → Nat) (e m N : Nat) : Mem := ar (st σ 7 1 (nI (N + 1))) (upd (suF (σ 8) (e + 1) N) (e + 1) (nI (pos ln e + m))) (upd (upd (suF (σ 9) (e + 1) N) (e + 1) (nI (ln e - m))) e (nI m)) (upd (suF (σ 10) (e + 1) N) (e + 1) 0) (suF (σ 11) (e + 1) N) (σ 12)
def mi_M_cut : MI := (b_M_cut, 4, "RootedWordsModel", none, 0, tbl_of 133 f_M_cut, fl_M, [], [])
theorem ok_M_cut : MOK mi_M_cut := ⟨tbl_ok k_M_cut, flok_M rfl, (fun _ h => absurd h List.not_mem_nil)⟩
theorem si_M_cut : ∀ q ∈ m_tr mi_M_cut, SiteF mi_M_cut q := (fun _ h => absurd h List.not_mem_nil)
theorem c_M_cut_5 {X : CT} {oc : OC} (hX : CxO X mi_M_cut oc) (σ : Mem) {N : Nat} {ln kd : Nat → Nat} (h : MP σ N ln kd) {e m : Nat} (he : e < N) (hm : 3 ≤ m) (hm2 : m + 3 ≤ ln e) (ho : oc = .inl (none, cuM σ ln e m N)) : ∀ (n k : Nat), k = e + 1 + n → k ≤ N →
    Go X mi_M_cut 5 [some (.inr (.inl 7)), some (.inl (nI e)), some (.inl (nI m)), some (.inl (nI k))] [] (ar σ (suF (σ 8) k N) (suF (σ 9) k N) (suF (σ 10) k N) (suF (σ 11) k N) (σ 12)) := by
  have hN := (h.1.xn (k := 1) he hm (by omega) hm2).N85
  have e2 : nI e + nI 1 = nI (e + 1) := nI_add _ _
  have gl := h.1.lt he
  intro n
  induction n with
  | zero =>
    intro k hk hkN
    subst hk
    have hx : ar σ (suF (σ 8) (e + 1) N) (suF (σ 9) (e + 1) N) (suF (σ 10) (e + 1) N) (suF (σ 11) (e + 1) N) (σ 12) 7 1 = nI N := h.2.1
    have e4 : nI N + nI 1 = nI (N + 1) := nI_add _ _
    obtain ⟨m8, m9, m10, m11⟩ := h.2.2 e he
    refine Go_run ok_M_cut hX [] 120 (fun K R1 T1 hK hR hT => ?_)
    conv => whnf
    rw [e2]
    refine ⟨fun _ => ?_, fun z => absurd (nI_le (by omega) (by omega)) z⟩
    conv => whnf
    refine ⟨vp_in_nI (by omega) (by decide), ?_⟩
    rw [nI_clamp (by omega)]
    conv => whnf
    rw [e2]
    refine ⟨vp_in_nI (by omega) (by decide), ?_⟩
    rw [nI_clamp (by omega)]
    conv => whnf
    refine ⟨vp_in_nI (by omega) (by decide), ?_⟩
    rw [nI_clamp (by omega)]
    conv => whnf
    rw [e2]
    refine ⟨vp_in_nI (by omega) (by decide), ?_⟩
    rw [nI_clamp (by omega)]
    conv => whnf
    rw [e2]
    refine ⟨vp_in_nI (by omega) (by decide), ?_⟩
    rw [nI_clamp (by omega)]
    conv => whnf
    refine ⟨vp_in_nI (by omega) (by decide), ?_⟩
    rw [nI_clamp (by omega)]
    conv => whnf
    refine hR _ _ ?_
    rw [ho]
    have e5 : nI (pos ln e) + nI m = nI (pos ln e + m) := nI_add _ _
    have e6 : nI (ln e) - nI m = nI (ln e - m) := pk_sub (by omega)
    unfold cuM
    rw [← e5, ← e6, ← e4, ← ar_9, ← ar_10, ← ar_9, ← ar_8, ← ar_7, ← m8, ← m9, ← suF_lo (σ 8) (k := e + 1) (N := N) (j := e) (by omega), ← suF_lo (σ 9) (k := e + 1) (N := N) (j := e) (by omega), ← hx]
    rfl
  | succ n ih =>
    intro k hk hkN
    obtain ⟨k, rfl⟩ : ∃ k', k = k' + 1 := ⟨e + 1 + n, by omega⟩
    have e3 : nI (k + 1) - nI 1 = nI k := nI_pred _
    refine Go_run ok_M_cut hX [5] 120 (fun K R1 T1 hK hR hT => ?_)
    conv => whnf
    rw [e2]
    refine ⟨fun z => absurd z (nI_ge (by omega) (by omega)), fun _ => ?_⟩
    conv => whnf
    rw [e3]
    refine ⟨vp_in_nI (by omega) (by decide), ?_⟩
    rw [nI_clamp (by omega)]
    conv => whnf
    refine ⟨vp_in_nI (by omega) (by decide), ?_⟩
    rw [nI_clamp (by omega)]
    conv => whnf
    rw [e3]
    refine ⟨vp_in_nI (by omega) (by decide), ?_⟩
    rw [nI_clamp (by omega)]
    conv => whnf
    refine ⟨vp_in_nI (by omega) (by decide), ?_⟩
    rw [nI_clamp (by omega)]
    conv => whnf
    rw [e3]
    refine ⟨vp_in_nI (by omega) (by decide), ?_⟩
    rw [nI_clamp (by omega)]
    conv => whnf
    refine ⟨vp_in_nI (by omega) (by decide), ?_⟩
    rw [nI_clamp (by omega)]
    conv => whnf
    rw [e3]
    refine ⟨vp_in_nI (by omega) (by decide), ?_⟩
    rw [nI_clamp (by omega)]
    conv => whnf
    refine ⟨vp_in_nI (by omega) (by decide), ?_⟩
    rw [nI_clamp (by omega)]
    conv => whnf
    refine hK _ _ _ _ ?_
    show Go X mi_M_cut 5 [some (.inr (.inl 7)), some (.inl (nI e)), some (.inl (nI m)), some (.inl (nI (k + 1) + -1))] [] (st (st (st (st (ar σ (suF (σ 8) (k + 1) N) (suF (σ 9) (k + 1) N) (suF (σ 10) (k + 1) N) (suF (σ 11) (k + 1) N) (σ 12)) 8 (k + 1) (suF (σ 8) (k + 1) N k)) 9 (k + 1) (suF (σ 9) (k + 1) N k)) 10 (k + 1) (suF (σ 10) (k + 1) N k &&& 1)) 11 (k + 1) (suF (σ 11) (k + 1) N k))
    have e4 : nI (k + 1) + -1 = nI k := by rw [← Int32.sub_eq_add_neg]; exact e3
    have hb : bl (σ 10 k) := by rw [(h.2.2 k (by omega)).2.2.1]; exact ub_bl _
    rw [e4, suF_r, suF_r, suF_r, suF_r, bl_and hb, ar_8, ar_9, ar_10, ar_11, suF_s _ hkN, suF_s _ hkN, suF_s _ hkN, suF_s _ hkN]
    exact ih k (by omega) (by omega)
theorem c_M_cut (σ : Mem) {N : Nat} {ln kd : Nat → Nat} (h : MP σ N ln kd) {e m : Nat} (he : e < N) (hm : 3 ≤ m) (hm2 : m + 3 ≤ ln e) : MetO y_M_cut mi_M_cut [.inr (.inl 7), .inl (nI e), .inl (nI m)] σ (.inl (none, cuM σ ln e m N)) := by
  refine met_go ok_M_cut ⟨rfl, rfl⟩ si_M_cut (Nat.le_of_ble_eq_true rfl) ⟨trivial, trivial, trivial, trivial⟩ [5] 60 (fun X hX K R1 T1 hK hR hT => ?_)
  conv => whnf
  rw [h.2.1]
  refine hK _ _ _ _ ?_
  have h9 := c_M_cut_5 hX σ h he hm hm2 rfl (N - (e + 1)) N (by omega) (Nat.le_refl _)
  rw [suF_N, suF_N, suF_N, suF_N, ar_self] at h9
  exact h9
def ct_M_cut : CTy := fun as σ KN _ => ∃ N ln kd e m, as = [.inl (nI e), .inl (nI m)] ∧ MP σ N ln kd ∧ e < N ∧ 3 ≤ m ∧ m + 3 ≤ ln e ∧ KN none (cuM σ ln e m N)
theorem s_M_cut : Snd y_M_cut mi_M_cut 7 2 ct_M_cut := by
  intro as σ KN KX _ ⟨N, ln, kd, e, m, ea, h, h1, h2, h3, h4⟩
  subst ea
  exact ⟨.inl (_, _), h4, c_M_cut σ h h1 h2 h3⟩
