/-! ===== the heap, abstractly: extents joined, an extent cut ===== -/
theorem pos_cong {ln ln' : Nat → Nat} : ∀ i, (∀ j, j < i → ln' j = ln j) → pos ln' i = pos ln i
  | 0, _ => rfl
  | i + 1, h => by
    show pos ln' i + ln' i = pos ln i + ln i
    rw [pos_cong i (fun j hj => h j (by omega)), h i (by omega)]
theorem pos_shift {ln ln' : Nat → Nat} {a b : Nat} (h0 : pos ln' a = pos ln b) : ∀ n, (∀ j, j < n → ln' (a + j) = ln (b + j)) → pos ln' (a + n) = pos ln (b + n)
  | 0, _ => h0
  | n + 1, h => by
    show pos ln' (a + n) + ln' (a + n) = pos ln (b + n) + ln (b + n)
    rw [pos_shift h0 n (fun j hj => h j (by omega)), h n (by omega)]
/-- the extents from one to another one become one that is free -/
def jln (ln : Nat → Nat) (fr to : Nat) : Nat → Nat := fun i => if i < fr then ln i else if i = fr then pos ln (to + 1) - pos ln fr else ln (i + (to - fr))
def jkd (kd : Nat → Nat) (fr to : Nat) : Nat → Nat := fun i => if i < fr then kd i else if i = fr then 0 else kd (i + (to - fr))
/-- an extent cut behind so many words, and used with such a kind -/
def xln (ln : Nat → Nat) (e m : Nat) : Nat → Nat := fun i => if i < e then ln i else if i = e then m else if i = e + 1 then ln e - m else ln (i - 1)
def xkd (kd : Nat → Nat) (e k : Nat) : Nat → Nat := fun i => if i < e then kd i else if i = e then k else if i = e + 1 then 0 else kd (i - 1)
/-- an extent that is used with such a kind -/
def ukd (kd : Nat → Nat) (e k : Nat) : Nat → Nat := fun i => if i = e then k else kd i
section jn
variable {ln kd : Nat → Nat} {fr to : Nat}
theorem jln_lo {i : Nat} (h : i < fr) : jln ln fr to i = ln i := if_pos h
theorem jln_at : jln ln fr to fr = pos ln (to + 1) - pos ln fr := by unfold jln; rw [if_neg (Nat.lt_irrefl _), if_pos rfl]
theorem jln_hi {i : Nat} (h : fr < i) : jln ln fr to i = ln (i + (to - fr)) := by unfold jln; rw [if_neg (by omega), if_neg (by omega)]
theorem jkd_lo {i : Nat} (h : i < fr) : jkd kd fr to i = kd i := if_pos h
theorem jkd_at : jkd kd fr to fr = 0 := by unfold jkd; rw [if_neg (Nat.lt_irrefl _), if_pos rfl]
theorem jkd_hi {i : Nat} (h : fr < i) : jkd kd fr to i = kd (i + (to - fr)) := by unfold jkd; rw [if_neg (by omega), if_neg (by omega)]
theorem jpos_lo {i : Nat} (h : i ≤ fr) : pos (jln ln fr to) i = pos ln i := pos_cong i (fun j hj => jln_lo (by omega))
theorem jpos_hi (hft : fr ≤ to) {i : Nat} (h : fr < i) : pos (jln ln fr to) i = pos ln (i + (to - fr)) := by
  have h1 : pos (jln ln fr to) (fr + 1) = pos ln (to + 1) := by
    show pos (jln ln fr to) fr + jln ln fr to fr = _
    rw [jpos_lo (Nat.le_refl _), jln_at]
    have := pos_mono (ln := ln) (i := fr) (j := to + 1) (by omega)
    omega
  have h2 := pos_shift (ln' := jln ln fr to) (a := fr + 1) (b := to + 1) h1 (i - (fr + 1)) (fun j hj => by
    rw [jln_hi (by omega)]
    have : fr + 1 + j + (to - fr) = to + 1 + j := by omega
    rw [this])
  have e1 : fr + 1 + (i - (fr + 1)) = i := by omega
  have e2 : to + 1 + (i - (fr + 1)) = i + (to - fr) := by omega
  rw [e1, e2] at h2
  exact h2
theorem jlen (h : ∀ i, fr ≤ i → i ≤ to → 3 ≤ ln i) (hft : fr ≤ to) : 3 ≤ pos ln (to + 1) - pos ln fr ∧ pos ln fr + (pos ln (to + 1) - pos ln fr) = pos ln (to + 1) := by
  have h1 := pos_mono (ln := ln) (i := fr) (j := to) hft
  have h2 := h to hft (Nat.le_refl _)
  have h3 : pos ln (to + 1) = pos ln to + ln to := rfl
  omega
theorem HL.jn {N : Nat} (h : HL N ln kd) (hft : fr ≤ to) (ht : to < N) : HL (N - (to - fr)) (jln ln fr to) (jkd kd fr to) := by
  have h3 := jlen (ln := ln) (fr := fr) (to := to) (fun i _ h2 => h.ln3 (by omega)) hft
  refine ⟨?_, fun i hi => ?_⟩
  · rw [jpos_hi hft (by omega), Nat.sub_add_cancel (by omega)]
    exact h.1
  · rcases Nat.lt_trichotomy i fr with q | q | q
    · rw [jln_lo q, jkd_lo q]; exact h.2 i (by omega)
    · subst q
      rw [jln_at, jkd_at]; omega
    · rw [jln_hi q, jkd_hi q]; exact h.2 _ (by omega)
/-- the words behind a change of the tags at both ends of a row -/
theorem HP.jn {w v : Nat → Int32} {N : Nat} (h : HP w N ln kd) (hft : fr ≤ to) (ht : to < N) (hv1 : v (pos ln fr) = nI (256 * (pos ln (to + 1) - pos ln fr))) (hv2 : v (pos ln (to + 1) - 1) = nI (256 * (pos ln (to + 1) - pos ln fr)))
    (hv : ∀ i, i < N → (i < fr ∨ to < i) → v (pos ln i) = w (pos ln i) ∧ v (pos ln i + ln i - 1) = w (pos ln i + ln i - 1)) : HP v (N - (to - fr)) (jln ln fr to) (jkd kd fr to) := by
  have h3 := jlen (ln := ln) (fr := fr) (to := to) (fun i _ h2 => h.ln3 (by omega)) hft
  have h4 := HL.jn h.hl hft ht
  refine ⟨h4.1, fun i hi => ⟨h4.ln3 hi, h4.kdl hi, ?_⟩⟩
  rcases Nat.lt_trichotomy i fr with q | q | q
  · rw [jln_lo q, jkd_lo q, jpos_lo (by omega)]
    have h5 := hv i (by omega) (Or.inl q)
    rw [h5.1, h5.2]
    exact ⟨h.tag (by omega), h.tag2 (by omega)⟩
  · subst q
    rw [jln_at, jkd_at, jpos_lo (Nat.le_refl _), h3.2, hv1, hv2]
    exact ⟨rfl, rfl⟩
  · rw [jln_hi q, jkd_hi q, jpos_hi hft q]
    have h5 := hv (i + (to - fr)) (by omega) (Or.inr (by omega))
    rw [h5.1, h5.2]
    exact ⟨h.tag (by omega), h.tag2 (by omega)⟩
end jn
section xn
variable {ln kd : Nat → Nat} {e m k : Nat}
theorem xln_lo {i : Nat} (h : i < e) : xln ln e m i = ln i := if_pos h
theorem xln_at : xln ln e m e = m := by unfold xln; rw [if_neg (Nat.lt_irrefl _), if_pos rfl]
theorem xln_a1 : xln ln e m (e + 1) = ln e - m := by unfold xln; rw [if_neg (by omega), if_neg (by omega), if_pos rfl]
theorem xln_hi {i : Nat} (h : e + 1 < i) : xln ln e m i = ln (i - 1) := by unfold xln; rw [if_neg (by omega), if_neg (by omega), if_neg (by omega)]
theorem xkd_lo {i : Nat} (h : i < e) : xkd kd e k i = kd i := if_pos h
theorem xkd_at : xkd kd e k e = k := by unfold xkd; rw [if_neg (Nat.lt_irrefl _), if_pos rfl]
theorem xkd_a1 : xkd kd e k (e + 1) = 0 := by unfold xkd; rw [if_neg (by omega), if_neg (by omega), if_pos rfl]
theorem xkd_hi {i : Nat} (h : e + 1 < i) : xkd kd e k i = kd (i - 1) := by unfold xkd; rw [if_neg (by omega), if_neg (by omega), if_neg (by omega)]
theorem xpos_lo {i : Nat} (h : i ≤ e) : pos (xln ln e m) i = pos ln i := pos_cong i (fun j hj => xln_lo (by omega))
theorem xpos_a1 : pos (xln ln e m) (e + 1) = pos ln e + m := by
  show pos (xln ln e m) e + xln ln e m e = _
  rw [xpos_lo (Nat.le_refl _), xln_at]
theorem xpos_hi (hm : m ≤ ln e) {i : Nat} (h : e + 1 < i) : pos (xln ln e m) i = pos ln (i - 1) := by
  have h1 : pos (xln ln e m) (e + 2) = pos ln (e + 1) := by
    show pos (xln ln e m) (e + 1) + xln ln e m (e + 1) = pos ln e + ln e
    rw [xpos_a1, xln_a1]
    omega
  have h2 := pos_shift (ln' := xln ln e m) (a := e + 2) (b := e + 1) h1 (i - (e + 2)) (fun j hj => by
    rw [xln_hi (by omega)]
    have : e + 2 + j - 1 = e + 1 + j := by omega
    rw [this])
  have e1 : e + 2 + (i - (e + 2)) = i := by omega
  have e2 : e + 1 + (i - (e + 2)) = i - 1 := by omega
  rw [e1, e2] at h2
  exact h2
theorem HL.xn {N : Nat} (h : HL N ln kd) (he : e < N) (hm : 3 ≤ m) (hk : k + 1 ≤ m) (hm2 : m + 3 ≤ ln e) : HL (N + 1) (xln ln e m) (xkd kd e k) := by
  refine ⟨?_, fun i hi => ?_⟩
  · rw [xpos_hi (by omega) (by omega)]
    exact h.1
  · rcases Nat.lt_trichotomy i e with q | q | q
    · rw [xln_lo q, xkd_lo q]; exact h.2 i (by omega)
    · subst q
      rw [xln_at, xkd_at]; omega
    · rcases Nat.lt_or_ge (e + 1) i with q2 | q2
      · rw [xln_hi q2, xkd_hi q2]; exact h.2 _ (by omega)
      · obtain rfl : i = e + 1 := by omega
        rw [xln_a1, xkd_a1]; omega
theorem HP.xn {w v : Nat → Int32} {N : Nat} (h : HP w N ln kd) (he : e < N) (hm : 3 ≤ m) (hk : k + 1 ≤ m) (hm2 : m + 3 ≤ ln e) (hv1 : v (pos ln e) = nI (256 * m + k)) (hv2 : v (pos ln e + m - 1) = nI (256 * m + k)) (hv3 : v (pos ln e + m) = nI (256 * (ln e - m))) (hv4 : v (pos ln e + ln e - 1) = nI (256 * (ln e - m)))
    (hv : ∀ i, i < N → i ≠ e → v (pos ln i) = w (pos ln i) ∧ v (pos ln i + ln i - 1) = w (pos ln i + ln i - 1)) : HP v (N + 1) (xln ln e m) (xkd kd e k) := by
  have h4 := HL.xn h.hl he hm hk hm2
  refine ⟨h4.1, fun i hi => ⟨h4.ln3 hi, h4.kdl hi, ?_⟩⟩
  rcases Nat.lt_trichotomy i e with q | q | q
  · rw [xln_lo q, xkd_lo q, xpos_lo (by omega)]
    have h5 := hv i (by omega) (by omega)
    rw [h5.1, h5.2]
    exact ⟨h.tag (by omega), h.tag2 (by omega)⟩
  · subst q
    rw [xln_at, xkd_at, xpos_lo (Nat.le_refl _)]
    exact ⟨hv1, hv2⟩
  · rcases Nat.lt_or_ge (e + 1) i with q2 | q2
    · rw [xln_hi q2, xkd_hi q2, xpos_hi (by omega) q2]
      have h5 := hv (i - 1) (by omega) (by omega)
      rw [h5.1, h5.2]
      exact ⟨h.tag (by omega), h.tag2 (by omega)⟩
    · obtain rfl : i = e + 1 := by omega
      rw [xln_a1, xkd_a1, xpos_a1]
      have e1 : pos ln e + m + (ln e - m) - 1 = pos ln e + ln e - 1 := by omega
      rw [e1, hv3, hv4]
      exact ⟨rfl, rfl⟩
theorem HL.un {N : Nat} (h : HL N ln kd) (he : e < N) (hk : k + 1 ≤ ln e) : HL N ln (ukd kd e k) := by
  refine ⟨h.1, fun i hi => ⟨h.ln3 hi, ?_⟩⟩
  unfold ukd
  by_cases q : i = e
  · rw [if_pos q, q]; exact hk
  · rw [if_neg q]; exact h.kdl hi
theorem HP.un {w v : Nat → Int32} {N : Nat} (h : HP w N ln kd) (he : e < N) (hk : k + 1 ≤ ln e) (hv1 : v (pos ln e) = nI (256 * ln e + k)) (hv2 : v (pos ln e + ln e - 1) = nI (256 * ln e + k))
    (hv : ∀ i, i < N → i ≠ e → v (pos ln i) = w (pos ln i) ∧ v (pos ln i + ln i - 1) = w (pos ln i + ln i - 1)) : HP v N ln (ukd kd e k) := by
  have h4 := HL.un h.hl he hk
  refine ⟨h4.1, fun i hi => ⟨h4.ln3 hi, h4.kdl hi, ?_⟩⟩
  unfold ukd
  by_cases q : i = e
  · subst q; rw [if_pos rfl]; exact ⟨hv1, hv2⟩
  · rw [if_neg q, (hv i hi q).1, (hv i hi q).2]
    exact ⟨h.tag hi, h.tag2 hi⟩
end xn
