/-! the heap, abstractly: N extents, their lengths, their kinds (0 free, one more than the pointers of a used one) -/
def pos (ln : Nat → Nat) : Nat → Nat
  | 0 => 1
  | i + 1 => pos ln i + ln i
def HP (w : Nat → Int32) (N : Nat) (ln kd : Nat → Nat) : Prop := pos ln N = 257 ∧ ∀ i, i < N → 3 ≤ ln i ∧ kd i + 1 ≤ ln i ∧ w (pos ln i) = nI (256 * ln i + kd i) ∧ w (pos ln i + ln i - 1) = nI (256 * ln i + kd i)
theorem pos_mono {ln : Nat → Nat} {i : Nat} : ∀ {j : Nat}, i ≤ j → pos ln i ≤ pos ln j
  | 0, h => by obtain rfl : i = 0 := by omega
               exact Nat.le_refl _
  | j + 1, h => by
    rcases Nat.lt_or_ge j i with q | q
    · obtain rfl : i = j + 1 := by omega
      exact Nat.le_refl _
    · exact Nat.le_trans (pos_mono (j := j) q) (Nat.le_add_right _ _)
theorem pos_lo {ln : Nat → Nat} {N : Nat} (h : ∀ i, i < N → 3 ≤ ln i) : ∀ i, i ≤ N → 1 + 3 * i ≤ pos ln i
  | 0, _ => Nat.le_refl _
  | i + 1, hi => by
    have h1 := pos_lo h i (by omega)
    have h2 := h i (by omega)
    show 1 + 3 * (i + 1) ≤ pos ln i + ln i
    omega
theorem pos_pos (ln : Nat → Nat) : ∀ i, 1 ≤ pos ln i
  | 0 => Nat.le_refl _
  | i + 1 => Nat.le_trans (pos_pos ln i) (Nat.le_add_right _ _)
section HP
variable {w : Nat → Int32} {N : Nat} {ln kd : Nat → Nat}
theorem HP.ln3 (h : HP w N ln kd) {i : Nat} (hi : i < N) : 3 ≤ ln i := (h.2 i hi).1
theorem HP.kdl (h : HP w N ln kd) {i : Nat} (hi : i < N) : kd i + 1 ≤ ln i := (h.2 i hi).2.1
theorem HP.tag (h : HP w N ln kd) {i : Nat} (hi : i < N) : w (pos ln i) = nI (256 * ln i + kd i) := (h.2 i hi).2.2.1
theorem HP.tag2 (h : HP w N ln kd) {i : Nat} (hi : i < N) : w (pos ln i + ln i - 1) = nI (256 * ln i + kd i) := (h.2 i hi).2.2.2
theorem HP.end (h : HP w N ln kd) {i : Nat} (hi : i < N) : pos ln i + ln i ≤ 257 := by
  have h1 := pos_mono (ln := ln) (i := i + 1) (j := N) hi
  rw [h.1] at h1
  exact h1
theorem HP.N85 (h : HP w N ln kd) : N ≤ 85 := by
  have h1 := pos_lo (fun i hi => h.ln3 hi) N (Nat.le_refl N)
  rw [h.1] at h1
  omega
theorem HP.pos1 (h : HP w N ln kd) : 1 ≤ N := by
  rcases Nat.eq_zero_or_pos N with q | q
  · have h1 := h.1
    rw [q] at h1
    exact absurd h1 (by show ¬ 1 = 257; decide)
  · exact q
theorem HP.lt (h : HP w N ln kd) {i : Nat} (hi : i < N) : pos ln i ≤ 254 ∧ pos ln i + 1 < 257 ∧ ln i ≤ 256 ∧ kd i < 256 ∧ 1 ≤ pos ln i := by
  have h1 := h.end hi
  have h2 := h.ln3 hi
  have h3 := h.kdl hi
  have h4 := pos_pos ln i
  omega
theorem HP.inj (h : HP w N ln kd) {i j : Nat} (hi : i < N) (hj : j < N) (e : pos ln i = pos ln j) : i = j := by
  rcases Nat.lt_trichotomy i j with q | q | q
  · have h1 := pos_mono (ln := ln) (i := i + 1) (j := j) q
    have h2 := h.ln3 hi
    have : pos ln (i + 1) = pos ln i + ln i := rfl
    omega
  · exact q
  · have h1 := pos_mono (ln := ln) (i := j + 1) (j := i) q
    have h2 := h.ln3 hj
    have : pos ln (j + 1) = pos ln j + ln j := rfl
    omega
theorem HP.sep (h : HP w N ln kd) {i j : Nat} (hi : i < N) (q : i < j) : pos ln i + ln i ≤ pos ln j := pos_mono (ln := ln) (i := i + 1) (j := j) q
/-- what the heap is, is read of the words 1 .. 256 alone -/
theorem HP.cong {v : Nat → Int32} (h : HP w N ln kd) (e : ∀ j, 1 ≤ j → j ≤ 256 → v j = w j) : HP v N ln kd := by
  refine ⟨h.1, fun i hi => ?_⟩
  have h1 := h.lt hi
  have h2 := h.end hi
  have h3 := h.ln3 hi
  refine ⟨h3, h.kdl hi, ?_, ?_⟩
  · rw [e _ (by omega) (by omega)]; exact h.tag hi
  · rw [e _ (by omega) (by omega)]; exact h.tag2 hi
end HP
theorem nI_inj {a b : Nat} (ha : a < 2 ^ 31) (hb : b < 2 ^ 31) (h : nI a = nI b) : a = b := (nI_eq ha hb).mp h
theorem nI_eqI {a b : Nat} (h : a = b) : nI a = nI b := by rw [h]
theorem tag_len {n k : Nat} (hk : k < 256) (hn : n < 1000) : nI (256 * n + k) / nI 256 = nI n := by
  rw [pk_div (by omega) (by decide) (by decide)]
  exact nI_eqI (by omega)
theorem tag_kind {n k : Nat} (hk : k < 256) (hn : n < 1000) : nI (256 * n + k) - nI (256 * n + k) / nI 256 * nI 256 = nI k := by
  rw [pk_rem (by omega) (by decide) (by decide)]
  exact nI_eqI (by omega)
/-- an array as a whole -/
def stA (σ : Mem) (o : Nat) (f : Nat → Int32) : Mem := fun a => if a = o then f else σ a
theorem st_stA (σ : Mem) (o k : Nat) (v : Int32) : st σ o k v = stA σ o (upd (σ o) k v) := rfl
theorem stA_self (σ : Mem) (o : Nat) (f : Nat → Int32) : stA σ o f o = f := if_pos rfl
theorem stA_ne (σ : Mem) {o a : Nat} (f : Nat → Int32) (h : a ≠ o) : stA σ o f a = σ a := if_neg h
theorem stA_stA (σ : Mem) (o : Nat) (f g : Nat → Int32) : stA (stA σ o f) o g = stA σ o g := by
  funext a
  unfold stA
  split <;> rfl
theorem stA_id (σ : Mem) (o : Nat) : stA σ o (σ o) = σ := by
  funext a
  unfold stA
  split
  · rename_i h; rw [h]
  · rfl
theorem stA_comm (σ : Mem) {o p : Nat} (f g : Nat → Int32) (h : o ≠ p) : stA (stA σ o f) p g = stA (stA σ p g) o f := by
  funext a
  unfold stA
  by_cases h1 : a = o
  · rw [if_pos h1, if_neg (by rw [h1]; exact h), if_pos h1]
  · rw [if_neg h1, if_neg h1]
/-- the first i places filled -/
def fl0 (g f : Nat → Int32) (i : Nat) : Nat → Int32 := fun j => if j < i then g j else f j
theorem fl0_0 (g f : Nat → Int32) : fl0 g f 0 = f := funext fun _ => if_neg (Nat.not_lt_zero _)
theorem fl0_s (g f : Nat → Int32) (i : Nat) : upd (fl0 g f i) i (g i) = fl0 g f (i + 1) := by
  funext j
  unfold upd fl0
  by_cases h : j = i
  · rw [if_pos h, if_pos (by omega), h]
  · rw [if_neg h]
    by_cases h2 : j < i
    · rw [if_pos h2, if_pos (by omega)]
    · rw [if_neg h2, if_neg (by omega)]
theorem fl0_in {g f : Nat → Int32} {i j : Nat} (h : j < i) : fl0 g f i j = g j := if_pos h
theorem fl0_out {g f : Nat → Int32} {i j : Nat} (h : i ≤ j) : fl0 g f i j = f j := if_neg (by omega)
def lsF (σ : Mem) (ln : Nat → Nat) (N : Nat) : Mem := stA σ 4 (fl0 (fun j => nI (pos ln j)) (σ 4) N)
theorem lsF_ne (σ : Mem) (ln : Nat → Nat) (N a : Nat) (h : a ≠ 4) : lsF σ ln N a = σ a := stA_ne _ _ h
theorem lsF_4 (σ : Mem) (ln : Nat → Nat) (N j : Nat) (h : j < N) : lsF σ ln N 4 j = nI (pos ln j) := by
  unfold lsF
  rw [stA_self, fl0_in h]
theorem lsF_lsF (σ : Mem) (ln : Nat → Nat) (N : Nat) : lsF (lsF σ ln N) ln N = lsF σ ln N := by
  unfold lsF
  rw [stA_stA, stA_self]
  congr 1
  funext j
  unfold fl0
  by_cases h : j < N
  · rw [if_pos h, if_pos h]
  · rw [if_neg h, if_neg h]
