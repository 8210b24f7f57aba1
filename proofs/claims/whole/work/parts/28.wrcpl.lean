/-! ===== writes, in closed form ===== -/
def apl : (Nat → Int32) → List (Nat × Int32) → Nat → Int32
  | w, [] => w
  | w, q :: l => apl (upd w q.1 q.2) l
theorem apl_app : ∀ (l1 l2 : List (Nat × Int32)) (w : Nat → Int32), apl w (l1 ++ l2) = apl (apl w l1) l2
  | [], _, _ => rfl
  | q :: l1, l2, w => apl_app l1 l2 (upd w q.1 q.2)
theorem apl_ne : ∀ (l : List (Nat × Int32)) (w : Nat → Int32) (p : Nat), (∀ q ∈ l, q.1 ≠ p) → apl w l p = w p
  | [], _, _, _ => rfl
  | q :: l, w, p, h => by
    show apl (upd w q.1 q.2) l p = w p
    rw [apl_ne l _ p (fun z hz => h z (List.mem_cons_of_mem _ hz)), upd_n _ _ (Ne.symm (h q List.mem_cons_self))]
theorem apl_pt : ∀ (l : List (Nat × Int32)) (w v : Nat → Int32) (p : Nat), w p = v p → apl w l p = apl v l p
  | [], _, _, _, h => h
  | q :: l, w, v, p, h => by
    refine apl_pt l (upd w q.1 q.2) (upd v q.1 q.2) p ?_
    unfold upd
    by_cases z : p = q.1
    · rw [if_pos z, if_pos z]
    · rw [if_neg z, if_neg z]; exact h
theorem apl_in : ∀ (l : List (Nat × Int32)) (w v : Nat → Int32) (p : Nat), (∃ q ∈ l, q.1 = p) → apl w l p = apl v l p
  | [], _, _, _, ⟨_, h, _⟩ => absurd h List.not_mem_nil
  | q :: l, w, v, p, h => by
    show apl (upd w q.1 q.2) l p = apl (upd v q.1 q.2) l p
    by_cases z : q.1 = p
    · refine apl_pt l _ _ p ?_
      rw [← z, upd_s, upd_s]
    · obtain ⟨q', h1, h2⟩ := h
      rcases List.mem_cons.mp h1 with rfl | h1
      · exact absurd h2 z
      · exact apl_in l _ _ p ⟨q', h1, h2⟩
/-- done again, from a place where some of it was done -/
theorem apl_again (l : List (Nat × Int32)) (m : Nat) (w : Nat → Int32) : apl (apl w (l.take m)) l = apl w l := by
  funext p
  by_cases h : ∃ q ∈ l, q.1 = p
  · exact apl_in l _ _ p h
  · refine apl_pt l _ _ p (apl_ne _ _ p (fun q hq z => h ⟨q, List.mem_of_mem_take hq, z⟩))
def o1 (f : Nat → Int32) (n : Nat) : Nat → Int32 := fun k => if k = 2 then f 2 + nI n else if k = 3 then lsub (f 3) n else f k
def o1F (f : Nat → Int32) (n : Nat) : Nat → Int32 := fun k => if k = 2 then f 2 + nI n else if k = 3 then -1 else if k = 4 then 1 else f k
theorem lsub_m1 (n : Nat) : lsub (-1) n = -1 := if_pos m1_lt
theorem lsub_n {j n : Nat} (h : n ≤ j) (h2 : j ≤ 1000) : lsub (nI j) n = nI (j - n) := by
  unfold lsub
  rw [if_neg (nI_pos (by omega)), pk_sub h]
theorem stA2 (σ : Mem) (w w' f f' : Nat → Int32) : stA (stA (stA (stA σ 2 w) 1 f) 2 w') 1 f' = stA (stA σ 2 w') 1 f' := by
  funext a
  unfold stA
  by_cases h1 : a = 1
  · rw [if_pos h1, if_pos h1]
  · rw [if_neg h1, if_neg h1]
    by_cases h2 : a = 2
    · rw [if_pos h2, if_neg h1, if_pos h2]
    · simp only [if_neg h1, if_neg h2]
theorem wrO_cl {σ : Mem} (p : Nat) (w : Int32) (h : lGo (σ 1 3) 1) : wrO σ p w = stA (stA σ 2 (upd (σ 2) p w)) 1 (o1 (σ 1) 1) := by
  have key : wrD σ = stA σ 1 (fun k => if k = 3 then lsub (σ 1 3) 1 else σ 1 k) := by
    unfold wrD
    rcases h with h | ⟨j, h1, h2, h3⟩
    · rw [h, lsub_m1, if_pos (by decide)]
      funext a
      unfold stA
      by_cases q : a = 1
      · rw [if_pos q, q]
        funext k
        by_cases q2 : k = 3
        · rw [if_pos q2, q2, h]
        · rw [if_neg q2]
      · rw [if_neg q]
    · rw [h3, lsub_n h1 h2, if_neg (fun z => by have := (nI_leI (a := j) (b := 0) (by omega) (by decide)).mp z; omega), st_stA]
      congr 1
      funext k
      unfold upd
      by_cases q2 : k = 3
      · rw [if_pos q2, if_pos q2]; exact pk_sub h1
      · rw [if_neg q2, if_neg q2]
  unfold wrO
  rw [key]
  funext a
  by_cases h1 : a = 1
  · rw [h1, st_self, stA_self, st_ne _ _ _ (by decide), stA_self]
    funext k
    unfold upd o1
    by_cases q : k = 2
    · rw [if_pos q, if_pos q]; rfl
    · rw [if_neg q, if_neg q]
  · rw [st_ne _ _ _ h1, stA_ne _ _ h1]
    by_cases h2 : a = 2
    · rw [h2, st_self, stA_self, stA_ne _ _ (by decide)]
    · rw [st_ne _ _ _ h2, stA_ne _ _ h1, stA_ne _ _ h2]
theorem o1_o1 (f : Nat → Int32) {n : Nat} (h : lGo (f 3) (n + 1)) : o1 (o1 f 1) n = o1 f (n + 1) := by
  funext k
  by_cases q : k = 2
  · subst q
    show f 2 + nI 1 + nI n = f 2 + nI (n + 1)
    rw [Int32.add_assoc, nI_add, Nat.add_comm]
  · by_cases q2 : k = 3
    · subst q2
      show lsub (lsub (f 3) 1) n = lsub (f 3) (n + 1)
      rcases h with h | ⟨j, h1, h2, h3⟩
      · rw [h, lsub_m1, lsub_m1, lsub_m1]
      · rw [h3, lsub_n (by omega) h2, lsub_n (by omega) (by omega), lsub_n h1 h2]
        exact nI_eqI (by omega)
    · simp only [o1, if_neg q, if_neg q2]
theorem o1_o1F (f : Nat → Int32) (n : Nat) : o1F (o1 f 1) n = o1F f (n + 1) := by
  funext k
  by_cases q : k = 2
  · subst q
    show f 2 + nI 1 + nI n = f 2 + nI (n + 1)
    rw [Int32.add_assoc, nI_add, Nat.add_comm]
  · simp only [o1F, o1, if_neg q]
    by_cases q2 : k = 3
    · rw [if_pos q2, if_pos q2]
    · rw [if_neg q2, if_neg q2, if_neg q2]
theorem lGo.one {x : Int32} {n : Nat} (h : lGo x (n + 1)) : lGo x 1 ∧ ¬ x = 0 ∧ lGo (lsub x 1) n := by
  rcases h with h | ⟨j, h1, h2, h3⟩
  · subst h
    exact ⟨Or.inl rfl, by decide, Or.inl (lsub_m1 1)⟩
  · subst h3
    refine ⟨Or.inr ⟨j, by omega, h2, rfl⟩, fun z => ?_, Or.inr ⟨j - 1, by omega, by omega, lsub_n (by omega) h2⟩⟩
    have := nI_inj (a := j) (b := 0) (by omega) (by decide) z
    omega
theorem wrs_go : ∀ (l : List (Nat × Int32)) (σ : Mem), lGo (σ 1 3) l.length → wrs σ l = (stA (stA σ 2 (apl (σ 2) l)) 1 (o1 (σ 1) l.length), false)
  | [], σ, h => by
    show (σ, false) = _
    have e : o1 (σ 1) 0 = σ 1 := by
      funext k
      unfold o1
      by_cases q : k = 2
      · rw [if_pos q, q]; exact Int32.add_zero _
      · rw [if_neg q]
        by_cases q2 : k = 3
        · rw [if_pos q2, q2]
          rcases h with h | ⟨j, h1, h2, h3⟩
          · rw [h, lsub_m1]
          · rw [h3]; exact lsub_n h1 h2
        · rw [if_neg q2]
    show _ = (stA (stA σ 2 (σ 2)) 1 (o1 (σ 1) 0), false)
    rw [e, stA_id, stA_id]
  | q :: l, σ, h => by
    obtain ⟨h1, h2, h3⟩ := lGo.one (n := l.length) h
    show (if σ 1 3 = 0 then (wrF σ, true) else wrs (wrO σ q.1 q.2) l) = _
    rw [if_neg h2, wrO_cl q.1 q.2 h1, wrs_go l _ h3, stA2]
    have e1 : stA (stA σ 2 (upd (σ 2) q.1 q.2)) 1 (o1 (σ 1) 1) 2 = upd (σ 2) q.1 q.2 := rfl
    have e2 : stA (stA σ 2 (upd (σ 2) q.1 q.2)) 1 (o1 (σ 1) 1) 1 = o1 (σ 1) 1 := rfl
    rw [e1, e2, o1_o1 _ h]; rfl
theorem wrs_fail : ∀ (l : List (Nat × Int32)) (σ : Mem) (j : Nat), j < l.length → j ≤ 1000 → σ 1 3 = nI j → wrs σ l = (stA (stA σ 2 (apl (σ 2) (l.take j))) 1 (o1F (σ 1) j), true)
  | [], _, _, h, _, _ => absurd h (Nat.not_lt_zero _)
  | q :: l, σ, 0, _, _, h => by
    show (if σ 1 3 = 0 then (wrF σ, true) else wrs (wrO σ q.1 q.2) l) = _
    rw [if_pos (show σ 1 3 = 0 from h)]
    show _ = (stA (stA σ 2 (σ 2)) 1 (o1F (σ 1) 0), true)
    rw [stA_id]
    unfold wrF
    rw [st_stA, st_stA, stA_stA, stA_self]
    congr 2
    funext k
    unfold upd o1F
    by_cases q : k = 2
    · rw [if_neg (by omega), if_neg (by omega), if_pos q, q]; exact (Int32.add_zero _).symm
    · rw [if_neg q]
      by_cases q2 : k = 4
      · rw [if_pos q2, if_neg (by omega), if_pos q2]
      · rw [if_neg q2]
        by_cases q3 : k = 3
        · rw [if_pos q3, if_pos q3]
        · rw [if_neg q3, if_neg q3, if_neg q2]
  | q :: l, σ, j + 1, hj, hj2, h => by
    obtain ⟨h1, h2, h3⟩ := lGo.one (x := σ 1 3) (n := 0) (Or.inr ⟨j + 1, by omega, hj2, h⟩)
    show (if σ 1 3 = 0 then (wrF σ, true) else wrs (wrO σ q.1 q.2) l) = _
    have e3 : stA (stA σ 2 (upd (σ 2) q.1 q.2)) 1 (o1 (σ 1) 1) 1 3 = nI j := by
      show lsub (σ 1 3) 1 = _
      rw [h, lsub_n (by omega) hj2]; rfl
    rw [if_neg h2, wrO_cl q.1 q.2 h1, wrs_fail l _ j (Nat.lt_of_succ_lt_succ hj) (by omega) e3, stA2]
    have e1 : stA (stA σ 2 (upd (σ 2) q.1 q.2)) 1 (o1 (σ 1) 1) 2 = upd (σ 2) q.1 q.2 := rfl
    have e2 : stA (stA σ 2 (upd (σ 2) q.1 q.2)) 1 (o1 (σ 1) 1) 1 = o1 (σ 1) 1 := rfl
    rw [e1, e2, o1_o1F]; rfl
theorem noteL_len (f : Nat → Int32) : ∀ n i, (noteL f i n).length = n
  | 0, _ => rfl
  | n + 1, i => congrArg Nat.succ (noteL_len f n (i + 1))
theorem plnL_len (f : Nat → Int32) : ∀ n i, (plnL f i n).length = n
  | 0, _ => rfl
  | n + 1, i => congrArg Nat.succ (plnL_len f n (i + 1))
theorem noteL_ge (f : Nat → Int32) : ∀ n i, ∀ q ∈ noteL f i n, 266 + i ≤ q.1
  | 0, _, _, h => absurd h List.not_mem_nil
  | n + 1, i, q, h => by
    rcases List.mem_cons.mp h with rfl | h
    · exact Nat.le_refl _
    · have := noteL_ge f n (i + 1) q h
      omega
theorem noteL_apl (f : Nat → Int32) : ∀ n i (w : Nat → Int32) t, i ≤ t → t < i + n → apl w (noteL f i n) (266 + t) = f t
  | 0, i, w, t, h1, h2 => absurd h2 (by omega)
  | n + 1, i, w, t, h1, h2 => by
    show apl (upd w (266 + i) (f i)) (noteL f (i + 1) n) (266 + t) = f t
    by_cases q : t = i
    · rw [apl_ne _ _ _ (fun z hz => by have := noteL_ge f n (i + 1) z hz; omega), q, upd_s]
    · exact noteL_apl f n (i + 1) _ t (by omega) (by omega)
theorem plnL_lt {f : Nat → Int32} {k : Nat} (h : plOK f k) : ∀ n i, i + n ≤ k → ∀ q ∈ plnL f i n, q.1 < 265
  | 0, _, _, _, hq => absurd hq List.not_mem_nil
  | n + 1, i, hi, q, hq => by
    rcases List.mem_cons.mp hq with rfl | hq
    · obtain ⟨p, h1, h2⟩ := h.2 i (by omega)
      show (f (2 * i)).toNatClampNeg < 265
      rw [h2, nI_clamp (by omega)]
      exact h1
    · exact plnL_lt h n (i + 1) (by omega) q hq
theorem chgL_len (f : Nat → Int32) (k : Nat) : (chgL f k).length = 3 * k + 2 := by
  unfold chgL
  rw [List.length_append, noteL_len, List.length_cons, List.length_append, plnL_len]
  show 2 * k + (k + 1 + 1) = _
  omega
/-- how a change of k words ends, by the writes that are left -/
def Rz (x : Int32) (k r : Nat) : Prop := (lGo x (3 * k + 2) ∧ r = 0) ∨ (∃ j, 2 * k < j ∧ j < 3 * k + 2 ∧ x = nI j ∧ r = 1) ∨ (∃ j, j ≤ 2 * k ∧ x = nI j ∧ r = 2)
theorem Rz.ex {x : Int32} (hl : lOK x) (k : Nat) : ∃ r, Rz x k r := by
  rcases lGo_or hl (3 * k + 2) with q | ⟨j, q1, q2, q3⟩
  · exact ⟨_, Or.inl ⟨q, rfl⟩⟩
  · rcases Nat.lt_or_ge (2 * k) j with z | z
    · exact ⟨_, Or.inr (Or.inl ⟨j, z, q1, q3, rfl⟩)⟩
    · exact ⟨_, Or.inr (Or.inr ⟨j, z, q3, rfl⟩)⟩
theorem Rz.dz {σ : Mem} {k r : Nat} (h : Rz (σ 7 10) k r) : ∃ σ1, Dz σ k r σ1 := by
  rcases h with ⟨q, rfl⟩ | ⟨j, z, q1, q3, rfl⟩ | ⟨j, z, q3, rfl⟩
  · exact ⟨_, Or.inl ⟨q, rfl, rfl⟩⟩
  · exact ⟨_, Or.inr (Or.inl ⟨j, z, q1, q3, rfl, rfl⟩)⟩
  · exact ⟨_, Or.inr (Or.inr ⟨j, z, q3, rfl, rfl⟩)⟩
/-- what is on the disk when the note is heeded -/
def eff (w : Nat → Int32) (k : Nat) : Nat → Int32 := apl w (fin w 0 k)
/-- a change of the class beside a change of the model -/
theorem chg_cpl {σ : Mem} {k r : Nat} {f : Nat → Int32} (hk : plOK f k) (h0 : σ 2 265 = 0) (hr : Rz (σ 1 3) k r) :
    ∃ σc kk, wrs σ (chgL f k) = (σc, decide (r ≠ 0)) ∧ (∀ a, a ≠ 1 → a ≠ 2 → σc a = σ a) ∧
      nOK (σc 2) kk ∧ (∀ p, p < 265 → eff (σc 2) kk p = if r < 2 then apl (σ 2) (plnL f 0 k) p else σ 2 p) ∧
      (r = 0 → kk = 0) ∧
      (∀ σ' σ1, Dz σ' k r σ1 → σ' 7 10 = σ 1 3 → σ' 7 9 = σ 1 2 → σ' 7 11 = σ 1 4 → σ' 7 12 = 0 → lOK (σ 1 3) → σc 1 2 = σ1 7 9 ∧ σc 1 3 = σ1 7 10 ∧ σc 1 4 = σ1 7 11 ∧ σ1 7 12 = nI kk ∧ lOK (σ1 7 10) ∧ (σ1 7 11 = if r = 0 then σ' 7 11 else 1)) := by
  have hlen := chgL_len f k
  have hk4 := hk.1
  have hpl := plnL_lt hk k 0 (by omega)
  rcases hr with ⟨q, rfl⟩ | ⟨j, z, q1, q3, rfl⟩ | ⟨j, z, q3, rfl⟩
  · refine ⟨_, 0, wrs_go _ σ (by rw [hlen]; exact q), fun a h1 h2 => by rw [stA_ne _ _ h1, stA_ne _ _ h2], ?_, fun p hp => ?_, fun _ => rfl, fun σ' σ1 hd e1 e2 e3 e4 hl => ?_⟩
    · refine ⟨?_, by omega, fun i hi => absurd hi (Nat.not_lt_zero i)⟩
      show apl (σ 2) (chgL f k) 265 = 0
      unfold chgL
      rw [apl_app]
      show apl _ (plnL f 0 k ++ [(265, 0)]) 265 = 0
      rw [apl_app]
      exact upd_s (apl (upd (apl (σ 2) (noteL f 0 (2 * k))) 265 (nI k)) (plnL f 0 k)) 265 0
    · show apl (σ 2) (chgL f k) p = if 0 < 2 then apl (σ 2) (plnL f 0 k) p else σ 2 p
      rw [if_pos (by decide)]
      unfold chgL
      rw [apl_app]
      show apl (upd _ 265 (nI k)) (plnL f 0 k ++ [(265, 0)]) p = _
      rw [apl_app]
      show upd _ 265 0 p = _
      rw [upd_n _ _ (by omega)]
      refine apl_pt _ _ _ p ?_
      rw [upd_n _ _ (by omega), apl_ne _ _ p (fun q hq => by have := noteL_ge f _ _ q hq; omega)]
    · rw [hlen]
      rcases hd with ⟨a1, _, rfl⟩ | ⟨j, a1, a2, a3, a4, _⟩ | ⟨j, a1, a3, a4, _⟩
      · refine ⟨?_, ?_, e3.symm, ?_, ?_, (if_pos rfl).symm⟩
        · show σ 1 2 + nI _ = σ' 7 9 + nI _
          rw [e2]
        · show lsub (σ 1 3) _ = lsub (σ' 7 10) _
          rw [e1]
        · exact e4
        · show lOK (lsub (σ' 7 10) _)
          rcases a1 with w | ⟨j, w1, w2, w3⟩
          · rw [w, lsub_m1]; exact Or.inl rfl
          · rw [w3, lsub_n w1 w2]; exact Or.inr ⟨_, by omega, rfl⟩
      · exact absurd a4 (by decide)
      · exact absurd a4 (by decide)
  · have et : (chgL f k).take j = noteL f 0 (2 * k) ++ ((265, nI k) :: (plnL f 0 k).take (j - 2 * k - 1)) := by
      unfold chgL
      rw [List.take_append, noteL_len, List.take_of_length_le (by rw [noteL_len]; omega)]
      congr 1
      obtain ⟨m, hm⟩ : ∃ m, j - 2 * k = m + 1 := ⟨j - 2 * k - 1, by omega⟩
      rw [hm]
      show _ :: List.take m _ = _ :: _
      congr 1
      have : j - 2 * k - 1 = m := by omega
      rw [Nat.add_sub_cancel, List.take_append_of_le_length (by rw [plnL_len]; omega)]
    have hw : ∀ p, apl (σ 2) ((chgL f k).take j) p = apl (upd (apl (σ 2) (noteL f 0 (2 * k))) 265 (nI k)) ((plnL f 0 k).take (j - 2 * k - 1)) p := fun p => by rw [et, apl_app]; rfl
    have hhi : ∀ p, 265 ≤ p → apl (σ 2) ((chgL f k).take j) p = upd (apl (σ 2) (noteL f 0 (2 * k))) 265 (nI k) p := fun p hp => by
      rw [hw, apl_ne _ _ p (fun q hq => by have := hpl q (List.mem_of_mem_take hq); omega)]
    have hf : ∀ t, t < 2 * k → apl (σ 2) ((chgL f k).take j) (266 + t) = f t := fun t ht => by
      rw [hhi _ (by omega), upd_n _ _ (by omega), noteL_apl f (2 * k) 0 _ t (by omega) (by omega)]
    have efin : fin (apl (σ 2) ((chgL f k).take j)) 0 k = plnL f 0 k := fin_pln k 0 (fun t ht => hf t (by omega))
    refine ⟨_, k, wrs_fail _ σ j (by omega) (by omega) q3, fun a h1 h2 => by rw [stA_ne _ _ h1, stA_ne _ _ h2], ?_, fun p hp => ?_, fun y => absurd y (by decide), fun σ' σ1 hd e1 e2 e3 e4 hl => ?_⟩
    · refine ⟨?_, hk4, fun i hi => ?_⟩
      · show apl (σ 2) ((chgL f k).take j) 265 = _
        rw [hhi _ (by omega), upd_s]
      · obtain ⟨q, h1, h2⟩ := hk.2 i hi
        refine ⟨q, h1, ?_⟩
        show apl (σ 2) ((chgL f k).take j) (266 + 2 * i) = _
        rw [hf _ (by omega)]; exact h2
    · show eff (apl (σ 2) ((chgL f k).take j)) k p = if 1 < 2 then apl (σ 2) (plnL f 0 k) p else σ 2 p
      rw [if_pos (by decide)]
      unfold eff
      rw [efin]
      by_cases hin : ∃ q ∈ plnL f 0 k, q.1 = p
      · exact apl_in _ _ _ p hin
      · refine apl_pt _ _ _ p ?_
        rw [hw, apl_ne _ _ p (fun q hq y => hin ⟨q, List.mem_of_mem_take hq, y⟩), upd_n _ _ (by omega), apl_ne _ _ p (fun q hq => by have := noteL_ge f _ _ q hq; omega)]
    · rcases hd with ⟨a1, a4, _⟩ | ⟨i, a1, a2, a3, _, rfl⟩ | ⟨i, a1, a3, a4, _⟩
      · exact absurd a4 (by decide)
      · obtain rfl : i = j := nI_inj (by omega) (by omega) (a3.symm.trans (e1.trans q3))
        refine ⟨?_, rfl, rfl, rfl, Or.inl rfl, (if_neg (by decide)).symm⟩
        show σ 1 2 + nI _ = σ' 7 9 + nI _
        rw [e2]
      · exact absurd a4 (by decide)
  · have et : (chgL f k).take j = (noteL f 0 (2 * k)).take j := by
      unfold chgL
      rw [List.take_append_of_le_length (by rw [noteL_len]; omega)]
    have hlo : ∀ p, p ≤ 265 → apl (σ 2) ((chgL f k).take j) p = σ 2 p := fun p hp => by
      rw [et, apl_ne _ _ p (fun q hq => by have := noteL_ge f _ _ q (List.mem_of_mem_take hq); omega)]
    refine ⟨_, 0, wrs_fail _ σ j (by omega) (by omega) q3, fun a h1 h2 => by rw [stA_ne _ _ h1, stA_ne _ _ h2], ?_, fun p hp => ?_, fun y => rfl, fun σ' σ1 hd e1 e2 e3 e4 hl => ?_⟩
    · refine ⟨?_, by omega, fun i hi => absurd hi (Nat.not_lt_zero i)⟩
      show apl (σ 2) ((chgL f k).take j) 265 = _
      rw [hlo _ (by omega), h0]; rfl
    · show apl (σ 2) ((chgL f k).take j) p = if 2 < 2 then apl (σ 2) (plnL f 0 k) p else σ 2 p
      rw [if_neg (by decide), hlo _ (by omega)]
    · rcases hd with ⟨a1, a4, _⟩ | ⟨i, a1, a2, a3, a4, _⟩ | ⟨i, a1, a3, _, rfl⟩
      · exact absurd a4 (by decide)
      · exact absurd a4 (by decide)
      · obtain rfl : i = j := nI_inj (by omega) (by omega) (a3.symm.trans (e1.trans q3))
        refine ⟨?_, rfl, rfl, rfl, Or.inl rfl, (if_neg (by decide)).symm⟩
        show σ 1 2 + nI _ = σ' 7 9 + nI _
        rw [e2]
