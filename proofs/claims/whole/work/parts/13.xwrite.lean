/-! ===== changes ===== -/
/-- the note's writes: places 266 + i, words of the plan -/
def noteL : (Nat → Int32) → Nat → Nat → List (Nat × Int32)
  | _, _, 0 => []
  | f, i, n + 1 => (266 + i, f i) :: noteL f (i + 1) n
/-- what the plan says: pairs of place and word -/
def plnL : (Nat → Int32) → Nat → Nat → List (Nat × Int32)
  | _, _, 0 => []
  | f, i, n + 1 => ((f (2 * i)).toNatClampNeg, f (2 * i + 1)) :: plnL f (i + 1) n
def plOK (f : Nat → Int32) (k : Nat) : Prop := k ≤ 4 ∧ ∀ i, i < k → ∃ q, q < 265 ∧ f (2 * i) = nI q
theorem fin_pln {w f : Nat → Int32} : ∀ (n i : Nat), (∀ j, j < 2 * (i + n) → w (266 + j) = f j) → fin w i n = plnL f i n
  | 0, _, _ => rfl
  | n + 1, i, h => by
    show (_, _) :: _ = (_, _) :: _
    rw [h (2 * i) (by omega), show 267 + 2 * i = 266 + (2 * i + 1) by omega, h (2 * i + 1) (by omega), fin_pln n (i + 1) (fun j hj => h j (by omega))]
def chgL (f : Nat → Int32) (k : Nat) : List (Nat × Int32) := noteL f 0 (2 * k) ++ ((265, nI k) :: (plnL f 0 k ++ [(265, 0)]))
def mi_D_change : MI := (b_D_change, 3, "RootedWords$Disk", none, 2, tbl_of 43 f_D_change, fl_D, [(29, (1, 2, ct_D_write)), (33, (1, 0, ct_D_finishChange))], [])
theorem ok_D_change : MOK mi_D_change := ⟨tbl_ok k_D_change, flok_D rfl, List.forall_mem_cons.mpr ⟨okV 1 (by decide) s_D_write rfl (Nat.le_of_ble_eq_true rfl) (Nat.le_of_ble_eq_true rfl) (by decide +kernel) lk_D_29 vv_D_write, List.forall_mem_cons.mpr ⟨okV 1 (by decide) s_D_finishChange rfl (Nat.le_of_ble_eq_true rfl) (Nat.le_of_ble_eq_true rfl) (by decide +kernel) lk_D_33 vv_D_finishChange, (fun _ h => absurd h List.not_mem_nil)⟩⟩⟩
theorem si_D_change : ∀ q ∈ m_tr mi_D_change, SiteF mi_D_change q := (fun _ h => absurd h List.not_mem_nil)
theorem c_D_change_end {X : CT} {oc : OC} (hX : CxO X mi_D_change oc) (k : Nat) (f : Nat → Int32) (hk : plOK f k) (σ : Mem) (hσ : ∀ j, j < 2 * k → σ 2 (266 + j) = f j) (ho : oc = wou σ ((265, nI k) :: (plnL f 0 k ++ [(265, 0)])) none) (x : Int32) :
    Go X mi_D_change 30 [some (.inr (.inl 1)), some (.inl (nI k)), some (.inl x)] [] σ := by
  refine Go_run ok_D_change hX [] 60 (fun K R1 T1 hK hR hT => ?_)
  have hk4 := hk.1
  conv => whnf
  refine ⟨vp_in_nI (by decide) (by decide), fun h0 => ?_, fun h0 => ?_⟩
  · exact hT _ _ _ (by rw [ho]; exact wou_fail h0 _ _ _)
  · conv => whnf
    have e1 : (nI 265).toNatClampNeg = 265 := nI_clamp (by decide)
    rw [e1]
    have e2 : fin (wrO σ 265 (nI k) 2) 0 k = plnL f 0 k := fin_pln k 0 (fun j hj => by
      rw [wrO_2, upd_n _ _ (by omega)]
      exact hσ j (by omega))
    refine ⟨k, ⟨by rw [wrO_2, upd_s], hk4, fun i hi => ?_⟩, fun σ' h1 => ?_, fun σ' h1 => ?_⟩
    · obtain ⟨q, hq, hq2⟩ := hk.2 i hi
      refine ⟨q, hq, ?_⟩
      rw [wrO_2, upd_n _ _ (by omega), hσ _ (by omega)]
      exact hq2
    · rw [e2] at h1
      conv => whnf
      refine hR _ _ ?_
      rw [ho, wou_step h0]
      unfold wou
      rw [h1]; rfl
    · rw [e2] at h1
      refine hT _ _ _ ?_
      rw [ho, wou_step h0]
      unfold wou
      rw [h1]; rfl
theorem c_D_change_loop {X : CT} {oc : OC} (hX : CxO X mi_D_change oc) (k : Nat) (f : Nat → Int32) (hk : plOK f k) : ∀ (n i : Nat) (σ : Mem), i + n = 2 * k → σ 3 = f → (∀ j, j < i → σ 2 (266 + j) = f j) → oc = wou σ (noteL f i n ++ ((265, nI k) :: (plnL f 0 k ++ [(265, 0)]))) none →
    Go X mi_D_change 2 [some (.inr (.inl 1)), some (.inl (nI k)), some (.inl (nI i))] [] σ := by
  intro n
  have hk4 := hk.1
  have e1 : nI 2 * nI k = nI (2 * k) := pk_mul 2 k
  induction n with
  | zero =>
    intro i σ hi h3 hσ ho
    obtain rfl : i = 2 * k := by omega
    refine Go_run ok_D_change hX [30] 60 (fun K R1 T1 hK hR hT => ?_)
    conv => whnf
    rw [e1]
    refine ⟨fun _ => ?_, fun h => absurd (nI_le (Nat.le_refl _) (by omega)) h⟩
    conv => whnf
    exact hK _ _ _ _ (c_D_change_end hX k f hk σ hσ ho _)
  | succ n ih =>
    intro i σ hi h3 hσ ho
    have e2 : nI 266 + nI i = nI (266 + i) := nI_add _ _
    refine Go_run ok_D_change hX [2] 60 (fun K R1 T1 hK hR hT => ?_)
    conv => whnf
    rw [e1]
    refine ⟨fun h => absurd h (nI_ge (by omega) (by omega)), fun _ => ?_⟩
    conv => whnf
    refine ⟨vp_in_nI (by omega) (by decide), ?_⟩
    rw [nI_clamp (by omega), h3]
    conv => whnf
    rw [e2]
    refine ⟨vp_in_nI (by omega) (by decide), fun h0 => ?_, fun h0 => ?_⟩
    · exact hT _ _ _ (by rw [ho]; exact wou_fail h0 _ _ _)
    · conv => whnf
      refine hK _ _ _ _ ?_
      have e3 : nI i + nI 1 = nI (i + 1) := nI_add i 1
      rw [nI_clamp (by omega)]
      show Go X mi_D_change 2 [some (.inr (.inl 1)), some (.inl (nI k)), some (.inl (nI i + nI 1))] [] (wrO σ (266 + i) (f i))
      rw [e3]
      refine ih (i + 1) _ (by omega) ?_ (fun j hj => ?_) ?_
      · rw [wrO_ne _ _ _ _ (by decide) (by decide)]; exact h3
      · rw [wrO_2]
        rcases Nat.lt_or_ge j i with q | q
        · rw [upd_n _ _ (by omega)]; exact hσ j q
        · obtain rfl : j = i := by omega
          rw [upd_s]
      · rw [ho]
        exact wou_step h0 _ _ _ _
theorem c_D_change (k : Nat) (σ : Mem) (hk : plOK (σ 3) k) : MetO y_D_change mi_D_change [.inr (.inl 1), .inl (nI k)] σ (wou σ (chgL (σ 3) k) none) := by
  refine met_go ok_D_change ⟨rfl, rfl⟩ si_D_change (Nat.le_of_ble_eq_true rfl) ⟨trivial, trivial, trivial⟩ [2] 60 (fun X hX K R1 T1 hK hR hT => ?_)
  conv => whnf
  exact hK _ _ _ _ (c_D_change_loop hX k (σ 3) hk (2 * k) 0 σ (by omega) rfl (fun j hj => absurd hj (Nat.not_lt_zero j)) rfl)
def ct_D_change : CTy := fun as σ KN KX => ∃ k, as = [.inl (nI k)] ∧ plOK (σ 3) k ∧ (∀ σ', wrs σ (chgL (σ 3) k) = (σ', false) → KN none σ') ∧ (∀ σ', wrs σ (chgL (σ 3) k) = (σ', true) → KX eIS σ')
theorem s_D_change : Snd y_D_change mi_D_change 1 1 ct_D_change := by
  intro as σ KN KX _ ⟨k, e, hk, h1, h2⟩
  subst e
  exact wou_use (c_D_change k σ hk) h1 h2
/-! clearing -/
def zL : Nat → Nat → List (Nat × Int32)
  | _, 0 => []
  | q, n + 1 => (q, 0) :: zL (q + 1) n
def mi_X_clearContent : MI := (b_X_clearContent, 4, "RootedWords", none, 1, tbl_of 29 f_X_clearContent, fl_X, [(161, (1, 2, ct_D_write))], [])
theorem ok_X_clearContent : MOK mi_X_clearContent := ⟨tbl_ok k_X_clearContent, flok_X rfl, List.forall_mem_cons.mpr ⟨okV 1 (by decide) s_D_write rfl (Nat.le_of_ble_eq_true rfl) (Nat.le_of_ble_eq_true rfl) (by decide +kernel) lk_X_161 vv_D_write, (fun _ h => absurd h List.not_mem_nil)⟩⟩
theorem si_X_clearContent : ∀ q ∈ m_tr mi_X_clearContent, SiteF mi_X_clearContent q := (fun _ h => absurd h List.not_mem_nil)
theorem c_X_clearContent_loop {X : CT} {oc : OC} (hX : CxO X mi_X_clearContent oc) (f m : Nat) (hf : f + m ≤ 257) : ∀ (n q : Nat) (σ : Mem), q + n + 1 = f + m → oc = wou σ (zL q n) none →
    Go X mi_X_clearContent 4 [some (.inr (.inl 0)), some (.inl (nI f)), some (.inl (nI m)), some (.inl (nI q))] [] σ := by
  intro n
  have e1 : nI f + nI m - nI 1 = nI (f + m - 1) ∨ f + m = 0 := by
    rcases Nat.eq_zero_or_pos (f + m) with z | z
    · exact Or.inr z
    · exact Or.inl (by rw [nI_add, pk_sub (by omega)])
  induction n with
  | zero =>
    intro q σ hq ho
    refine Go_run ok_X_clearContent hX [4] 60 (fun K R1 T1 hK hR hT => ?_)
    conv => whnf
    rw [e1.resolve_right (by omega)]
    refine ⟨fun _ => ?_, fun h => absurd (nI_le (by omega) (by omega)) h⟩
    conv => whnf
    exact hR _ _ ho
  | succ n ih =>
    intro q σ hq ho
    refine Go_run ok_X_clearContent hX [4] 60 (fun K R1 T1 hK hR hT => ?_)
    conv => whnf
    rw [e1.resolve_right (by omega)]
    refine ⟨fun h => absurd h (nI_ge (by omega) (by omega)), fun _ => ?_⟩
    conv => whnf
    refine ⟨vp_in_nI (by omega) (by decide), fun h0 => ?_, fun h0 => ?_⟩
    · exact hT _ _ _ (by rw [ho]; exact wou_fail h0 _ _ _)
    · conv => whnf
      refine hK _ _ _ _ ?_
      have e3 : nI q + nI 1 = nI (q + 1) := nI_add q 1
      rw [nI_clamp (by omega)]
      show Go X mi_X_clearContent 4 [some (.inr (.inl 0)), some (.inl (nI f)), some (.inl (nI m)), some (.inl (nI q + nI 1))] [] (wrO σ q 0)
      rw [e3]
      refine ih (q + 1) _ (by omega) ?_
      rw [ho]
      exact wou_step h0 _ _ _ _
theorem c_X_clearContent (f m : Nat) (hf : f + m ≤ 257) (hm : 2 ≤ m) (σ : Mem) : MetO y_X_clearContent mi_X_clearContent [.inr (.inl 0), .inl (nI f), .inl (nI m)] σ (wou σ (zL (f + 1) (m - 2)) none) := by
  have e3 : nI f + nI 1 = nI (f + 1) := nI_add f 1
  refine met_go ok_X_clearContent ⟨rfl, rfl⟩ si_X_clearContent (Nat.le_of_ble_eq_true rfl) ⟨trivial, trivial, trivial, trivial⟩ [4] 60 (fun X hX K R1 T1 hK hR hT => ?_)
  conv => whnf
  refine hK _ _ _ _ ?_
  show Go X mi_X_clearContent 4 [some (.inr (.inl 0)), some (.inl (nI f)), some (.inl (nI m)), some (.inl (nI f + nI 1))] [] σ
  rw [e3]
  exact c_X_clearContent_loop hX f m hf (m - 2) (f + 1) σ (by omega) rfl
def ct_X_clearContent : CTy := fun as σ KN KX => ∃ f m, as = [.inl (nI f), .inl (nI m)] ∧ f + m ≤ 257 ∧ 2 ≤ m ∧ (∀ σ', wrs σ (zL (f + 1) (m - 2)) = (σ', false) → KN none σ') ∧ (∀ σ', wrs σ (zL (f + 1) (m - 2)) = (σ', true) → KX eIS σ')
theorem s_X_clearContent : Snd y_X_clearContent mi_X_clearContent 0 2 ct_X_clearContent := by
  intro as σ KN KX _ ⟨f, m, e, hf, hm, h1, h2⟩
  subst e
  exact wou_use (c_X_clearContent f m hf hm σ) h1 h2
/-! plans -/
def peF (σ : Mem) (wh f n k : Nat) : Mem := st (st (st (st σ 3 (4 * wh) (nI f)) 3 (4 * wh + 1) (nI (256 * n + k))) 3 (4 * wh + 2) (nI (f + n - 1))) 3 (4 * wh + 3) (nI (256 * n + k))
def mi_X_planExtent : MI := (b_X_planExtent, 5, "RootedWords", none, 1, tbl_of 41 f_X_planExtent, fl_X, [(26, (99, 2, ct_X_tag)), (164, (1, 3, ct_D_plan))], [])
theorem ok_X_planExtent : MOK mi_X_planExtent := ⟨tbl_ok k_X_planExtent, flok_X rfl, List.forall_mem_cons.mpr ⟨okS s_X_tag rfl (Nat.le_of_ble_eq_true rfl) (Nat.le_of_ble_eq_true rfl) (by decide +kernel) lk_X_26 vs_X_tag, List.forall_mem_cons.mpr ⟨okV 1 (by decide) s_D_plan rfl (Nat.le_of_ble_eq_true rfl) (Nat.le_of_ble_eq_true rfl) (by decide +kernel) lk_X_164 vv_D_plan, (fun _ h => absurd h List.not_mem_nil)⟩⟩⟩
theorem si_X_planExtent : ∀ q ∈ m_tr mi_X_planExtent, SiteF mi_X_planExtent q := (fun _ h => absurd h List.not_mem_nil)
theorem c_X_planExtent (wh f n k : Nat) (hw : wh < 2) (hf : 1 ≤ f + n) (σ : Mem) : MetO y_X_planExtent mi_X_planExtent [.inr (.inl 0), .inl (nI wh), .inl (nI f), .inl (nI n), .inl (nI k)] σ (.inl (none, peF σ wh f n k)) := by
  have e1 : nI 2 * nI wh = nI (2 * wh) := pk_mul _ _
  have e2 : nI (2 * wh) + nI 1 = nI (2 * wh + 1) := nI_add _ _
  have e3 : nI n * nI 256 + nI k = nI (256 * n + k) := by rw [pk_mul, nI_add, Nat.mul_comm]
  have e4 : nI f + nI n - nI 1 = nI (f + n - 1) := by rw [nI_add, pk_sub hf]
  refine met_go ok_X_planExtent ⟨rfl, rfl⟩ si_X_planExtent (Nat.le_of_ble_eq_true rfl) ⟨trivial, trivial, trivial, trivial, trivial, trivial⟩ [] 60 (fun X hX K R1 T1 hK hR hT => ?_)
  conv => whnf
  refine ⟨2 * wh, nI f, nI (256 * n + k), ?_, by omega, ?_⟩
  · show [(.inl (nI 2 * nI wh) : AV), .inl (nI f), .inl (nI n * nI 256 + nI k)] = _
    rw [e1, e3]
  conv => whnf
  refine ⟨2 * wh + 1, nI (f + n - 1), nI (256 * n + k), ?_, by omega, ?_⟩
  · show [(.inl (nI 2 * nI wh + nI 1) : AV), .inl (nI f + nI n - nI 1), .inl (nI n * nI 256 + nI k)] = _
    rw [e1, e2, e3, e4]
  conv => whnf
  refine hR _ _ ?_
  unfold peF
  rw [show 2 * (2 * wh) = 4 * wh by omega, show 2 * (2 * wh + 1) = 4 * wh + 2 by omega]
def ct_X_planExtent : CTy := fun as σ KN _ => ∃ wh f n k, as = [.inl (nI wh), .inl (nI f), .inl (nI n), .inl (nI k)] ∧ wh < 2 ∧ 1 ≤ f + n ∧ KN none (peF σ wh f n k)
theorem s_X_planExtent : Snd y_X_planExtent mi_X_planExtent 0 4 ct_X_planExtent := by
  intro as σ KN KX _ ⟨wh, f, n, k, e, hw, hf, h⟩
  subst e
  exact ⟨.inl (_, _), h, c_X_planExtent wh f n k hw hf σ⟩
/-- the pairs of two extents' tags -/
theorem peF_ne (σ : Mem) (wh f n k a : Nat) (h : a ≠ 3) : peF σ wh f n k a = σ a := by
  unfold peF
  rw [st_ne _ _ _ h, st_ne _ _ _ h, st_ne _ _ _ h, st_ne _ _ _ h]
def mi_X_makeFree : MI := (b_X_makeFree, 3, "RootedWords", none, 3, tbl_of 17 f_X_makeFree, fl_X, [(61, (0, 4, ct_X_planExtent)), (65, (1, 1, ct_D_change))], [])
theorem ok_X_makeFree : MOK mi_X_makeFree := ⟨tbl_ok k_X_makeFree, flok_X rfl, List.forall_mem_cons.mpr ⟨okV 0 (by decide) s_X_planExtent rfl (Nat.le_of_ble_eq_true rfl) (Nat.le_of_ble_eq_true rfl) (by decide +kernel) lk_X_61 vv_X_planExtent, List.forall_mem_cons.mpr ⟨okV 1 (by decide) s_D_change rfl (Nat.le_of_ble_eq_true rfl) (Nat.le_of_ble_eq_true rfl) (by decide +kernel) lk_X_65 vv_D_change, (fun _ h => absurd h List.not_mem_nil)⟩⟩⟩
theorem si_X_makeFree : ∀ q ∈ m_tr mi_X_makeFree, SiteF mi_X_makeFree q := (fun _ h => absurd h List.not_mem_nil)
theorem mf_plOK (σ : Mem) (f n k : Nat) (h : f + n ≤ 257) (h1 : 1 ≤ n) : plOK (peF σ 0 f n k 3) 2 := by
  refine ⟨by decide, fun i hi => ?_⟩
  match i, hi with
  | 0, _ => exact ⟨f, by omega, rfl⟩
  | 1, _ => exact ⟨f + n - 1, by omega, rfl⟩
theorem c_X_makeFree (f n : Nat) (h : f + n ≤ 257) (h1 : 1 ≤ n) (σ : Mem) : MetO y_X_makeFree mi_X_makeFree [.inr (.inl 0), .inl (nI f), .inl (nI n)] σ (wou (peF σ 0 f n 0) (chgL (peF σ 0 f n 0 3) 2) none) := by
  refine met_go ok_X_makeFree ⟨rfl, rfl⟩ si_X_makeFree (Nat.le_of_ble_eq_true rfl) ⟨trivial, trivial, trivial, trivial⟩ [] 60 (fun X hX K R1 T1 hK hR hT => ?_)
  conv => whnf
  refine ⟨0, f, n, 0, rfl, by decide, by omega, ?_⟩
  conv => whnf
  refine ⟨2, rfl, mf_plOK σ f n 0 h h1, fun σ' h2 => ?_, fun σ' h2 => ?_⟩
  · conv => whnf
    refine hR _ _ ?_
    unfold wou
    rw [h2]; rfl
  · refine hT _ _ _ ?_
    unfold wou
    rw [h2]; rfl
def ct_X_makeFree : CTy := fun as σ KN KX => ∃ f n, as = [.inl (nI f), .inl (nI n)] ∧ f + n ≤ 257 ∧ 1 ≤ n ∧ (∀ σ', wrs (peF σ 0 f n 0) (chgL (peF σ 0 f n 0 3) 2) = (σ', false) → KN none σ') ∧ (∀ σ', wrs (peF σ 0 f n 0) (chgL (peF σ 0 f n 0 3) 2) = (σ', true) → KX eIS σ')
theorem wou_use2 {y : MethodName} {M : MI} {as : List AV} {σ σ1 : Mem} {l : List (Nat × Int32)} {r : Option AV} {KN : Option AV → Mem → Prop} {KX : String → Mem → Prop} (hm : MetO y M as σ (wou σ1 l r)) (h1 : ∀ σ', wrs σ1 l = (σ', false) → KN r σ') (h2 : ∀ σ', wrs σ1 l = (σ', true) → KX eIS σ') :
    ∃ oc : OC, (match oc with | .inl z => KN z.1 z.2 | .inr z => KX z.1 z.2) ∧ MetO y M as σ oc := by
  refine ⟨_, ?_, hm⟩
  unfold wou
  by_cases h : (wrs σ1 l).2 = true
  · rw [if_pos h]; exact h2 _ (Prod.ext rfl h)
  · rw [if_neg h]; exact h1 _ (Prod.ext rfl (Bool.not_eq_true _ ▸ h))
theorem s_X_makeFree : Snd y_X_makeFree mi_X_makeFree 0 2 ct_X_makeFree := by
  intro as σ KN KX _ ⟨f, n, e, h, h1, h2, h3⟩
  subst e
  exact wou_use2 (c_X_makeFree f n h h1 σ) h2 h3
def pwF (σ : Mem) (p : Nat) (w : Int32) : Mem := st (st σ 3 0 (nI p)) 3 1 w
def mi_X_changeWord : MI := (b_X_changeWord, 3, "RootedWords", none, 3, tbl_of 19 f_X_changeWord, fl_X, [(65, (1, 1, ct_D_change)), (164, (1, 3, ct_D_plan))], [])
theorem ok_X_changeWord : MOK mi_X_changeWord := ⟨tbl_ok k_X_changeWord, flok_X rfl, List.forall_mem_cons.mpr ⟨okV 1 (by decide) s_D_change rfl (Nat.le_of_ble_eq_true rfl) (Nat.le_of_ble_eq_true rfl) (by decide +kernel) lk_X_65 vv_D_change, List.forall_mem_cons.mpr ⟨okV 1 (by decide) s_D_plan rfl (Nat.le_of_ble_eq_true rfl) (Nat.le_of_ble_eq_true rfl) (by decide +kernel) lk_X_164 vv_D_plan, (fun _ h => absurd h List.not_mem_nil)⟩⟩⟩
theorem si_X_changeWord : ∀ q ∈ m_tr mi_X_changeWord, SiteF mi_X_changeWord q := (fun _ h => absurd h List.not_mem_nil)
theorem c_X_changeWord (p : Nat) (w : Int32) (h : p < 265) (σ : Mem) : MetO y_X_changeWord mi_X_changeWord [.inr (.inl 0), .inl (nI p), .inl w] σ (wou (pwF σ p w) (chgL (pwF σ p w 3) 1) none) := by
  refine met_go ok_X_changeWord ⟨rfl, rfl⟩ si_X_changeWord (Nat.le_of_ble_eq_true rfl) ⟨trivial, trivial, trivial, trivial⟩ [] 60 (fun X hX K R1 T1 hK hR hT => ?_)
  conv => whnf
  refine ⟨0, nI p, w, rfl, by decide, ?_⟩
  conv => whnf
  refine ⟨1, rfl, ⟨by decide, fun i hi => ?_⟩, fun σ' h2 => ?_, fun σ' h2 => ?_⟩
  · obtain rfl : i = 0 := by omega
    exact ⟨p, h, rfl⟩
  · conv => whnf
    refine hR _ _ ?_
    unfold wou
    have h2 : wrs (pwF σ p w) (chgL (pwF σ p w 3) 1) = (σ', false) := h2
    rw [h2]; rfl
  · refine hT _ _ _ ?_
    unfold wou
    have h2 : wrs (pwF σ p w) (chgL (pwF σ p w 3) 1) = (σ', true) := h2
    rw [h2]; rfl
def ct_X_changeWord : CTy := fun as σ KN KX => ∃ p w, as = [.inl (nI p), .inl w] ∧ p < 265 ∧ (∀ σ', wrs (pwF σ p w) (chgL (pwF σ p w 3) 1) = (σ', false) → KN none σ') ∧ (∀ σ', wrs (pwF σ p w) (chgL (pwF σ p w 3) 1) = (σ', true) → KX eIS σ')
theorem s_X_changeWord : Snd y_X_changeWord mi_X_changeWord 0 2 ct_X_changeWord := by
  intro as σ KN KX _ ⟨p, w, e, h, h2, h3⟩
  subst e
  exact wou_use2 (c_X_changeWord p w h σ) h2 h3
