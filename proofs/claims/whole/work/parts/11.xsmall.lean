/-! ===== the class: small methods ===== -/
def mi_X_tag : MI := (b_X_tag, 2, "RootedWords", some .int, 0, tbl_of 8 f_X_tag, fl_X, [], [])
theorem ok_X_tag : MOK mi_X_tag := ⟨tbl_ok k_X_tag, flok_X rfl, (fun _ h => absurd h List.not_mem_nil)⟩
theorem si_X_tag : ∀ q ∈ m_tr mi_X_tag, SiteF mi_X_tag q := (fun _ h => absurd h List.not_mem_nil)
theorem c_X_tag (n k : Int32) (σ : Mem) : MetO y_X_tag mi_X_tag [.inl n, .inl k] σ (.inl (some (.inl (n * nI 256 + k)), σ)) := by
  refine met_go ok_X_tag ⟨rfl, rfl⟩ si_X_tag (Nat.le_of_ble_eq_true rfl) ⟨trivial, trivial, trivial⟩ [] 40 (fun X hX K R1 T1 hK hR hT => ?_)
  conv => whnf
  exact hR _ _ rfl
def ct_X_tag : CTy := fun as σ KN _ => match as with
  | [.inl n, .inl k] => KN (some (.inl (n * nI 256 + k))) σ
  | _ => False
theorem s_X_tag : SndS y_X_tag mi_X_tag 2 ct_X_tag := by
  intro as σ KN KX _ hf
  match as, hf with
  | [.inl n, .inl k], hf => exact ⟨.inl (_, _), hf, c_X_tag n k σ⟩
def mi_X_lengthAt : MI := (b_X_lengthAt, 2, "RootedWords", some .int, 1, tbl_of 13 f_X_lengthAt, fl_X, [(90, (1, 1, ct_D_word))], [])
theorem ok_X_lengthAt : MOK mi_X_lengthAt := ⟨tbl_ok k_X_lengthAt, flok_X rfl, List.forall_mem_cons.mpr ⟨okV 1 (by decide) s_D_word rfl (Nat.le_of_ble_eq_true rfl) (Nat.le_of_ble_eq_true rfl) (by decide +kernel) lk_X_90 vv_D_word, (fun _ h => absurd h List.not_mem_nil)⟩⟩
theorem si_X_lengthAt : ∀ q ∈ m_tr mi_X_lengthAt, SiteF mi_X_lengthAt q := (fun _ h => absurd h List.not_mem_nil)
theorem c_X_lengthAt (p : Int32) (σ : Mem) (hp : vp_in p 274) : MetO y_X_lengthAt mi_X_lengthAt [.inr (.inl 0), .inl p] σ (.inl (some (.inl (σ 2 p.toNatClampNeg / nI 256)), σ)) := by
  refine met_go ok_X_lengthAt ⟨rfl, rfl⟩ si_X_lengthAt (Nat.le_of_ble_eq_true rfl) ⟨trivial, trivial, trivial⟩ [] 40 (fun X hX K R1 T1 hK hR hT => ?_)
  conv => whnf
  refine ⟨hp, ?_⟩
  conv => whnf
  refine ⟨by decide, ?_⟩
  conv => whnf
  exact hR _ _ rfl
/-- the tag at a place -/
def tgAt (w : Nat → Int32) (p n k : Nat) : Prop := w p = nI (256 * n + k) ∧ n < 1000 ∧ k < 256 ∧ p < 274
def ct_X_lengthAt : CTy := fun as σ KN _ => ∃ p n k, as = [.inl (nI p)] ∧ tgAt (σ 2) p n k ∧ KN (some (.inl (nI n))) σ
theorem s_X_lengthAt : Snd y_X_lengthAt mi_X_lengthAt 0 1 ct_X_lengthAt := by
  intro as σ KN KX _ ⟨p, n, k, e, ht, hf⟩
  subst e
  have h := c_X_lengthAt (nI p) σ (vp_in_nI ht.2.2.2 (by decide))
  rw [nI_clamp (by have := ht.2.2.2; omega), ht.1, tag_len ht.2.2.1 ht.2.1] at h
  exact ⟨.inl (_, _), hf, h⟩
def mi_X_kindAt : MI := (b_X_kindAt, 2, "RootedWords", some .int, 1, tbl_of 13 f_X_kindAt, fl_X, [(90, (1, 1, ct_D_word))], [])
theorem ok_X_kindAt : MOK mi_X_kindAt := ⟨tbl_ok k_X_kindAt, flok_X rfl, List.forall_mem_cons.mpr ⟨okV 1 (by decide) s_D_word rfl (Nat.le_of_ble_eq_true rfl) (Nat.le_of_ble_eq_true rfl) (by decide +kernel) lk_X_90 vv_D_word, (fun _ h => absurd h List.not_mem_nil)⟩⟩
theorem si_X_kindAt : ∀ q ∈ m_tr mi_X_kindAt, SiteF mi_X_kindAt q := (fun _ h => absurd h List.not_mem_nil)
theorem c_X_kindAt (p : Int32) (σ : Mem) (hp : vp_in p 274) : MetO y_X_kindAt mi_X_kindAt [.inr (.inl 0), .inl p] σ (.inl (some (.inl (σ 2 p.toNatClampNeg - σ 2 p.toNatClampNeg / nI 256 * nI 256)), σ)) := by
  refine met_go ok_X_kindAt ⟨rfl, rfl⟩ si_X_kindAt (Nat.le_of_ble_eq_true rfl) ⟨trivial, trivial, trivial⟩ [] 40 (fun X hX K R1 T1 hK hR hT => ?_)
  conv => whnf
  refine ⟨hp, ?_⟩
  conv => whnf
  refine ⟨by decide, ?_⟩
  conv => whnf
  exact hR _ _ rfl
def ct_X_kindAt : CTy := fun as σ KN _ => ∃ p n k, as = [.inl (nI p)] ∧ tgAt (σ 2) p n k ∧ KN (some (.inl (nI k))) σ
theorem s_X_kindAt : Snd y_X_kindAt mi_X_kindAt 0 1 ct_X_kindAt := by
  intro as σ KN KX _ ⟨p, n, k, e, ht, hf⟩
  subst e
  have h := c_X_kindAt (nI p) σ (vp_in_nI ht.2.2.2 (by decide))
  rw [nI_clamp (by have := ht.2.2.2; omega), ht.1, tag_kind ht.2.2.1 ht.2.1] at h
  exact ⟨.inl (_, _), hf, h⟩
def mi_X_isFreeAt : MI := (b_X_isFreeAt, 2, "RootedWords", some .boolean, 2, tbl_of 14 f_X_isFreeAt, fl_X, [(158, (0, 1, ct_X_kindAt))], [])
theorem ok_X_isFreeAt : MOK mi_X_isFreeAt := ⟨tbl_ok k_X_isFreeAt, flok_X rfl, List.forall_mem_cons.mpr ⟨okV 0 (by decide) s_X_kindAt rfl (Nat.le_of_ble_eq_true rfl) (Nat.le_of_ble_eq_true rfl) (by decide +kernel) lk_X_158 vv_X_kindAt, (fun _ h => absurd h List.not_mem_nil)⟩⟩
theorem si_X_isFreeAt : ∀ q ∈ m_tr mi_X_isFreeAt, SiteF mi_X_isFreeAt q := (fun _ h => absurd h List.not_mem_nil)
def fr (k : Nat) : Int32 := if k = 0 then 1 else 0
theorem c_X_isFreeAt (p n k : Nat) (σ : Mem) (ht : tgAt (σ 2) p n k) : MetO y_X_isFreeAt mi_X_isFreeAt [.inr (.inl 0), .inl (nI p)] σ (.inl (some (.inl (fr k)), σ)) := by
  refine met_go ok_X_isFreeAt ⟨rfl, rfl⟩ si_X_isFreeAt (Nat.le_of_ble_eq_true rfl) ⟨trivial, trivial, trivial⟩ [] 40 (fun X hX K R1 T1 hK hR hT => ?_)
  conv => whnf
  refine ⟨p, n, k, rfl, ht, ?_⟩
  conv => whnf
  refine ⟨fun h => ?_, fun h => ?_⟩
  · conv => whnf
    refine ⟨rfl, hR _ _ ?_⟩
    have h1 : ¬ k = 0 := fun e => h (by rw [e]; rfl)
    unfold fr
    rw [if_neg h1]; rfl
  · conv => whnf
    refine ⟨rfl, hR _ _ ?_⟩
    have h1 : k = 0 := nI_inj (by have := ht.2.2.1; omega) (by decide) h
    unfold fr
    rw [if_pos h1]; rfl
def ct_X_isFreeAt : CTy := fun as σ KN _ => ∃ p n k, as = [.inl (nI p)] ∧ tgAt (σ 2) p n k ∧ KN (some (.inl (fr k))) σ
theorem s_X_isFreeAt : Snd y_X_isFreeAt mi_X_isFreeAt 0 1 ct_X_isFreeAt := by
  intro as σ KN KX _ ⟨p, n, k, e, ht, hf⟩
  subst e
  exact ⟨.inl (_, _), hf, c_X_isFreeAt p n k σ ht⟩
def mi_X_contentAt : MI := (b_X_contentAt, 2, "RootedWords", some .int, 2, tbl_of 8 f_X_contentAt, fl_X, [(55, (0, 1, ct_X_lengthAt))], [])
theorem ok_X_contentAt : MOK mi_X_contentAt := ⟨tbl_ok k_X_contentAt, flok_X rfl, List.forall_mem_cons.mpr ⟨okV 0 (by decide) s_X_lengthAt rfl (Nat.le_of_ble_eq_true rfl) (Nat.le_of_ble_eq_true rfl) (by decide +kernel) lk_X_55 vv_X_lengthAt, (fun _ h => absurd h List.not_mem_nil)⟩⟩
theorem si_X_contentAt : ∀ q ∈ m_tr mi_X_contentAt, SiteF mi_X_contentAt q := (fun _ h => absurd h List.not_mem_nil)
theorem c_X_contentAt (p n k : Nat) (σ : Mem) (ht : tgAt (σ 2) p n k) (h2 : 2 ≤ n) : MetO y_X_contentAt mi_X_contentAt [.inr (.inl 0), .inl (nI p)] σ (.inl (some (.inl (nI (n - 2))), σ)) := by
  refine met_go ok_X_contentAt ⟨rfl, rfl⟩ si_X_contentAt (Nat.le_of_ble_eq_true rfl) ⟨trivial, trivial, trivial⟩ [] 40 (fun X hX K R1 T1 hK hR hT => ?_)
  conv => whnf
  refine ⟨p, n, k, rfl, ht, ?_⟩
  conv => whnf
  refine hR _ _ ?_
  rw [pk_sub h2]
def ct_X_contentAt : CTy := fun as σ KN _ => ∃ p n k, as = [.inl (nI p)] ∧ tgAt (σ 2) p n k ∧ 2 ≤ n ∧ KN (some (.inl (nI (n - 2)))) σ
theorem s_X_contentAt : Snd y_X_contentAt mi_X_contentAt 0 1 ct_X_contentAt := by
  intro as σ KN KX _ ⟨p, n, k, e, ht, h2, hf⟩
  subst e
  exact ⟨.inl (_, _), hf, c_X_contentAt p n k σ ht h2⟩
def mi_X_pointersAt : MI := (b_X_pointersAt, 2, "RootedWords", some .int, 2, tbl_of 8 f_X_pointersAt, fl_X, [(158, (0, 1, ct_X_kindAt))], [])
theorem ok_X_pointersAt : MOK mi_X_pointersAt := ⟨tbl_ok k_X_pointersAt, flok_X rfl, List.forall_mem_cons.mpr ⟨okV 0 (by decide) s_X_kindAt rfl (Nat.le_of_ble_eq_true rfl) (Nat.le_of_ble_eq_true rfl) (by decide +kernel) lk_X_158 vv_X_kindAt, (fun _ h => absurd h List.not_mem_nil)⟩⟩
theorem si_X_pointersAt : ∀ q ∈ m_tr mi_X_pointersAt, SiteF mi_X_pointersAt q := (fun _ h => absurd h List.not_mem_nil)
theorem c_X_pointersAt (p n k : Nat) (σ : Mem) (ht : tgAt (σ 2) p n k) (h2 : 1 ≤ k) : MetO y_X_pointersAt mi_X_pointersAt [.inr (.inl 0), .inl (nI p)] σ (.inl (some (.inl (nI (k - 1))), σ)) := by
  refine met_go ok_X_pointersAt ⟨rfl, rfl⟩ si_X_pointersAt (Nat.le_of_ble_eq_true rfl) ⟨trivial, trivial, trivial⟩ [] 40 (fun X hX K R1 T1 hK hR hT => ?_)
  conv => whnf
  refine ⟨p, n, k, rfl, ht, ?_⟩
  conv => whnf
  refine hR _ _ ?_
  rw [pk_sub h2]
def ct_X_pointersAt : CTy := fun as σ KN _ => ∃ p n k, as = [.inl (nI p)] ∧ tgAt (σ 2) p n k ∧ 1 ≤ k ∧ KN (some (.inl (nI (k - 1)))) σ
theorem s_X_pointersAt : Snd y_X_pointersAt mi_X_pointersAt 0 1 ct_X_pointersAt := by
  intro as σ KN KX _ ⟨p, n, k, e, ht, h2, hf⟩
  subst e
  exact ⟨.inl (_, _), hf, c_X_pointersAt p n k σ ht h2⟩
def mi_X_isReachedAt : MI := (b_X_isReachedAt, 2, "RootedWords", some .boolean, 0, tbl_of 18 f_X_isReachedAt, fl_X, [], [])
theorem ok_X_isReachedAt : MOK mi_X_isReachedAt := ⟨tbl_ok k_X_isReachedAt, flok_X rfl, (fun _ h => absurd h List.not_mem_nil)⟩
theorem si_X_isReachedAt : ∀ q ∈ m_tr mi_X_isReachedAt, SiteF mi_X_isReachedAt q := (fun _ h => absurd h List.not_mem_nil)
theorem c_X_isReachedAt (p : Nat) (σ : Mem) (hp : p < 257) : MetO y_X_isReachedAt mi_X_isReachedAt [.inr (.inl 0), .inl (nI p)] σ (.inl (some (.inl (if σ 5 (p + 1) = 2 then 1 else 0)), σ)) := by
  have e1 : nI p + nI 1 = nI (p + 1) := nI_add p 1
  refine met_go ok_X_isReachedAt ⟨rfl, rfl⟩ si_X_isReachedAt (Nat.le_of_ble_eq_true rfl) ⟨trivial, trivial, trivial⟩ [] 40 (fun X hX K R1 T1 hK hR hT => ?_)
  conv => whnf
  rw [e1]
  refine ⟨vp_in_nI (by omega) (by decide), ?_⟩
  rw [nI_clamp (by omega)]
  conv => whnf
  refine ⟨fun h => ?_, fun h => ?_⟩
  · conv => whnf
    refine ⟨rfl, hR _ _ ?_⟩
    have h : ¬ σ 5 (p + 1) = 2 := h
    rw [if_neg h]; rfl
  · conv => whnf
    refine ⟨rfl, hR _ _ ?_⟩
    have h : σ 5 (p + 1) = 2 := h
    rw [if_pos h]; rfl
def ct_X_isReachedAt : CTy := fun as σ KN _ => ∃ p, as = [.inl (nI p)] ∧ p < 257 ∧ KN (some (.inl (if σ 5 (p + 1) = 2 then 1 else 0))) σ
theorem s_X_isReachedAt : Snd y_X_isReachedAt mi_X_isReachedAt 0 1 ct_X_isReachedAt := by
  intro as σ KN KX _ ⟨p, e, hp, hf⟩
  subst e
  exact ⟨.inl (_, _), hf, c_X_isReachedAt p σ hp⟩
def mi_X_refuseWhenDown : MI := (b_X_refuseWhenDown, 1, "RootedWords", none, 1, tbl_of 21 f_X_refuseWhenDown, fl_X, [(125, (1, 0, ct_D_isDown))], [(10, "java/lang/IllegalStateException")])
theorem ok_X_refuseWhenDown : MOK mi_X_refuseWhenDown := ⟨tbl_ok k_X_refuseWhenDown, flok_X rfl, List.forall_mem_cons.mpr ⟨okV 1 (by decide) s_D_isDown rfl (Nat.le_of_ble_eq_true rfl) (Nat.le_of_ble_eq_true rfl) (by decide +kernel) lk_X_125 vv_D_isDown, (fun _ h => absurd h List.not_mem_nil)⟩⟩
theorem si_X_refuseWhenDown : ∀ q ∈ m_tr mi_X_refuseWhenDown, SiteF mi_X_refuseWhenDown q := List.forall_mem_cons.mpr ⟨⟨144, 146, 148, "the heap is down", ⟨by decide +kernel, by decide +kernel, by decide +kernel, by decide +kernel, by decide +kernel⟩, by decide +kernel, Or.inl th_X_144⟩, (fun _ h => absurd h List.not_mem_nil)⟩
theorem c_X_refuseWhenDown_up (σ : Mem) (h : σ 1 4 = 0) : MetO y_X_refuseWhenDown mi_X_refuseWhenDown [.inr (.inl 0)] σ (.inl (none, σ)) := by
  refine met_go ok_X_refuseWhenDown ⟨rfl, rfl⟩ si_X_refuseWhenDown (Nat.le_of_ble_eq_true rfl) ⟨trivial, trivial⟩ [] 40 (fun X hX K R1 T1 hK hR hT => ?_)
  conv => whnf
  refine ⟨Or.inl h, ?_⟩
  conv => whnf
  refine ⟨fun _ => ?_, fun h1 => absurd h h1⟩
  conv => whnf
  exact hR _ _ rfl
theorem c_X_refuseWhenDown_down (σ : Mem) (h : σ 1 4 = 1) : MetO y_X_refuseWhenDown mi_X_refuseWhenDown [.inr (.inl 0)] σ (.inr (eIS, σ)) := by
  refine met_go ok_X_refuseWhenDown ⟨rfl, rfl⟩ si_X_refuseWhenDown (Nat.le_of_ble_eq_true rfl) ⟨trivial, trivial⟩ [] 40 (fun X hX K R1 T1 hK hR hT => ?_)
  conv => whnf
  refine ⟨Or.inr h, ?_⟩
  conv => whnf
  refine ⟨fun h1 => absurd (h.symm.trans h1) (by decide), fun h1 => ?_⟩
  conv => whnf
  exact hT _ _ _ rfl
def ct_X_refuseWhenDown : CTy := fun as σ KN KX => match as with
  | [] => bl (σ 1 4) ∧ (σ 1 4 = 1 → KX eIS σ) ∧ (σ 1 4 = 0 → KN none σ)
  | _ => False
theorem s_X_refuseWhenDown : Snd y_X_refuseWhenDown mi_X_refuseWhenDown 0 0 ct_X_refuseWhenDown := by
  intro as σ KN KX _ hf
  match as, hf with
  | [], ⟨hb, h1, h2⟩ =>
    rcases hb with h | h
    · exact ⟨.inl (_, _), h2 h, c_X_refuseWhenDown_up σ h⟩
    · exact ⟨.inr (_, _), h1 h, c_X_refuseWhenDown_down σ h⟩
def mi_X_refuseUnlessRoot : MI := (b_X_refuseUnlessRoot, 2, "RootedWords", none, 0, tbl_of 21 f_X_refuseUnlessRoot, fl_X, [], [(10, "java/lang/IndexOutOfBoundsException")])
theorem ok_X_refuseUnlessRoot : MOK mi_X_refuseUnlessRoot := ⟨tbl_ok k_X_refuseUnlessRoot, flok_X rfl, (fun _ h => absurd h List.not_mem_nil)⟩
theorem si_X_refuseUnlessRoot : ∀ q ∈ m_tr mi_X_refuseUnlessRoot, SiteF mi_X_refuseUnlessRoot q := List.forall_mem_cons.mpr ⟨⟨114, 156, 118, "there is no such root", ⟨by decide +kernel, by decide +kernel, by decide +kernel, by decide +kernel, by decide +kernel⟩, by decide +kernel, Or.inl th_X_114⟩, (fun _ h => absurd h List.not_mem_nil)⟩
def rt_ok (r : Int32) : Prop := ¬ r < 0 ∧ r < nI 8
theorem c_X_refuseUnlessRoot_ok (r : Int32) (σ : Mem) (h : rt_ok r) : MetO y_X_refuseUnlessRoot mi_X_refuseUnlessRoot [.inr (.inl 0), .inl r] σ (.inl (none, σ)) := by
  refine met_go ok_X_refuseUnlessRoot ⟨rfl, rfl⟩ si_X_refuseUnlessRoot (Nat.le_of_ble_eq_true rfl) ⟨trivial, trivial, trivial⟩ [] 40 (fun X hX K R1 T1 hK hR hT => ?_)
  conv => whnf
  refine ⟨fun h1 => absurd h1 h.1, fun _ => ?_⟩
  conv => whnf
  refine ⟨fun _ => ?_, fun h1 => absurd h.2 h1⟩
  conv => whnf
  exact hR _ _ rfl
theorem c_X_refuseUnlessRoot_no (r : Int32) (σ : Mem) (h : ¬ rt_ok r) : MetO y_X_refuseUnlessRoot mi_X_refuseUnlessRoot [.inr (.inl 0), .inl r] σ (.inr (eIO, σ)) := by
  refine met_go ok_X_refuseUnlessRoot ⟨rfl, rfl⟩ si_X_refuseUnlessRoot (Nat.le_of_ble_eq_true rfl) ⟨trivial, trivial, trivial⟩ [] 40 (fun X hX K R1 T1 hK hR hT => ?_)
  conv => whnf
  refine ⟨fun _ => ?_, fun h1 => ?_⟩
  · conv => whnf
    exact hT _ _ _ rfl
  · conv => whnf
    refine ⟨fun h2 => absurd ⟨h1, h2⟩ h, fun _ => ?_⟩
    conv => whnf
    exact hT _ _ _ rfl
def ct_X_refuseUnlessRoot : CTy := fun as σ KN KX => match as with
  | [.inl r] => (¬ rt_ok r → KX eIO σ) ∧ (rt_ok r → KN none σ)
  | _ => False
theorem s_X_refuseUnlessRoot : Snd y_X_refuseUnlessRoot mi_X_refuseUnlessRoot 0 1 ct_X_refuseUnlessRoot := by
  intro as σ KN KX _ hf
  match as, hf with
  | [.inl r], hf =>
    by_cases h : rt_ok r
    · exact ⟨.inl (_, _), hf.2 h, c_X_refuseUnlessRoot_ok r σ h⟩
    · exact ⟨.inr (_, _), hf.1 h, c_X_refuseUnlessRoot_no r σ h⟩
