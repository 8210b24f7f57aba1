/-! ===== the law's other ways, and its loop ===== -/
theorem J.order {σ : Mem} (hJ : J σ) {x : Int32} (h : or_ok x) : J (st (st (st σ 1 3 x) 7 0 0) 7 10 x) := by
  obtain ⟨j, hj, e⟩ := nI_of h.1
  have hj2 : j ≤ 1000 := by
    have := h.2
    rw [e] at this
    exact (nI_leI hj (by decide)).mp this
  obtain ⟨hC, N, ln, kd, k, h1, h2, h3, h4, h5⟩ := hJ
  exact ⟨⟨Or.inr ⟨j, hj2, e⟩, hC.2.1, hC.2.2.1, rfl, hC.2.2.2.2.1, hC.2.2.2.2.2⟩, N, ln, kd, k, h1.cong rfl rfl rfl rfl rfl, h2, h3, h4, h5.m rfl rfl⟩
theorem law_order {E : EV} (h : LC E) {k n i : Nat} (hk : k + 1 ≤ 1050) (hn : n + 6 ≤ 9853) (hi : i + 4 ≤ vL E) {σ : Mem} (hJ : J σ) (a5 a6 : Option AV)
    (next : ∀ σ' a5 a6, J σ' → Go (LX E (k + 1) (n + 6)) mi_law 859 [some (.inr (.inl 16)), some (.inr (.inl 0)), some (.inr (.inl 7)), some (.inr (.inl 15)), some (.inl (nI i)), a5, a6] [] σ') : Go (LX E k n) mi_law 764 [some (.inr (.inl 16)), some (.inr (.inl 0)), some (.inr (.inl 7)), some (.inr (.inl 15)), some (.inl (nI i)), a5, a6] [] σ := by
  refine Go_run ok_law (LX_cx h (by omega) (by omega)) [770] 60 (fun K R1 T1 hK hR hT => ?_)
  conv => whnf
  refine hK _ _ _ _ ?_
  show Go (LX E k n) mi_law 770 [some (.inr (.inl 16)), some (.inr (.inl 0)), some (.inr (.inl 7)), some (.inr (.inl 15)), some (.inl (nI i)), a5, a6] [.inl (nI i + nI 1), .inr (.inl 16), .inr (.inl 0)] σ
  refine go_sld' h (by omega) (by decide +kernel) ?_
  by_cases q : or_ok (vx E (i + 1))
  · refine Go_run ok_law (LX_cx h (by omega) (by omega)) [780] 60 (fun K R1 T1 hK hR hT => ?_)
    conv => whnf
    refine ⟨.inl (_, _), c_X_order_ok _ σ q, ?_⟩
    conv => whnf
    refine hK _ _ _ _ ?_
    show Go (LX E k n) mi_law 780 [some (.inr (.inl 16)), some (.inr (.inl 0)), some (.inr (.inl 7)), some (.inr (.inl 15)), some (.inl (nI i)), a5, a6] [.inl (nI i + nI 1), .inr (.inl 16), .inr (.inl 7), .inl 1] (st σ 1 3 (vx E (i + 1)))
    refine go_sld' h (by omega) (by decide +kernel) ?_
    refine Go_run ok_law (LX_cx h (by omega) (by omega)) [859] 60 (fun K R1 T1 hK hR hT => ?_)
    conv => whnf
    refine ⟨.inl (_, _), c_M_order_ok _ _ q, ?_⟩
    conv => whnf
    refine ⟨fun _ => ?_, fun z => absurd rfl z⟩
    conv => whnf
    exact hK _ _ _ _ (Go.widen (by omega) (by omega) (next _ _ _ (hJ.order q)))
  · refine Go_run ok_law (LX_cx h (by omega) (by omega)) [780] 60 (fun K R1 T1 hK hR hT => ?_)
    conv => whnf
    refine ⟨.inl (_, _), c_X_order_no _ σ q, ?_⟩
    conv => whnf
    refine hK _ _ _ _ ?_
    show Go (LX E k n) mi_law 780 [some (.inr (.inl 16)), some (.inr (.inl 0)), some (.inr (.inl 7)), some (.inr (.inl 15)), some (.inl (nI i)), a5, a6] [.inl (nI i + nI 1), .inr (.inl 16), .inr (.inl 7), .inl 0] σ
    refine go_sld' h (by omega) (by decide +kernel) ?_
    refine Go_run ok_law (LX_cx h (by omega) (by omega)) [859] 60 (fun K R1 T1 hK hR hT => ?_)
    conv => whnf
    refine ⟨.inl (_, _), c_M_order_no _ _ q, ?_⟩
    conv => whnf
    refine ⟨fun _ => ?_, fun z => absurd rfl z⟩
    conv => whnf
    exact hK _ _ _ _ (Go.widen (by omega) (by omega) (next _ _ _ (hJ.rd (RQ.rf σ) 0)))
theorem law_writes {E : EV} (h : LC E) {k n i : Nat} (hk : k + 1 ≤ 1050) (hn : n + 6 ≤ 9853) {σ : Mem} (hJ : J σ) (a5 a6 : Option AV)
    (next : ∀ σ' a5 a6, J σ' → Go (LX E (k + 1) (n + 6)) mi_law 859 [some (.inr (.inl 16)), some (.inr (.inl 0)), some (.inr (.inl 7)), some (.inr (.inl 15)), some (.inl (nI i)), a5, a6] [] σ') : Go (LX E k n) mi_law 833 [some (.inr (.inl 16)), some (.inr (.inl 0)), some (.inr (.inl 7)), some (.inr (.inl 15)), some (.inl (nI i)), a5, a6] [] σ := by
  refine Go_run ok_law (LX_cx h (by omega) (by omega)) [859] 60 (fun K R1 T1 hK hR hT => ?_)
  conv => whnf
  refine ⟨.inl (_, _), c_X_writes σ, ?_⟩
  conv => whnf
  refine ⟨.inl (_, _), c_M_writes σ, ?_⟩
  conv => whnf
  refine ⟨fun _ => ?_, fun z => absurd hJ.1.2.2.1 z⟩
  conv => whnf
  exact hK _ _ _ _ (Go.widen (by omega) (by omega) (next _ _ _ (hJ.rd (RQ.rf σ) 0)))
theorem law_down {E : EV} (h : LC E) {k n i : Nat} (hk : k + 1 ≤ 1050) (hn : n + 6 ≤ 9853) {σ : Mem} (hJ : J σ) (a5 a6 : Option AV)
    (next : ∀ σ' a5 a6, J σ' → Go (LX E (k + 1) (n + 6)) mi_law 859 [some (.inr (.inl 16)), some (.inr (.inl 0)), some (.inr (.inl 7)), some (.inr (.inl 15)), some (.inl (nI i)), a5, a6] [] σ') : Go (LX E k n) mi_law 846 [some (.inr (.inl 16)), some (.inr (.inl 0)), some (.inr (.inl 7)), some (.inr (.inl 15)), some (.inl (nI i)), a5, a6] [] σ := by
  have hb : bl (σ 1 4) := by rw [hJ.1.2.2.2.2.1]; exact hJ.1.2.1
  refine Go_run ok_law (LX_cx h (by omega) (by omega)) [859] 60 (fun K R1 T1 hK hR hT => ?_)
  conv => whnf
  refine ⟨.inl (_, _), c_X_down σ hb, ?_⟩
  conv => whnf
  refine ⟨.inl (_, _), c_M_down σ hJ.1.2.1, ?_⟩
  conv => whnf
  refine ⟨fun _ => ?_, fun z => absurd hJ.1.2.2.2.2.1 z⟩
  conv => whnf
  exact hK _ _ _ _ (Go.widen (by omega) (by omega) (next _ _ _ (hJ.rd (RQ.rf σ) 0)))
def offs : Array Int := #[73, 141, 197, 277, 345, 413, 481, 537, 581, 625, 681, 725, 750, 794, 807]
theorem d_law_39 : decode code 39 = .ok (.tableswitch 820 0 14 offs, 73) := by decide +kernel
theorem go_tsI {E : EV} (h : LC E) {k n : Nat} {L : List (Option AV)} {σ : Mem} (j tgt : Nat) (off : Int) (hj : j < 15) (ho : offs[j]? = some off) (ht : ((39 : Nat) : Int) + off = (tgt : Int)) (kk : Go (LX E k n) mi_law tgt L [] σ) : Go (LX E k n) mi_law 39 L [.inl (nI j)] σ := by
  obtain ⟨⟨hx, hb, hr, hml, hown, hts, hX, hbl, hlocks, hgv⟩, hL, htr, hKG, hg, h16⟩ := h
  have e : (nI j).toInt = (j : Int) := nI_toInt (by omega)
  intro H locs ls hP hS hl
  exact lv_tableIn hx hb d_law_39 (by rw [e]; omega) (by rw [e]; omega) (by rw [e]; simpa using ho) ht (kk H locs ls hP hS hl)
theorem go_tsO {E : EV} (h : LC E) {k n : Nat} {L : List (Option AV)} {σ : Mem} (kk : Go (LX E k n) mi_law 859 L [] σ) : Go (LX E k n) mi_law 39 L [.inl (nI 15)] σ := by
  obtain ⟨⟨hx, hb, hr, hml, hown, hts, hX, hbl, hlocks, hgv⟩, hL, htr, hKG, hg, h16⟩ := h
  have e : (nI 15).toInt = (15 : Int) := nI_toInt (by omega)
  intro H locs ls hP hS hl
  exact lv_tableOut hx hb d_law_39 (Or.inr (by rw [e]; decide)) rfl (kk H locs ls hP hS hl)
theorem and15 (v : Int32) : ∃ j, j < 16 ∧ v &&& nI 15 = nI j := by
  refine ⟨(v &&& nI 15).toBitVec.toNat, ?_, ?_⟩
  · have h1 : (v &&& nI 15).toBitVec.toNat = v.toBitVec.toNat &&& (nI 15).toBitVec.toNat := by
      rw [Int32.toBitVec_and, BitVec.toNat_and]
    rw [h1]
    exact Nat.lt_of_le_of_lt Nat.and_le_right (by decide)
  · apply Int32.toBitVec_inj.mp
    apply BitVec.eq_of_toNat_eq
    show _ = (BitVec.ofNat 32 _).toNat
    rw [BitVec.toNat_ofNat, Nat.mod_eq_of_lt (BitVec.isLt _)]
theorem lt_m4 {L i : Nat} (hL : L ≤ 2048) (hi : i ≤ 4000) (h : L < i + 4) : nI L - nI 4 < nI i := by
  rcases Nat.lt_or_ge L 4 with q | q
  · refine Int32.lt_of_lt_of_le (b := 0) ?_ (nI_0le (by omega))
    match L, q with
    | 0, _ | 1, _ | 2, _ | 3, _ => decide
  · rw [pk_sub q]
    exact nI_lt (by omega) (by omega)
theorem law_loop {E : EV} (h : LC E) : ∀ (q i k n : Nat) (σ : Mem) (a5 a6 : Option AV), vL E < i + q → i ≤ vL E + 4 → 4 * k ≤ 400 + i → 4 * n ≤ 12000 + 6 * i → J σ →
    Go (LX E k n) mi_law 23 [some (.inr (.inl 16)), some (.inr (.inl 0)), some (.inr (.inl 7)), some (.inr (.inl 15)), some (.inl (nI i)), a5, a6] [] σ := by
  have hL : vL E ≤ 2048 := h.2.1
  intro q
  induction q with
  | zero =>
    intro i k n σ a5 a6 hq hi hk hn hJ
    refine Go_run ok_law (LX_cx h (by omega) (by omega)) [26] 60 (fun K R1 T1 hK hR hT => ?_)
    conv => whnf
    refine hK _ _ _ _ ?_
    show Go (LX E k n) mi_law 26 [some (.inr (.inl 16)), some (.inr (.inl 0)), some (.inr (.inl 7)), some (.inr (.inl 15)), some (.inl (nI i)), a5, a6] [.inr (.inl 16), .inl (nI i)] σ
    refine go_slen h (by decide +kernel) ?_
    refine Go_run ok_law (LX_cx h (by omega) (by omega)) [35] 60 (fun K R1 T1 hK hR hT => ?_)
    conv => whnf
    refine ⟨fun _ => ?_, fun z => absurd (lt_m4 hL (by omega) (by omega)) z⟩
    conv => whnf
    exact ⟨rfl, hR _ _ rfl⟩
  | succ q ih =>
    intro i k n σ a5 a6 hq hi hk hn hJ
    have next : ∀ σ' a5 a6, J σ' → i + 4 ≤ vL E → Go (LX E (k + 1) (n + 6)) mi_law 859 [some (.inr (.inl 16)), some (.inr (.inl 0)), some (.inr (.inl 7)), some (.inr (.inl 15)), some (.inl (nI i)), a5, a6] [] σ' := by
      intro σ' a5 a6 hJ' hi4
      have e4 : nI i + nI 4 = nI (i + 4) := nI_add _ _
      refine Go_run ok_law (LX_cx h (by omega) (by omega)) [23] 60 (fun K R1 T1 hK hR hT => ?_)
      conv => whnf
      refine hK _ _ _ _ ?_
      show Go (LX E (k + 1) (n + 6)) mi_law 23 [some (.inr (.inl 16)), some (.inr (.inl 0)), some (.inr (.inl 7)), some (.inr (.inl 15)), some (.inl (nI i + nI 4)), a5, a6] [] σ'
      rw [e4]
      exact ih (i + 4) (k + 1) (n + 6) σ' a5 a6 (by omega) (by omega) (by omega) (by omega) hJ'
    refine Go_run ok_law (LX_cx h (by omega) (by omega)) [26] 60 (fun K R1 T1 hK hR hT => ?_)
    conv => whnf
    refine hK _ _ _ _ ?_
    show Go (LX E k n) mi_law 26 [some (.inr (.inl 16)), some (.inr (.inl 0)), some (.inr (.inl 7)), some (.inr (.inl 15)), some (.inl (nI i)), a5, a6] [.inr (.inl 16), .inl (nI i)] σ
    refine go_slen h (by decide +kernel) ?_
    refine Go_run ok_law (LX_cx h (by omega) (by omega)) [35] 60 (fun K R1 T1 hK hR hT => ?_)
    rcases Nat.lt_or_ge (vL E) (i + 4) with hlt | hge
    · conv => whnf
      refine ⟨fun _ => ?_, fun z => absurd (lt_m4 hL (by omega) hlt) z⟩
      conv => whnf
      exact ⟨rfl, hR _ _ rfl⟩
    have hsub : nI (vL E) - nI 4 = nI (vL E - 4) := pk_sub (by omega)
    conv => whnf
    rw [hsub]
    refine ⟨fun z => absurd z (nI_nlt (by omega) (by omega)), fun _ => ?_⟩
    conv => whnf
    refine hK _ _ _ _ ?_
    show Go (LX E k n) mi_law 35 [some (.inr (.inl 16)), some (.inr (.inl 0)), some (.inr (.inl 7)), some (.inr (.inl 15)), some (.inl (nI i)), a5, a6] [.inl (nI i), .inr (.inl 16)] σ
    refine go_sld h (by omega) (by decide +kernel) ?_
    refine Go_run ok_law (LX_cx h (by omega) (by omega)) [39] 60 (fun K R1 T1 hK hR hT => ?_)
    conv => whnf
    refine hK _ _ _ _ ?_
    show Go (LX E k n) mi_law 39 [some (.inr (.inl 16)), some (.inr (.inl 0)), some (.inr (.inl 7)), some (.inr (.inl 15)), some (.inl (nI i)), a5, a6] [.inl (vx E i &&& nI 15)] σ
    obtain ⟨j, hj, ej⟩ := and15 (vx E i)
    rw [ej]
    have hk1 : k + 1 ≤ 1050 := by omega
    have hn1 : n + 6 ≤ 9853 := by omega
    have nx := fun σ' a5 a6 hJ' => next σ' a5 a6 hJ' hge
    match j, hj with
    | 0, _ => exact go_tsI h 0 112 73 (by decide) rfl rfl (law_take h hk1 hn1 hge hJ a5 a6 nx)
    | 1, _ => exact go_tsI h 1 180 141 (by decide) rfl rfl (law_give h hk1 hn1 hge hJ a5 a6 nx)
    | 2, _ => exact go_tsI h 2 236 197 (by decide) rfl rfl (law_store h hk1 hn1 hge hJ a5 a6 nx)
    | 3, _ => exact go_tsI h 3 316 277 (by decide) rfl rfl (law_load h hk1 hn1 hge hJ a5 a6 nx)
    | 4, _ => exact go_tsI h 4 384 345 (by decide) rfl rfl (law_size h hk1 hn1 hge hJ a5 a6 nx)
    | 5, _ => exact go_tsI h 5 452 413 (by decide) rfl rfl (law_setRoot h hk1 hn1 hge hJ a5 a6 nx)
    | 6, _ => exact go_tsI h 6 520 481 (by decide) rfl rfl (law_root h hk1 hn1 hge hJ a5 a6 nx)
    | 7, _ => exact go_tsI h 7 576 537 (by decide) rfl rfl (law_freeWords h hk1 hn1 hge hJ a5 a6 nx)
    | 8, _ => exact go_tsI h 8 620 581 (by decide) rfl rfl (law_largestFree h hk1 hn1 hge hJ a5 a6 nx)
    | 9, _ => exact go_tsI h 9 664 625 (by decide) rfl rfl (law_extent h hk1 hn1 hge hJ a5 a6 nx)
    | 10, _ => exact go_tsI h 10 720 681 (by decide) rfl rfl (law_reached h hk1 hn1 hge hJ a5 a6 nx)
    | 11, _ => exact go_tsI h 11 764 725 (by decide) rfl rfl (law_order h hk1 hn1 hge hJ a5 a6 nx)
    | 12, _ => exact go_tsI h 12 789 750 (by decide) rfl rfl (law_recover h hk1 hn1 hge hJ a5 a6 nx)
    | 13, _ => exact go_tsI h 13 833 794 (by decide) rfl rfl (law_writes h hk1 hn1 hJ a5 a6 nx)
    | 14, _ => exact go_tsI h 14 846 807 (by decide) rfl rfl (law_down h hk1 hn1 hJ a5 a6 nx)
    | 15, _ => exact go_tsO h (Go.widen (by omega) (by omega) (nx σ a5 a6 hJ))
    | z + 16, hz => exact absurd hz (by omega)
