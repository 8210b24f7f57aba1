theorem lk_L_63 : Jvm.Cond.methodLink "RootedWordsLaw" 63 y_L_take ∈ gtbl := gw 123 (by decide +kernel) rfl
theorem law_take {E : EV} (h : LC E) {k n i : Nat} (hk : k + 1 ≤ 1050) (hn : n + 6 ≤ 9853) (hi : i + 4 ≤ vL E) {σ : Mem} (hJ : J σ) (a5 a6 : Option AV)
    (next : ∀ σ' a5 a6, J σ' → Go (LX E (k + 1) (n + 6)) mi_law 859 [some (.inr (.inl 16)), some (.inr (.inl 0)), some (.inr (.inl 7)), some (.inr (.inl 15)), some (.inl (nI i)), a5, a6] [] σ') : Go (LX E k n) mi_law 112 [some (.inr (.inl 16)), some (.inr (.inl 0)), some (.inr (.inl 7)), some (.inr (.inl 15)), some (.inl (nI i)), a5, a6] [] σ := by
  refine Go_run ok_law (LX_cx h (by omega) (by omega)) [118] 60 (fun K R1 T1 hK hR hT => ?_)
  conv => whnf
  refine hK _ _ _ _ ?_
  show Go (LX E k n) mi_law 118 [some (.inr (.inl 16)), some (.inr (.inl 0)), some (.inr (.inl 7)), some (.inr (.inl 15)), some (.inl (nI i)), a5, a6] [.inl (nI i + nI 1), .inr (.inl 16), .inr (.inl 0)] σ
  refine go_sld' h (by omega) (by decide +kernel) ?_
  refine Go_run ok_law (LX_cx h (by omega) (by omega)) [124] 60 (fun K R1 T1 hK hR hT => ?_)
  conv => whnf
  refine hK _ _ _ _ ?_
  show Go (LX E k n) mi_law 124 [some (.inr (.inl 16)), some (.inr (.inl 0)), some (.inr (.inl 7)), some (.inr (.inl 15)), some (.inl (nI i)), a5, a6] [.inl (nI i + nI 2), .inr (.inl 16), .inl (vx E (i + 1)), .inr (.inl 0)] σ
  refine go_sld' h (by omega) (by decide +kernel) ?_
  refine Go_run ok_law (LX_cx h (by omega) (by omega)) [126] 60 (fun K R1 T1 hK hR hT => ?_)
  conv => whnf
  refine hK _ _ _ _ ?_
  show Go (LX E k n) mi_law 126 [some (.inr (.inl 16)), some (.inr (.inl 0)), some (.inr (.inl 7)), some (.inr (.inl 15)), some (.inl (nI i)), a5, a6] [.inr (.inl 15), .inl (vx E (i + 2)), .inl (vx E (i + 1)), .inr (.inl 0)] σ
  rcases cp_take hJ (vx E (i + 1)) (vx E (i + 2)) with ⟨v, σc, σm, hX, hM, h0, hJm, h15⟩ | ⟨e, kk, σc, σm, b, hin, hX, hM, h0, hJm⟩
  · refine go_wrap h (as := [.inr (.inl 0), .inl (vx E (i + 1)), .inl (vx E (i + 2)), .inr (.inl 15)]) (w_L_take (vx E (i + 1)) (vx E (i + 2)) σ σc v hX) hk hn rfl (Nat.le_of_ble_eq_true rfl) (Nat.le_of_ble_eq_true rfl) 4 rfl (by decide +kernel) lk_L_63 vw_L_take (by decide +kernel) ?_
    refine Go_run ok_law (LX_cx h (by omega) (by omega)) [137] 60 (fun K R1 T1 hK hR hT => ?_)
    conv => whnf
    refine hK _ _ _ _ ?_
    show Go (LX E (k + 1) (n + 6)) mi_law 137 [some (.inr (.inl 16)), some (.inr (.inl 0)), some (.inr (.inl 7)), some (.inr (.inl 15)), some (.inl (nI i)), some (.inl (nI 0)), a6] [.inl (nI i + nI 1), .inr (.inl 16), .inr (.inl 7)] (st σc 15 0 v)
    refine go_sld' h (by omega) (by decide +kernel) ?_
    refine Go_run ok_law (LX_cx h (by omega) (by omega)) [143] 60 (fun K R1 T1 hK hR hT => ?_)
    conv => whnf
    refine hK _ _ _ _ ?_
    show Go (LX E (k + 1) (n + 6)) mi_law 143 [some (.inr (.inl 16)), some (.inr (.inl 0)), some (.inr (.inl 7)), some (.inr (.inl 15)), some (.inl (nI i)), some (.inl (nI 0)), a6] [.inl (nI i + nI 2), .inr (.inl 16), .inl (vx E (i + 1)), .inr (.inl 7)] (st σc 15 0 v)
    refine go_sld' h (by omega) (by decide +kernel) ?_
    refine Go_run ok_law (LX_cx h (by omega) (by omega)) [859] 80 (fun K R1 T1 hK hR hT => ?_)
    conv => whnf
    refine ⟨.inl (_, _), hM, ?_⟩
    conv => whnf
    refine ⟨.inl (_, _), c_M_thrown σm, ?_⟩
    conv => whnf
    rw [h0]
    refine ⟨fun _ => ?_, fun z => absurd rfl z⟩
    conv => whnf
    refine ⟨fun z => absurd rfl z, fun _ => ?_⟩
    conv => whnf
    refine ⟨vp_in_nI (by decide) (by decide), ?_⟩
    conv => whnf
    have e9 : lg_cmp (σm 15 (nI 0).toNatClampNeg).toInt64 v.toInt64 = 0 := by
      have e8 : σm 15 (nI 0).toNatClampNeg = v := h15
      rw [e8]; exact lg_cmp_self _
    rw [e9]
    refine ⟨fun _ => ?_, fun z => absurd rfl z⟩
    conv => whnf
    exact hK _ _ _ _ (next σm _ _ hJm)
  · have hkk : ¬ nI kk = 0 := (show ∀ q ∈ ([(eIS, 1), (eIA, 2), (eUO, 3)] : List (String × Nat)), ¬ nI q.2 = 0 by
      intro q hq
      simp only [List.mem_cons, List.mem_nil_iff, or_false] at hq
      rcases hq with rfl | rfl | rfl <;> decide) _ hin
    refine go_wrap h (as := [.inr (.inl 0), .inl (vx E (i + 1)), .inl (vx E (i + 2)), .inr (.inl 15)]) (wx_L_take (vx E (i + 1)) (vx E (i + 2)) σ σc hin hX) hk hn rfl (Nat.le_of_ble_eq_true rfl) (Nat.le_of_ble_eq_true rfl) 4 rfl (by decide +kernel) lk_L_63 vw_L_take (by decide +kernel) ?_
    refine Go_run ok_law (LX_cx h (by omega) (by omega)) [137] 60 (fun K R1 T1 hK hR hT => ?_)
    conv => whnf
    refine hK _ _ _ _ ?_
    show Go (LX E (k + 1) (n + 6)) mi_law 137 [some (.inr (.inl 16)), some (.inr (.inl 0)), some (.inr (.inl 7)), some (.inr (.inl 15)), some (.inl (nI i)), some (.inl (nI kk)), a6] [.inl (nI i + nI 1), .inr (.inl 16), .inr (.inl 7)] σc
    refine go_sld' h (by omega) (by decide +kernel) ?_
    refine Go_run ok_law (LX_cx h (by omega) (by omega)) [143] 60 (fun K R1 T1 hK hR hT => ?_)
    conv => whnf
    refine hK _ _ _ _ ?_
    show Go (LX E (k + 1) (n + 6)) mi_law 143 [some (.inr (.inl 16)), some (.inr (.inl 0)), some (.inr (.inl 7)), some (.inr (.inl 15)), some (.inl (nI i)), some (.inl (nI kk)), a6] [.inl (nI i + nI 2), .inr (.inl 16), .inl (vx E (i + 1)), .inr (.inl 7)] σc
    refine go_sld' h (by omega) (by decide +kernel) ?_
    refine Go_run ok_law (LX_cx h (by omega) (by omega)) [859] 80 (fun K R1 T1 hK hR hT => ?_)
    conv => whnf
    refine ⟨.inl (_, _), hM, ?_⟩
    conv => whnf
    refine ⟨.inl (_, _), c_M_thrown σm, ?_⟩
    conv => whnf
    rw [h0]
    refine ⟨fun _ => ?_, fun z => absurd rfl z⟩
    conv => whnf
    refine ⟨fun _ => ?_, fun z => absurd z hkk⟩
    conv => whnf
    exact hK _ _ _ _ (next σm _ _ hJm)
theorem lk_L_72 : Jvm.Cond.methodLink "RootedWordsLaw" 72 y_L_give ∈ gtbl := gw 299 (by decide +kernel) rfl
theorem law_give {E : EV} (h : LC E) {k n i : Nat} (hk : k + 1 ≤ 1050) (hn : n + 6 ≤ 9853) (hi : i + 4 ≤ vL E) {σ : Mem} (hJ : J σ) (a5 a6 : Option AV)
    (next : ∀ σ' a5 a6, J σ' → Go (LX E (k + 1) (n + 6)) mi_law 859 [some (.inr (.inl 16)), some (.inr (.inl 0)), some (.inr (.inl 7)), some (.inr (.inl 15)), some (.inl (nI i)), a5, a6] [] σ') : Go (LX E k n) mi_law 180 [some (.inr (.inl 16)), some (.inr (.inl 0)), some (.inr (.inl 7)), some (.inr (.inl 15)), some (.inl (nI i)), a5, a6] [] σ := by
  refine Go_run ok_law (LX_cx h (by omega) (by omega)) [186] 60 (fun K R1 T1 hK hR hT => ?_)
  conv => whnf
  refine hK _ _ _ _ ?_
  show Go (LX E k n) mi_law 186 [some (.inr (.inl 16)), some (.inr (.inl 0)), some (.inr (.inl 7)), some (.inr (.inl 15)), some (.inl (nI i)), a5, a6] [.inl (nI i + nI 1), .inr (.inl 16), .inr (.inl 0)] σ
  refine go_sld' h (by omega) (by decide +kernel) ?_
  refine Go_run ok_law (LX_cx h (by omega) (by omega)) [188] 60 (fun K R1 T1 hK hR hT => ?_)
  conv => whnf
  refine hK _ _ _ _ ?_
  show Go (LX E k n) mi_law 188 [some (.inr (.inl 16)), some (.inr (.inl 0)), some (.inr (.inl 7)), some (.inr (.inl 15)), some (.inl (nI i)), a5, a6] [.inr (.inl 15), .inl (vx E (i + 1)), .inr (.inl 0)] σ
  rcases cp_give hJ (vx E (i + 1)) with ⟨v, σc, σm, hX, hM, h0, hJm, h15⟩ | ⟨e, kk, σc, σm, b, hin, hX, hM, h0, hJm⟩
  · refine go_wrap h (as := [.inr (.inl 0), .inl (vx E (i + 1)), .inr (.inl 15)]) (w_L_give (vx E (i + 1)) σ σc v hX) hk hn rfl (Nat.le_of_ble_eq_true rfl) (Nat.le_of_ble_eq_true rfl) 3 rfl (by decide +kernel) lk_L_72 vw_L_give (by decide +kernel) ?_
    refine Go_run ok_law (LX_cx h (by omega) (by omega)) [199] 60 (fun K R1 T1 hK hR hT => ?_)
    conv => whnf
    refine hK _ _ _ _ ?_
    show Go (LX E (k + 1) (n + 6)) mi_law 199 [some (.inr (.inl 16)), some (.inr (.inl 0)), some (.inr (.inl 7)), some (.inr (.inl 15)), some (.inl (nI i)), some (.inl (nI 0)), a6] [.inl (nI i + nI 1), .inr (.inl 16), .inr (.inl 7)] (st σc 15 0 v)
    refine go_sld' h (by omega) (by decide +kernel) ?_
    refine Go_run ok_law (LX_cx h (by omega) (by omega)) [859] 80 (fun K R1 T1 hK hR hT => ?_)
    conv => whnf
    refine ⟨.inl (_, _), hM, ?_⟩
    conv => whnf
    refine ⟨.inl (_, _), c_M_thrown σm, ?_⟩
    conv => whnf
    rw [h0]
    refine ⟨fun _ => ?_, fun z => absurd rfl z⟩
    conv => whnf
    refine ⟨fun z => absurd rfl z, fun _ => ?_⟩
    conv => whnf
    refine ⟨vp_in_nI (by decide) (by decide), ?_⟩
    conv => whnf
    have e9 : lg_cmp (σm 15 (nI 0).toNatClampNeg).toInt64 v.toInt64 = 0 := by
      have e8 : σm 15 (nI 0).toNatClampNeg = v := h15
      rw [e8]; exact lg_cmp_self _
    rw [e9]
    refine ⟨fun _ => ?_, fun z => absurd rfl z⟩
    conv => whnf
    exact hK _ _ _ _ (next σm _ _ hJm)
  · have hkk : ¬ nI kk = 0 := (show ∀ q ∈ ([(eIS, 1), (eNE, 2)] : List (String × Nat)), ¬ nI q.2 = 0 by
      intro q hq
      simp only [List.mem_cons, List.mem_nil_iff, or_false] at hq
      rcases hq with rfl | rfl <;> decide) _ hin
    refine go_wrap h (as := [.inr (.inl 0), .inl (vx E (i + 1)), .inr (.inl 15)]) (wx_L_give (vx E (i + 1)) σ σc hin hX) hk hn rfl (Nat.le_of_ble_eq_true rfl) (Nat.le_of_ble_eq_true rfl) 3 rfl (by decide +kernel) lk_L_72 vw_L_give (by decide +kernel) ?_
    refine Go_run ok_law (LX_cx h (by omega) (by omega)) [199] 60 (fun K R1 T1 hK hR hT => ?_)
    conv => whnf
    refine hK _ _ _ _ ?_
    show Go (LX E (k + 1) (n + 6)) mi_law 199 [some (.inr (.inl 16)), some (.inr (.inl 0)), some (.inr (.inl 7)), some (.inr (.inl 15)), some (.inl (nI i)), some (.inl (nI kk)), a6] [.inl (nI i + nI 1), .inr (.inl 16), .inr (.inl 7)] σc
    refine go_sld' h (by omega) (by decide +kernel) ?_
    refine Go_run ok_law (LX_cx h (by omega) (by omega)) [859] 80 (fun K R1 T1 hK hR hT => ?_)
    conv => whnf
    refine ⟨.inl (_, _), hM, ?_⟩
    conv => whnf
    refine ⟨.inl (_, _), c_M_thrown σm, ?_⟩
    conv => whnf
    rw [h0]
    refine ⟨fun _ => ?_, fun z => absurd rfl z⟩
    conv => whnf
    refine ⟨fun _ => ?_, fun z => absurd z hkk⟩
    conv => whnf
    exact hK _ _ _ _ (next σm _ _ hJm)
theorem lk_L_76 : Jvm.Cond.methodLink "RootedWordsLaw" 76 y_L_store ∈ gtbl := gw 335 (by decide +kernel) rfl
theorem law_store {E : EV} (h : LC E) {k n i : Nat} (hk : k + 1 ≤ 1050) (hn : n + 6 ≤ 9853) (hi : i + 4 ≤ vL E) {σ : Mem} (hJ : J σ) (a5 a6 : Option AV)
    (next : ∀ σ' a5 a6, J σ' → Go (LX E (k + 1) (n + 6)) mi_law 859 [some (.inr (.inl 16)), some (.inr (.inl 0)), some (.inr (.inl 7)), some (.inr (.inl 15)), some (.inl (nI i)), a5, a6] [] σ') : Go (LX E k n) mi_law 236 [some (.inr (.inl 16)), some (.inr (.inl 0)), some (.inr (.inl 7)), some (.inr (.inl 15)), some (.inl (nI i)), a5, a6] [] σ := by
  refine Go_run ok_law (LX_cx h (by omega) (by omega)) [242] 60 (fun K R1 T1 hK hR hT => ?_)
  conv => whnf
  refine hK _ _ _ _ ?_
  show Go (LX E k n) mi_law 242 [some (.inr (.inl 16)), some (.inr (.inl 0)), some (.inr (.inl 7)), some (.inr (.inl 15)), some (.inl (nI i)), a5, a6] [.inl (nI i + nI 1), .inr (.inl 16), .inr (.inl 0)] σ
  refine go_sld' h (by omega) (by decide +kernel) ?_
  refine Go_run ok_law (LX_cx h (by omega) (by omega)) [248] 60 (fun K R1 T1 hK hR hT => ?_)
  conv => whnf
  refine hK _ _ _ _ ?_
  show Go (LX E k n) mi_law 248 [some (.inr (.inl 16)), some (.inr (.inl 0)), some (.inr (.inl 7)), some (.inr (.inl 15)), some (.inl (nI i)), a5, a6] [.inl (nI i + nI 2), .inr (.inl 16), .inl (vx E (i + 1)), .inr (.inl 0)] σ
  refine go_sld' h (by omega) (by decide +kernel) ?_
  refine Go_run ok_law (LX_cx h (by omega) (by omega)) [254] 60 (fun K R1 T1 hK hR hT => ?_)
  conv => whnf
  refine hK _ _ _ _ ?_
  show Go (LX E k n) mi_law 254 [some (.inr (.inl 16)), some (.inr (.inl 0)), some (.inr (.inl 7)), some (.inr (.inl 15)), some (.inl (nI i)), a5, a6] [.inl (nI i + nI 3), .inr (.inl 16), .inl (vx E (i + 2)), .inl (vx E (i + 1)), .inr (.inl 0)] σ
  refine go_sld' h (by omega) (by decide +kernel) ?_
  refine Go_run ok_law (LX_cx h (by omega) (by omega)) [256] 60 (fun K R1 T1 hK hR hT => ?_)
  conv => whnf
  refine hK _ _ _ _ ?_
  show Go (LX E k n) mi_law 256 [some (.inr (.inl 16)), some (.inr (.inl 0)), some (.inr (.inl 7)), some (.inr (.inl 15)), some (.inl (nI i)), a5, a6] [.inr (.inl 15), .inl (vx E (i + 3)), .inl (vx E (i + 2)), .inl (vx E (i + 1)), .inr (.inl 0)] σ
  rcases cp_store hJ (vx E (i + 1)) (vx E (i + 2)) (vx E (i + 3)) with ⟨v, σc, σm, hX, hM, h0, hJm, h15⟩ | ⟨e, kk, σc, σm, b, hin, hX, hM, h0, hJm⟩
  · refine go_wrap h (as := [.inr (.inl 0), .inl (vx E (i + 1)), .inl (vx E (i + 2)), .inl (vx E (i + 3)), .inr (.inl 15)]) (w_L_store (vx E (i + 1)) (vx E (i + 2)) (vx E (i + 3)) σ σc v hX) hk hn rfl (Nat.le_of_ble_eq_true rfl) (Nat.le_of_ble_eq_true rfl) 5 rfl (by decide +kernel) lk_L_76 vw_L_store (by decide +kernel) ?_
    refine Go_run ok_law (LX_cx h (by omega) (by omega)) [267] 60 (fun K R1 T1 hK hR hT => ?_)
    conv => whnf
    refine hK _ _ _ _ ?_
    show Go (LX E (k + 1) (n + 6)) mi_law 267 [some (.inr (.inl 16)), some (.inr (.inl 0)), some (.inr (.inl 7)), some (.inr (.inl 15)), some (.inl (nI i)), some (.inl (nI 0)), a6] [.inl (nI i + nI 1), .inr (.inl 16), .inr (.inl 7)] (st σc 15 0 v)
    refine go_sld' h (by omega) (by decide +kernel) ?_
    refine Go_run ok_law (LX_cx h (by omega) (by omega)) [273] 60 (fun K R1 T1 hK hR hT => ?_)
    conv => whnf
    refine hK _ _ _ _ ?_
    show Go (LX E (k + 1) (n + 6)) mi_law 273 [some (.inr (.inl 16)), some (.inr (.inl 0)), some (.inr (.inl 7)), some (.inr (.inl 15)), some (.inl (nI i)), some (.inl (nI 0)), a6] [.inl (nI i + nI 2), .inr (.inl 16), .inl (vx E (i + 1)), .inr (.inl 7)] (st σc 15 0 v)
    refine go_sld' h (by omega) (by decide +kernel) ?_
    refine Go_run ok_law (LX_cx h (by omega) (by omega)) [279] 60 (fun K R1 T1 hK hR hT => ?_)
    conv => whnf
    refine hK _ _ _ _ ?_
    show Go (LX E (k + 1) (n + 6)) mi_law 279 [some (.inr (.inl 16)), some (.inr (.inl 0)), some (.inr (.inl 7)), some (.inr (.inl 15)), some (.inl (nI i)), some (.inl (nI 0)), a6] [.inl (nI i + nI 3), .inr (.inl 16), .inl (vx E (i + 2)), .inl (vx E (i + 1)), .inr (.inl 7)] (st σc 15 0 v)
    refine go_sld' h (by omega) (by decide +kernel) ?_
    refine Go_run ok_law (LX_cx h (by omega) (by omega)) [859] 80 (fun K R1 T1 hK hR hT => ?_)
    conv => whnf
    refine ⟨.inl (_, _), hM, ?_⟩
    conv => whnf
    refine ⟨.inl (_, _), c_M_thrown σm, ?_⟩
    conv => whnf
    rw [h0]
    refine ⟨fun _ => ?_, fun z => absurd rfl z⟩
    conv => whnf
    refine ⟨fun z => absurd rfl z, fun _ => ?_⟩
    conv => whnf
    refine ⟨vp_in_nI (by decide) (by decide), ?_⟩
    conv => whnf
    have e9 : lg_cmp (σm 15 (nI 0).toNatClampNeg).toInt64 v.toInt64 = 0 := by
      have e8 : σm 15 (nI 0).toNatClampNeg = v := h15
      rw [e8]; exact lg_cmp_self _
    rw [e9]
    refine ⟨fun _ => ?_, fun z => absurd rfl z⟩
    conv => whnf
    exact hK _ _ _ _ (next σm _ _ hJm)
  · have hkk : ¬ nI kk = 0 := (show ∀ q ∈ ([(eIS, 1), (eNE, 2), (eIO, 3), (eIA, 4)] : List (String × Nat)), ¬ nI q.2 = 0 by
      intro q hq
      simp only [List.mem_cons, List.mem_nil_iff, or_false] at hq
      rcases hq with rfl | rfl | rfl | rfl <;> decide) _ hin
    refine go_wrap h (as := [.inr (.inl 0), .inl (vx E (i + 1)), .inl (vx E (i + 2)), .inl (vx E (i + 3)), .inr (.inl 15)]) (wx_L_store (vx E (i + 1)) (vx E (i + 2)) (vx E (i + 3)) σ σc hin hX) hk hn rfl (Nat.le_of_ble_eq_true rfl) (Nat.le_of_ble_eq_true rfl) 5 rfl (by decide +kernel) lk_L_76 vw_L_store (by decide +kernel) ?_
    refine Go_run ok_law (LX_cx h (by omega) (by omega)) [267] 60 (fun K R1 T1 hK hR hT => ?_)
    conv => whnf
    refine hK _ _ _ _ ?_
    show Go (LX E (k + 1) (n + 6)) mi_law 267 [some (.inr (.inl 16)), some (.inr (.inl 0)), some (.inr (.inl 7)), some (.inr (.inl 15)), some (.inl (nI i)), some (.inl (nI kk)), a6] [.inl (nI i + nI 1), .inr (.inl 16), .inr (.inl 7)] σc
    refine go_sld' h (by omega) (by decide +kernel) ?_
    refine Go_run ok_law (LX_cx h (by omega) (by omega)) [273] 60 (fun K R1 T1 hK hR hT => ?_)
    conv => whnf
    refine hK _ _ _ _ ?_
    show Go (LX E (k + 1) (n + 6)) mi_law 273 [some (.inr (.inl 16)), some (.inr (.inl 0)), some (.inr (.inl 7)), some (.inr (.inl 15)), some (.inl (nI i)), some (.inl (nI kk)), a6] [.inl (nI i + nI 2), .inr (.inl 16), .inl (vx E (i + 1)), .inr (.inl 7)] σc
    refine go_sld' h (by omega) (by decide +kernel) ?_
    refine Go_run ok_law (LX_cx h (by omega) (by omega)) [279] 60 (fun K R1 T1 hK hR hT => ?_)
    conv => whnf
    refine hK _ _ _ _ ?_
    show Go (LX E (k + 1) (n + 6)) mi_law 279 [some (.inr (.inl 16)), some (.inr (.inl 0)), some (.inr (.inl 7)), some (.inr (.inl 15)), some (.inl (nI i)), some (.inl (nI kk)), a6] [.inl (nI i + nI 3), .inr (.inl 16), .inl (vx E (i + 2)), .inl (vx E (i + 1)), .inr (.inl 7)] σc
    refine go_sld' h (by omega) (by decide +kernel) ?_
    refine Go_run ok_law (LX_cx h (by omega) (by omega)) [859] 80 (fun K R1 T1 hK hR hT => ?_)
    conv => whnf
    refine ⟨.inl (_, _), hM, ?_⟩
    conv => whnf
    refine ⟨.inl (_, _), c_M_thrown σm, ?_⟩
    conv => whnf
    rw [h0]
    refine ⟨fun _ => ?_, fun z => absurd rfl z⟩
    conv => whnf
    refine ⟨fun _ => ?_, fun z => absurd z hkk⟩
    conv => whnf
    exact hK _ _ _ _ (next σm _ _ hJm)
theorem lk_L_80 : Jvm.Cond.methodLink "RootedWordsLaw" 80 y_L_load ∈ gtbl := gw 372 (by decide +kernel) rfl
theorem law_load {E : EV} (h : LC E) {k n i : Nat} (hk : k + 1 ≤ 1050) (hn : n + 6 ≤ 9853) (hi : i + 4 ≤ vL E) {σ : Mem} (hJ : J σ) (a5 a6 : Option AV)
    (next : ∀ σ' a5 a6, J σ' → Go (LX E (k + 1) (n + 6)) mi_law 859 [some (.inr (.inl 16)), some (.inr (.inl 0)), some (.inr (.inl 7)), some (.inr (.inl 15)), some (.inl (nI i)), a5, a6] [] σ') : Go (LX E k n) mi_law 316 [some (.inr (.inl 16)), some (.inr (.inl 0)), some (.inr (.inl 7)), some (.inr (.inl 15)), some (.inl (nI i)), a5, a6] [] σ := by
  refine Go_run ok_law (LX_cx h (by omega) (by omega)) [322] 60 (fun K R1 T1 hK hR hT => ?_)
  conv => whnf
  refine hK _ _ _ _ ?_
  show Go (LX E k n) mi_law 322 [some (.inr (.inl 16)), some (.inr (.inl 0)), some (.inr (.inl 7)), some (.inr (.inl 15)), some (.inl (nI i)), a5, a6] [.inl (nI i + nI 1), .inr (.inl 16), .inr (.inl 0)] σ
  refine go_sld' h (by omega) (by decide +kernel) ?_
  refine Go_run ok_law (LX_cx h (by omega) (by omega)) [328] 60 (fun K R1 T1 hK hR hT => ?_)
  conv => whnf
  refine hK _ _ _ _ ?_
  show Go (LX E k n) mi_law 328 [some (.inr (.inl 16)), some (.inr (.inl 0)), some (.inr (.inl 7)), some (.inr (.inl 15)), some (.inl (nI i)), a5, a6] [.inl (nI i + nI 2), .inr (.inl 16), .inl (vx E (i + 1)), .inr (.inl 0)] σ
  refine go_sld' h (by omega) (by decide +kernel) ?_
  refine Go_run ok_law (LX_cx h (by omega) (by omega)) [330] 60 (fun K R1 T1 hK hR hT => ?_)
  conv => whnf
  refine hK _ _ _ _ ?_
  show Go (LX E k n) mi_law 330 [some (.inr (.inl 16)), some (.inr (.inl 0)), some (.inr (.inl 7)), some (.inr (.inl 15)), some (.inl (nI i)), a5, a6] [.inr (.inl 15), .inl (vx E (i + 2)), .inl (vx E (i + 1)), .inr (.inl 0)] σ
  rcases cp_load hJ (vx E (i + 1)) (vx E (i + 2)) with ⟨v, σc, σm, hX, hM, h0, hJm, h15⟩ | ⟨e, kk, σc, σm, b, hin, hX, hM, h0, hJm⟩
  · refine go_wrap h (as := [.inr (.inl 0), .inl (vx E (i + 1)), .inl (vx E (i + 2)), .inr (.inl 15)]) (w_L_load (vx E (i + 1)) (vx E (i + 2)) σ σc v hX) hk hn rfl (Nat.le_of_ble_eq_true rfl) (Nat.le_of_ble_eq_true rfl) 4 rfl (by decide +kernel) lk_L_80 vw_L_load (by decide +kernel) ?_
    refine Go_run ok_law (LX_cx h (by omega) (by omega)) [341] 60 (fun K R1 T1 hK hR hT => ?_)
    conv => whnf
    refine hK _ _ _ _ ?_
    show Go (LX E (k + 1) (n + 6)) mi_law 341 [some (.inr (.inl 16)), some (.inr (.inl 0)), some (.inr (.inl 7)), some (.inr (.inl 15)), some (.inl (nI i)), some (.inl (nI 0)), a6] [.inl (nI i + nI 1), .inr (.inl 16), .inr (.inl 7)] (st σc 15 0 v)
    refine go_sld' h (by omega) (by decide +kernel) ?_
    refine Go_run ok_law (LX_cx h (by omega) (by omega)) [347] 60 (fun K R1 T1 hK hR hT => ?_)
    conv => whnf
    refine hK _ _ _ _ ?_
    show Go (LX E (k + 1) (n + 6)) mi_law 347 [some (.inr (.inl 16)), some (.inr (.inl 0)), some (.inr (.inl 7)), some (.inr (.inl 15)), some (.inl (nI i)), some (.inl (nI 0)), a6] [.inl (nI i + nI 2), .inr (.inl 16), .inl (vx E (i + 1)), .inr (.inl 7)] (st σc 15 0 v)
    refine go_sld' h (by omega) (by decide +kernel) ?_
    refine Go_run ok_law (LX_cx h (by omega) (by omega)) [859] 80 (fun K R1 T1 hK hR hT => ?_)
    conv => whnf
    refine ⟨.inl (_, _), hM, ?_⟩
    conv => whnf
    refine ⟨.inl (_, _), c_M_thrown σm, ?_⟩
    conv => whnf
    rw [h0]
    refine ⟨fun _ => ?_, fun z => absurd rfl z⟩
    conv => whnf
    refine ⟨fun z => absurd rfl z, fun _ => ?_⟩
    conv => whnf
    refine ⟨vp_in_nI (by decide) (by decide), ?_⟩
    conv => whnf
    have e9 : lg_cmp (σm 15 (nI 0).toNatClampNeg).toInt64 v.toInt64 = 0 := by
      have e8 : σm 15 (nI 0).toNatClampNeg = v := h15
      rw [e8]; exact lg_cmp_self _
    rw [e9]
    refine ⟨fun _ => ?_, fun z => absurd rfl z⟩
    conv => whnf
    exact hK _ _ _ _ (next σm _ _ hJm)
  · have hkk : ¬ nI kk = 0 := (show ∀ q ∈ ([(eIS, 1), (eNE, 2), (eIO, 3)] : List (String × Nat)), ¬ nI q.2 = 0 by
      intro q hq
      simp only [List.mem_cons, List.mem_nil_iff, or_false] at hq
      rcases hq with rfl | rfl | rfl <;> decide) _ hin
    refine go_wrap h (as := [.inr (.inl 0), .inl (vx E (i + 1)), .inl (vx E (i + 2)), .inr (.inl 15)]) (wx_L_load (vx E (i + 1)) (vx E (i + 2)) σ σc hin hX) hk hn rfl (Nat.le_of_ble_eq_true rfl) (Nat.le_of_ble_eq_true rfl) 4 rfl (by decide +kernel) lk_L_80 vw_L_load (by decide +kernel) ?_
    refine Go_run ok_law (LX_cx h (by omega) (by omega)) [341] 60 (fun K R1 T1 hK hR hT => ?_)
    conv => whnf
    refine hK _ _ _ _ ?_
    show Go (LX E (k + 1) (n + 6)) mi_law 341 [some (.inr (.inl 16)), some (.inr (.inl 0)), some (.inr (.inl 7)), some (.inr (.inl 15)), some (.inl (nI i)), some (.inl (nI kk)), a6] [.inl (nI i + nI 1), .inr (.inl 16), .inr (.inl 7)] σc
    refine go_sld' h (by omega) (by decide +kernel) ?_
    refine Go_run ok_law (LX_cx h (by omega) (by omega)) [347] 60 (fun K R1 T1 hK hR hT => ?_)
    conv => whnf
    refine hK _ _ _ _ ?_
    show Go (LX E (k + 1) (n + 6)) mi_law 347 [some (.inr (.inl 16)), some (.inr (.inl 0)), some (.inr (.inl 7)), some (.inr (.inl 15)), some (.inl (nI i)), some (.inl (nI kk)), a6] [.inl (nI i + nI 2), .inr (.inl 16), .inl (vx E (i + 1)), .inr (.inl 7)] σc
    refine go_sld' h (by omega) (by decide +kernel) ?_
    refine Go_run ok_law (LX_cx h (by omega) (by omega)) [859] 80 (fun K R1 T1 hK hR hT => ?_)
    conv => whnf
    refine ⟨.inl (_, _), hM, ?_⟩
    conv => whnf
    refine ⟨.inl (_, _), c_M_thrown σm, ?_⟩
    conv => whnf
    rw [h0]
    refine ⟨fun _ => ?_, fun z => absurd rfl z⟩
    conv => whnf
    refine ⟨fun _ => ?_, fun z => absurd z hkk⟩
    conv => whnf
    exact hK _ _ _ _ (next σm _ _ hJm)
theorem lk_L_83 : Jvm.Cond.methodLink "RootedWordsLaw" 83 y_L_size ∈ gtbl := gw 379 (by decide +kernel) rfl
theorem law_size {E : EV} (h : LC E) {k n i : Nat} (hk : k + 1 ≤ 1050) (hn : n + 6 ≤ 9853) (hi : i + 4 ≤ vL E) {σ : Mem} (hJ : J σ) (a5 a6 : Option AV)
    (next : ∀ σ' a5 a6, J σ' → Go (LX E (k + 1) (n + 6)) mi_law 859 [some (.inr (.inl 16)), some (.inr (.inl 0)), some (.inr (.inl 7)), some (.inr (.inl 15)), some (.inl (nI i)), a5, a6] [] σ') : Go (LX E k n) mi_law 384 [some (.inr (.inl 16)), some (.inr (.inl 0)), some (.inr (.inl 7)), some (.inr (.inl 15)), some (.inl (nI i)), a5, a6] [] σ := by
  refine Go_run ok_law (LX_cx h (by omega) (by omega)) [390] 60 (fun K R1 T1 hK hR hT => ?_)
  conv => whnf
  refine hK _ _ _ _ ?_
  show Go (LX E k n) mi_law 390 [some (.inr (.inl 16)), some (.inr (.inl 0)), some (.inr (.inl 7)), some (.inr (.inl 15)), some (.inl (nI i)), a5, a6] [.inl (nI i + nI 1), .inr (.inl 16), .inr (.inl 0)] σ
  refine go_sld' h (by omega) (by decide +kernel) ?_
  refine Go_run ok_law (LX_cx h (by omega) (by omega)) [396] 60 (fun K R1 T1 hK hR hT => ?_)
  conv => whnf
  refine hK _ _ _ _ ?_
  show Go (LX E k n) mi_law 396 [some (.inr (.inl 16)), some (.inr (.inl 0)), some (.inr (.inl 7)), some (.inr (.inl 15)), some (.inl (nI i)), a5, a6] [.inl (nI i + nI 2), .inr (.inl 16), .inl (vx E (i + 1)), .inr (.inl 0)] σ
  refine go_sld' h (by omega) (by decide +kernel) ?_
  refine Go_run ok_law (LX_cx h (by omega) (by omega)) [398] 60 (fun K R1 T1 hK hR hT => ?_)
  conv => whnf
  refine hK _ _ _ _ ?_
  show Go (LX E k n) mi_law 398 [some (.inr (.inl 16)), some (.inr (.inl 0)), some (.inr (.inl 7)), some (.inr (.inl 15)), some (.inl (nI i)), a5, a6] [.inr (.inl 15), .inl (vx E (i + 2)), .inl (vx E (i + 1)), .inr (.inl 0)] σ
  rcases cp_size hJ (vx E (i + 1)) (vx E (i + 2)) with ⟨v, σc, σm, hX, hM, h0, hJm, h15⟩ | ⟨e, kk, σc, σm, b, hin, hX, hM, h0, hJm⟩
  · refine go_wrap h (as := [.inr (.inl 0), .inl (vx E (i + 1)), .inl (vx E (i + 2)), .inr (.inl 15)]) (w_L_size (vx E (i + 1)) (vx E (i + 2)) σ σc v hX) hk hn rfl (Nat.le_of_ble_eq_true rfl) (Nat.le_of_ble_eq_true rfl) 4 rfl (by decide +kernel) lk_L_83 vw_L_size (by decide +kernel) ?_
    refine Go_run ok_law (LX_cx h (by omega) (by omega)) [409] 60 (fun K R1 T1 hK hR hT => ?_)
    conv => whnf
    refine hK _ _ _ _ ?_
    show Go (LX E (k + 1) (n + 6)) mi_law 409 [some (.inr (.inl 16)), some (.inr (.inl 0)), some (.inr (.inl 7)), some (.inr (.inl 15)), some (.inl (nI i)), some (.inl (nI 0)), a6] [.inl (nI i + nI 1), .inr (.inl 16), .inr (.inl 7)] (st σc 15 0 v)
    refine go_sld' h (by omega) (by decide +kernel) ?_
    refine Go_run ok_law (LX_cx h (by omega) (by omega)) [415] 60 (fun K R1 T1 hK hR hT => ?_)
    conv => whnf
    refine hK _ _ _ _ ?_
    show Go (LX E (k + 1) (n + 6)) mi_law 415 [some (.inr (.inl 16)), some (.inr (.inl 0)), some (.inr (.inl 7)), some (.inr (.inl 15)), some (.inl (nI i)), some (.inl (nI 0)), a6] [.inl (nI i + nI 2), .inr (.inl 16), .inl (vx E (i + 1)), .inr (.inl 7)] (st σc 15 0 v)
    refine go_sld' h (by omega) (by decide +kernel) ?_
    refine Go_run ok_law (LX_cx h (by omega) (by omega)) [859] 80 (fun K R1 T1 hK hR hT => ?_)
    conv => whnf
    refine ⟨.inl (_, _), hM, ?_⟩
    conv => whnf
    refine ⟨.inl (_, _), c_M_thrown σm, ?_⟩
    conv => whnf
    rw [h0]
    refine ⟨fun _ => ?_, fun z => absurd rfl z⟩
    conv => whnf
    refine ⟨fun z => absurd rfl z, fun _ => ?_⟩
    conv => whnf
    refine ⟨vp_in_nI (by decide) (by decide), ?_⟩
    conv => whnf
    have e9 : lg_cmp (σm 15 (nI 0).toNatClampNeg).toInt64 v.toInt64 = 0 := by
      have e8 : σm 15 (nI 0).toNatClampNeg = v := h15
      rw [e8]; exact lg_cmp_self _
    rw [e9]
    refine ⟨fun _ => ?_, fun z => absurd rfl z⟩
    conv => whnf
    exact hK _ _ _ _ (next σm _ _ hJm)
  · have hkk : ¬ nI kk = 0 := (show ∀ q ∈ ([(eIS, 1), (eNE, 2)] : List (String × Nat)), ¬ nI q.2 = 0 by
      intro q hq
      simp only [List.mem_cons, List.mem_nil_iff, or_false] at hq
      rcases hq with rfl | rfl <;> decide) _ hin
    refine go_wrap h (as := [.inr (.inl 0), .inl (vx E (i + 1)), .inl (vx E (i + 2)), .inr (.inl 15)]) (wx_L_size (vx E (i + 1)) (vx E (i + 2)) σ σc hin hX) hk hn rfl (Nat.le_of_ble_eq_true rfl) (Nat.le_of_ble_eq_true rfl) 4 rfl (by decide +kernel) lk_L_83 vw_L_size (by decide +kernel) ?_
    refine Go_run ok_law (LX_cx h (by omega) (by omega)) [409] 60 (fun K R1 T1 hK hR hT => ?_)
    conv => whnf
    refine hK _ _ _ _ ?_
    show Go (LX E (k + 1) (n + 6)) mi_law 409 [some (.inr (.inl 16)), some (.inr (.inl 0)), some (.inr (.inl 7)), some (.inr (.inl 15)), some (.inl (nI i)), some (.inl (nI kk)), a6] [.inl (nI i + nI 1), .inr (.inl 16), .inr (.inl 7)] σc
    refine go_sld' h (by omega) (by decide +kernel) ?_
    refine Go_run ok_law (LX_cx h (by omega) (by omega)) [415] 60 (fun K R1 T1 hK hR hT => ?_)
    conv => whnf
    refine hK _ _ _ _ ?_
    show Go (LX E (k + 1) (n + 6)) mi_law 415 [some (.inr (.inl 16)), some (.inr (.inl 0)), some (.inr (.inl 7)), some (.inr (.inl 15)), some (.inl (nI i)), some (.inl (nI kk)), a6] [.inl (nI i + nI 2), .inr (.inl 16), .inl (vx E (i + 1)), .inr (.inl 7)] σc
    refine go_sld' h (by omega) (by decide +kernel) ?_
    refine Go_run ok_law (LX_cx h (by omega) (by omega)) [859] 80 (fun K R1 T1 hK hR hT => ?_)
    conv => whnf
    refine ⟨.inl (_, _), hM, ?_⟩
    conv => whnf
    refine ⟨.inl (_, _), c_M_thrown σm, ?_⟩
    conv => whnf
    rw [h0]
    refine ⟨fun _ => ?_, fun z => absurd rfl z⟩
    conv => whnf
    refine ⟨fun _ => ?_, fun z => absurd z hkk⟩
    conv => whnf
    exact hK _ _ _ _ (next σm _ _ hJm)
theorem lk_L_86 : Jvm.Cond.methodLink "RootedWordsLaw" 86 y_L_setRoot ∈ gtbl := gw 386 (by decide +kernel) rfl
theorem law_setRoot {E : EV} (h : LC E) {k n i : Nat} (hk : k + 1 ≤ 1050) (hn : n + 6 ≤ 9853) (hi : i + 4 ≤ vL E) {σ : Mem} (hJ : J σ) (a5 a6 : Option AV)
    (next : ∀ σ' a5 a6, J σ' → Go (LX E (k + 1) (n + 6)) mi_law 859 [some (.inr (.inl 16)), some (.inr (.inl 0)), some (.inr (.inl 7)), some (.inr (.inl 15)), some (.inl (nI i)), a5, a6] [] σ') : Go (LX E k n) mi_law 452 [some (.inr (.inl 16)), some (.inr (.inl 0)), some (.inr (.inl 7)), some (.inr (.inl 15)), some (.inl (nI i)), a5, a6] [] σ := by
  refine Go_run ok_law (LX_cx h (by omega) (by omega)) [458] 60 (fun K R1 T1 hK hR hT => ?_)
  conv => whnf
  refine hK _ _ _ _ ?_
  show Go (LX E k n) mi_law 458 [some (.inr (.inl 16)), some (.inr (.inl 0)), some (.inr (.inl 7)), some (.inr (.inl 15)), some (.inl (nI i)), a5, a6] [.inl (nI i + nI 1), .inr (.inl 16), .inr (.inl 0)] σ
  refine go_sld' h (by omega) (by decide +kernel) ?_
  refine Go_run ok_law (LX_cx h (by omega) (by omega)) [464] 60 (fun K R1 T1 hK hR hT => ?_)
  conv => whnf
  refine hK _ _ _ _ ?_
  show Go (LX E k n) mi_law 464 [some (.inr (.inl 16)), some (.inr (.inl 0)), some (.inr (.inl 7)), some (.inr (.inl 15)), some (.inl (nI i)), a5, a6] [.inl (nI i + nI 2), .inr (.inl 16), .inl (vx E (i + 1)), .inr (.inl 0)] σ
  refine go_sld' h (by omega) (by decide +kernel) ?_
  refine Go_run ok_law (LX_cx h (by omega) (by omega)) [466] 60 (fun K R1 T1 hK hR hT => ?_)
  conv => whnf
  refine hK _ _ _ _ ?_
  show Go (LX E k n) mi_law 466 [some (.inr (.inl 16)), some (.inr (.inl 0)), some (.inr (.inl 7)), some (.inr (.inl 15)), some (.inl (nI i)), a5, a6] [.inr (.inl 15), .inl (vx E (i + 2)), .inl (vx E (i + 1)), .inr (.inl 0)] σ
  rcases cp_setRoot hJ (vx E (i + 1)) (vx E (i + 2)) with ⟨v, σc, σm, hX, hM, h0, hJm, h15⟩ | ⟨e, kk, σc, σm, b, hin, hX, hM, h0, hJm⟩
  · refine go_wrap h (as := [.inr (.inl 0), .inl (vx E (i + 1)), .inl (vx E (i + 2)), .inr (.inl 15)]) (w_L_setRoot (vx E (i + 1)) (vx E (i + 2)) σ σc v hX) hk hn rfl (Nat.le_of_ble_eq_true rfl) (Nat.le_of_ble_eq_true rfl) 4 rfl (by decide +kernel) lk_L_86 vw_L_setRoot (by decide +kernel) ?_
    refine Go_run ok_law (LX_cx h (by omega) (by omega)) [477] 60 (fun K R1 T1 hK hR hT => ?_)
    conv => whnf
    refine hK _ _ _ _ ?_
    show Go (LX E (k + 1) (n + 6)) mi_law 477 [some (.inr (.inl 16)), some (.inr (.inl 0)), some (.inr (.inl 7)), some (.inr (.inl 15)), some (.inl (nI i)), some (.inl (nI 0)), a6] [.inl (nI i + nI 1), .inr (.inl 16), .inr (.inl 7)] (st σc 15 0 v)
    refine go_sld' h (by omega) (by decide +kernel) ?_
    refine Go_run ok_law (LX_cx h (by omega) (by omega)) [483] 60 (fun K R1 T1 hK hR hT => ?_)
    conv => whnf
    refine hK _ _ _ _ ?_
    show Go (LX E (k + 1) (n + 6)) mi_law 483 [some (.inr (.inl 16)), some (.inr (.inl 0)), some (.inr (.inl 7)), some (.inr (.inl 15)), some (.inl (nI i)), some (.inl (nI 0)), a6] [.inl (nI i + nI 2), .inr (.inl 16), .inl (vx E (i + 1)), .inr (.inl 7)] (st σc 15 0 v)
    refine go_sld' h (by omega) (by decide +kernel) ?_
    refine Go_run ok_law (LX_cx h (by omega) (by omega)) [859] 80 (fun K R1 T1 hK hR hT => ?_)
    conv => whnf
    refine ⟨.inl (_, _), hM, ?_⟩
    conv => whnf
    refine ⟨.inl (_, _), c_M_thrown σm, ?_⟩
    conv => whnf
    rw [h0]
    refine ⟨fun _ => ?_, fun z => absurd rfl z⟩
    conv => whnf
    refine ⟨fun z => absurd rfl z, fun _ => ?_⟩
    conv => whnf
    refine ⟨vp_in_nI (by decide) (by decide), ?_⟩
    conv => whnf
    have e9 : lg_cmp (σm 15 (nI 0).toNatClampNeg).toInt64 v.toInt64 = 0 := by
      have e8 : σm 15 (nI 0).toNatClampNeg = v := h15
      rw [e8]; exact lg_cmp_self _
    rw [e9]
    refine ⟨fun _ => ?_, fun z => absurd rfl z⟩
    conv => whnf
    exact hK _ _ _ _ (next σm _ _ hJm)
  · have hkk : ¬ nI kk = 0 := (show ∀ q ∈ ([(eIS, 1), (eIO, 2), (eNE, 3)] : List (String × Nat)), ¬ nI q.2 = 0 by
      intro q hq
      simp only [List.mem_cons, List.mem_nil_iff, or_false] at hq
      rcases hq with rfl | rfl | rfl <;> decide) _ hin
    refine go_wrap h (as := [.inr (.inl 0), .inl (vx E (i + 1)), .inl (vx E (i + 2)), .inr (.inl 15)]) (wx_L_setRoot (vx E (i + 1)) (vx E (i + 2)) σ σc hin hX) hk hn rfl (Nat.le_of_ble_eq_true rfl) (Nat.le_of_ble_eq_true rfl) 4 rfl (by decide +kernel) lk_L_86 vw_L_setRoot (by decide +kernel) ?_
    refine Go_run ok_law (LX_cx h (by omega) (by omega)) [477] 60 (fun K R1 T1 hK hR hT => ?_)
    conv => whnf
    refine hK _ _ _ _ ?_
    show Go (LX E (k + 1) (n + 6)) mi_law 477 [some (.inr (.inl 16)), some (.inr (.inl 0)), some (.inr (.inl 7)), some (.inr (.inl 15)), some (.inl (nI i)), some (.inl (nI kk)), a6] [.inl (nI i + nI 1), .inr (.inl 16), .inr (.inl 7)] σc
    refine go_sld' h (by omega) (by decide +kernel) ?_
    refine Go_run ok_law (LX_cx h (by omega) (by omega)) [483] 60 (fun K R1 T1 hK hR hT => ?_)
    conv => whnf
    refine hK _ _ _ _ ?_
    show Go (LX E (k + 1) (n + 6)) mi_law 483 [some (.inr (.inl 16)), some (.inr (.inl 0)), some (.inr (.inl 7)), some (.inr (.inl 15)), some (.inl (nI i)), some (.inl (nI kk)), a6] [.inl (nI i + nI 2), .inr (.inl 16), .inl (vx E (i + 1)), .inr (.inl 7)] σc
    refine go_sld' h (by omega) (by decide +kernel) ?_
    refine Go_run ok_law (LX_cx h (by omega) (by omega)) [859] 80 (fun K R1 T1 hK hR hT => ?_)
    conv => whnf
    refine ⟨.inl (_, _), hM, ?_⟩
    conv => whnf
    refine ⟨.inl (_, _), c_M_thrown σm, ?_⟩
    conv => whnf
    rw [h0]
    refine ⟨fun _ => ?_, fun z => absurd rfl z⟩
    conv => whnf
    refine ⟨fun _ => ?_, fun z => absurd z hkk⟩
    conv => whnf
    exact hK _ _ _ _ (next σm _ _ hJm)
theorem lk_L_89 : Jvm.Cond.methodLink "RootedWordsLaw" 89 y_L_root ∈ gtbl := gw 402 (by decide +kernel) rfl
theorem law_root {E : EV} (h : LC E) {k n i : Nat} (hk : k + 1 ≤ 1050) (hn : n + 6 ≤ 9853) (hi : i + 4 ≤ vL E) {σ : Mem} (hJ : J σ) (a5 a6 : Option AV)
    (next : ∀ σ' a5 a6, J σ' → Go (LX E (k + 1) (n + 6)) mi_law 859 [some (.inr (.inl 16)), some (.inr (.inl 0)), some (.inr (.inl 7)), some (.inr (.inl 15)), some (.inl (nI i)), a5, a6] [] σ') : Go (LX E k n) mi_law 520 [some (.inr (.inl 16)), some (.inr (.inl 0)), some (.inr (.inl 7)), some (.inr (.inl 15)), some (.inl (nI i)), a5, a6] [] σ := by
  refine Go_run ok_law (LX_cx h (by omega) (by omega)) [526] 60 (fun K R1 T1 hK hR hT => ?_)
  conv => whnf
  refine hK _ _ _ _ ?_
  show Go (LX E k n) mi_law 526 [some (.inr (.inl 16)), some (.inr (.inl 0)), some (.inr (.inl 7)), some (.inr (.inl 15)), some (.inl (nI i)), a5, a6] [.inl (nI i + nI 1), .inr (.inl 16), .inr (.inl 0)] σ
  refine go_sld' h (by omega) (by decide +kernel) ?_
  refine Go_run ok_law (LX_cx h (by omega) (by omega)) [528] 60 (fun K R1 T1 hK hR hT => ?_)
  conv => whnf
  refine hK _ _ _ _ ?_
  show Go (LX E k n) mi_law 528 [some (.inr (.inl 16)), some (.inr (.inl 0)), some (.inr (.inl 7)), some (.inr (.inl 15)), some (.inl (nI i)), a5, a6] [.inr (.inl 15), .inl (vx E (i + 1)), .inr (.inl 0)] σ
  rcases cp_root hJ (vx E (i + 1)) with ⟨v, σc, σm, hX, hM, h0, hJm, h15⟩ | ⟨e, kk, σc, σm, b, hin, hX, hM, h0, hJm⟩
  · refine go_wrap h (as := [.inr (.inl 0), .inl (vx E (i + 1)), .inr (.inl 15)]) (w_L_root (vx E (i + 1)) σ σc v hX) hk hn rfl (Nat.le_of_ble_eq_true rfl) (Nat.le_of_ble_eq_true rfl) 3 rfl (by decide +kernel) lk_L_89 vw_L_root (by decide +kernel) ?_
    refine Go_run ok_law (LX_cx h (by omega) (by omega)) [539] 60 (fun K R1 T1 hK hR hT => ?_)
    conv => whnf
    refine hK _ _ _ _ ?_
    show Go (LX E (k + 1) (n + 6)) mi_law 539 [some (.inr (.inl 16)), some (.inr (.inl 0)), some (.inr (.inl 7)), some (.inr (.inl 15)), some (.inl (nI i)), some (.inl (nI 0)), a6] [.inl (nI i + nI 1), .inr (.inl 16), .inr (.inl 7)] (st σc 15 0 v)
    refine go_sld' h (by omega) (by decide +kernel) ?_
    refine Go_run ok_law (LX_cx h (by omega) (by omega)) [859] 80 (fun K R1 T1 hK hR hT => ?_)
    conv => whnf
    refine ⟨.inl (_, _), hM, ?_⟩
    conv => whnf
    refine ⟨.inl (_, _), c_M_thrown σm, ?_⟩
    conv => whnf
    rw [h0]
    refine ⟨fun _ => ?_, fun z => absurd rfl z⟩
    conv => whnf
    refine ⟨fun z => absurd rfl z, fun _ => ?_⟩
    conv => whnf
    refine ⟨vp_in_nI (by decide) (by decide), ?_⟩
    conv => whnf
    have e9 : lg_cmp (σm 15 (nI 0).toNatClampNeg).toInt64 v.toInt64 = 0 := by
      have e8 : σm 15 (nI 0).toNatClampNeg = v := h15
      rw [e8]; exact lg_cmp_self _
    rw [e9]
    refine ⟨fun _ => ?_, fun z => absurd rfl z⟩
    conv => whnf
    exact hK _ _ _ _ (next σm _ _ hJm)
  · have hkk : ¬ nI kk = 0 := (show ∀ q ∈ ([(eIS, 1), (eIO, 2)] : List (String × Nat)), ¬ nI q.2 = 0 by
      intro q hq
      simp only [List.mem_cons, List.mem_nil_iff, or_false] at hq
      rcases hq with rfl | rfl <;> decide) _ hin
    refine go_wrap h (as := [.inr (.inl 0), .inl (vx E (i + 1)), .inr (.inl 15)]) (wx_L_root (vx E (i + 1)) σ σc hin hX) hk hn rfl (Nat.le_of_ble_eq_true rfl) (Nat.le_of_ble_eq_true rfl) 3 rfl (by decide +kernel) lk_L_89 vw_L_root (by decide +kernel) ?_
    refine Go_run ok_law (LX_cx h (by omega) (by omega)) [539] 60 (fun K R1 T1 hK hR hT => ?_)
    conv => whnf
    refine hK _ _ _ _ ?_
    show Go (LX E (k + 1) (n + 6)) mi_law 539 [some (.inr (.inl 16)), some (.inr (.inl 0)), some (.inr (.inl 7)), some (.inr (.inl 15)), some (.inl (nI i)), some (.inl (nI kk)), a6] [.inl (nI i + nI 1), .inr (.inl 16), .inr (.inl 7)] σc
    refine go_sld' h (by omega) (by decide +kernel) ?_
    refine Go_run ok_law (LX_cx h (by omega) (by omega)) [859] 80 (fun K R1 T1 hK hR hT => ?_)
    conv => whnf
    refine ⟨.inl (_, _), hM, ?_⟩
    conv => whnf
    refine ⟨.inl (_, _), c_M_thrown σm, ?_⟩
    conv => whnf
    rw [h0]
    refine ⟨fun _ => ?_, fun z => absurd rfl z⟩
    conv => whnf
    refine ⟨fun _ => ?_, fun z => absurd z hkk⟩
    conv => whnf
    exact hK _ _ _ _ (next σm _ _ hJm)
theorem lk_L_92 : Jvm.Cond.methodLink "RootedWordsLaw" 92 y_L_freeWords ∈ gtbl := gw 409 (by decide +kernel) rfl
theorem law_freeWords {E : EV} (h : LC E) {k n i : Nat} (hk : k + 1 ≤ 1050) (hn : n + 6 ≤ 9853) (hi : i + 4 ≤ vL E) {σ : Mem} (hJ : J σ) (a5 a6 : Option AV)
    (next : ∀ σ' a5 a6, J σ' → Go (LX E (k + 1) (n + 6)) mi_law 859 [some (.inr (.inl 16)), some (.inr (.inl 0)), some (.inr (.inl 7)), some (.inr (.inl 15)), some (.inl (nI i)), a5, a6] [] σ') : Go (LX E k n) mi_law 576 [some (.inr (.inl 16)), some (.inr (.inl 0)), some (.inr (.inl 7)), some (.inr (.inl 15)), some (.inl (nI i)), a5, a6] [] σ := by
  refine Go_run ok_law (LX_cx h (by omega) (by omega)) [578] 60 (fun K R1 T1 hK hR hT => ?_)
  conv => whnf
  refine hK _ _ _ _ ?_
  show Go (LX E k n) mi_law 578 [some (.inr (.inl 16)), some (.inr (.inl 0)), some (.inr (.inl 7)), some (.inr (.inl 15)), some (.inl (nI i)), a5, a6] [.inr (.inl 15), .inr (.inl 0)] σ
  rcases cp_freeWords hJ with ⟨v, σc, σm, hX, hM, h0, hJm, h15⟩ | ⟨e, kk, σc, σm, b, hin, hX, hM, h0, hJm⟩
  · refine go_wrap h (as := [.inr (.inl 0), .inr (.inl 15)]) (w_L_freeWords σ σc v hX) hk hn rfl (Nat.le_of_ble_eq_true rfl) (Nat.le_of_ble_eq_true rfl) 2 rfl (by decide +kernel) lk_L_92 vw_L_freeWords (by decide +kernel) ?_
    refine Go_run ok_law (LX_cx h (by omega) (by omega)) [859] 80 (fun K R1 T1 hK hR hT => ?_)
    conv => whnf
    refine ⟨.inl (_, _), hM, ?_⟩
    conv => whnf
    refine ⟨.inl (_, _), c_M_thrown σm, ?_⟩
    conv => whnf
    rw [h0]
    refine ⟨fun _ => ?_, fun z => absurd rfl z⟩
    conv => whnf
    refine ⟨fun z => absurd rfl z, fun _ => ?_⟩
    conv => whnf
    refine ⟨vp_in_nI (by decide) (by decide), ?_⟩
    conv => whnf
    have e9 : lg_cmp (σm 15 (nI 0).toNatClampNeg).toInt64 v.toInt64 = 0 := by
      have e8 : σm 15 (nI 0).toNatClampNeg = v := h15
      rw [e8]; exact lg_cmp_self _
    rw [e9]
    refine ⟨fun _ => ?_, fun z => absurd rfl z⟩
    conv => whnf
    exact hK _ _ _ _ (next σm _ _ hJm)
  · have hkk : ¬ nI kk = 0 := (show ∀ q ∈ ([(eIS, 1)] : List (String × Nat)), ¬ nI q.2 = 0 by
      intro q hq
      simp only [List.mem_cons, List.mem_nil_iff, or_false] at hq
      rcases hq with rfl <;> decide) _ hin
    refine go_wrap h (as := [.inr (.inl 0), .inr (.inl 15)]) (wx_L_freeWords σ σc hin hX) hk hn rfl (Nat.le_of_ble_eq_true rfl) (Nat.le_of_ble_eq_true rfl) 2 rfl (by decide +kernel) lk_L_92 vw_L_freeWords (by decide +kernel) ?_
    refine Go_run ok_law (LX_cx h (by omega) (by omega)) [859] 80 (fun K R1 T1 hK hR hT => ?_)
    conv => whnf
    refine ⟨.inl (_, _), hM, ?_⟩
    conv => whnf
    refine ⟨.inl (_, _), c_M_thrown σm, ?_⟩
    conv => whnf
    rw [h0]
    refine ⟨fun _ => ?_, fun z => absurd rfl z⟩
    conv => whnf
    refine ⟨fun _ => ?_, fun z => absurd z hkk⟩
    conv => whnf
    exact hK _ _ _ _ (next σm _ _ hJm)
theorem lk_L_96 : Jvm.Cond.methodLink "RootedWordsLaw" 96 y_L_largestFree ∈ gtbl := gw 416 (by decide +kernel) rfl
theorem law_largestFree {E : EV} (h : LC E) {k n i : Nat} (hk : k + 1 ≤ 1050) (hn : n + 6 ≤ 9853) (hi : i + 4 ≤ vL E) {σ : Mem} (hJ : J σ) (a5 a6 : Option AV)
    (next : ∀ σ' a5 a6, J σ' → Go (LX E (k + 1) (n + 6)) mi_law 859 [some (.inr (.inl 16)), some (.inr (.inl 0)), some (.inr (.inl 7)), some (.inr (.inl 15)), some (.inl (nI i)), a5, a6] [] σ') : Go (LX E k n) mi_law 620 [some (.inr (.inl 16)), some (.inr (.inl 0)), some (.inr (.inl 7)), some (.inr (.inl 15)), some (.inl (nI i)), a5, a6] [] σ := by
  refine Go_run ok_law (LX_cx h (by omega) (by omega)) [622] 60 (fun K R1 T1 hK hR hT => ?_)
  conv => whnf
  refine hK _ _ _ _ ?_
  show Go (LX E k n) mi_law 622 [some (.inr (.inl 16)), some (.inr (.inl 0)), some (.inr (.inl 7)), some (.inr (.inl 15)), some (.inl (nI i)), a5, a6] [.inr (.inl 15), .inr (.inl 0)] σ
  rcases cp_largestFree hJ with ⟨v, σc, σm, hX, hM, h0, hJm, h15⟩ | ⟨e, kk, σc, σm, b, hin, hX, hM, h0, hJm⟩
  · refine go_wrap h (as := [.inr (.inl 0), .inr (.inl 15)]) (w_L_largestFree σ σc v hX) hk hn rfl (Nat.le_of_ble_eq_true rfl) (Nat.le_of_ble_eq_true rfl) 2 rfl (by decide +kernel) lk_L_96 vw_L_largestFree (by decide +kernel) ?_
    refine Go_run ok_law (LX_cx h (by omega) (by omega)) [859] 80 (fun K R1 T1 hK hR hT => ?_)
    conv => whnf
    refine ⟨.inl (_, _), hM, ?_⟩
    conv => whnf
    refine ⟨.inl (_, _), c_M_thrown σm, ?_⟩
    conv => whnf
    rw [h0]
    refine ⟨fun _ => ?_, fun z => absurd rfl z⟩
    conv => whnf
    refine ⟨fun z => absurd rfl z, fun _ => ?_⟩
    conv => whnf
    refine ⟨vp_in_nI (by decide) (by decide), ?_⟩
    conv => whnf
    have e9 : lg_cmp (σm 15 (nI 0).toNatClampNeg).toInt64 v.toInt64 = 0 := by
      have e8 : σm 15 (nI 0).toNatClampNeg = v := h15
      rw [e8]; exact lg_cmp_self _
    rw [e9]
    refine ⟨fun _ => ?_, fun z => absurd rfl z⟩
    conv => whnf
    exact hK _ _ _ _ (next σm _ _ hJm)
  · have hkk : ¬ nI kk = 0 := (show ∀ q ∈ ([(eIS, 1)] : List (String × Nat)), ¬ nI q.2 = 0 by
      intro q hq
      simp only [List.mem_cons, List.mem_nil_iff, or_false] at hq
      rcases hq with rfl <;> decide) _ hin
    refine go_wrap h (as := [.inr (.inl 0), .inr (.inl 15)]) (wx_L_largestFree σ σc hin hX) hk hn rfl (Nat.le_of_ble_eq_true rfl) (Nat.le_of_ble_eq_true rfl) 2 rfl (by decide +kernel) lk_L_96 vw_L_largestFree (by decide +kernel) ?_
    refine Go_run ok_law (LX_cx h (by omega) (by omega)) [859] 80 (fun K R1 T1 hK hR hT => ?_)
    conv => whnf
    refine ⟨.inl (_, _), hM, ?_⟩
    conv => whnf
    refine ⟨.inl (_, _), c_M_thrown σm, ?_⟩
    conv => whnf
    rw [h0]
    refine ⟨fun _ => ?_, fun z => absurd rfl z⟩
    conv => whnf
    refine ⟨fun _ => ?_, fun z => absurd z hkk⟩
    conv => whnf
    exact hK _ _ _ _ (next σm _ _ hJm)
theorem lk_L_99 : Jvm.Cond.methodLink "RootedWordsLaw" 99 y_L_extent ∈ gtbl := gw 423 (by decide +kernel) rfl
theorem law_extent {E : EV} (h : LC E) {k n i : Nat} (hk : k + 1 ≤ 1050) (hn : n + 6 ≤ 9853) (hi : i + 4 ≤ vL E) {σ : Mem} (hJ : J σ) (a5 a6 : Option AV)
    (next : ∀ σ' a5 a6, J σ' → Go (LX E (k + 1) (n + 6)) mi_law 859 [some (.inr (.inl 16)), some (.inr (.inl 0)), some (.inr (.inl 7)), some (.inr (.inl 15)), some (.inl (nI i)), a5, a6] [] σ') : Go (LX E k n) mi_law 664 [some (.inr (.inl 16)), some (.inr (.inl 0)), some (.inr (.inl 7)), some (.inr (.inl 15)), some (.inl (nI i)), a5, a6] [] σ := by
  refine Go_run ok_law (LX_cx h (by omega) (by omega)) [670] 60 (fun K R1 T1 hK hR hT => ?_)
  conv => whnf
  refine hK _ _ _ _ ?_
  show Go (LX E k n) mi_law 670 [some (.inr (.inl 16)), some (.inr (.inl 0)), some (.inr (.inl 7)), some (.inr (.inl 15)), some (.inl (nI i)), a5, a6] [.inl (nI i + nI 1), .inr (.inl 16), .inr (.inl 0)] σ
  refine go_sld' h (by omega) (by decide +kernel) ?_
  refine Go_run ok_law (LX_cx h (by omega) (by omega)) [672] 60 (fun K R1 T1 hK hR hT => ?_)
  conv => whnf
  refine hK _ _ _ _ ?_
  show Go (LX E k n) mi_law 672 [some (.inr (.inl 16)), some (.inr (.inl 0)), some (.inr (.inl 7)), some (.inr (.inl 15)), some (.inl (nI i)), a5, a6] [.inr (.inl 15), .inl (vx E (i + 1)), .inr (.inl 0)] σ
  rcases cp_extent hJ (vx E (i + 1)) with ⟨v, σc, σm, hX, hM, h0, hJm, h15⟩ | ⟨e, kk, σc, σm, b, hin, hX, hM, h0, hJm⟩
  · refine go_wrap h (as := [.inr (.inl 0), .inl (vx E (i + 1)), .inr (.inl 15)]) (w_L_extent (vx E (i + 1)) σ σc v hX) hk hn rfl (Nat.le_of_ble_eq_true rfl) (Nat.le_of_ble_eq_true rfl) 3 rfl (by decide +kernel) lk_L_99 vw_L_extent (by decide +kernel) ?_
    refine Go_run ok_law (LX_cx h (by omega) (by omega)) [683] 60 (fun K R1 T1 hK hR hT => ?_)
    conv => whnf
    refine hK _ _ _ _ ?_
    show Go (LX E (k + 1) (n + 6)) mi_law 683 [some (.inr (.inl 16)), some (.inr (.inl 0)), some (.inr (.inl 7)), some (.inr (.inl 15)), some (.inl (nI i)), some (.inl (nI 0)), a6] [.inl (nI i + nI 1), .inr (.inl 16), .inr (.inl 7)] (st σc 15 0 v)
    refine go_sld' h (by omega) (by decide +kernel) ?_
    refine Go_run ok_law (LX_cx h (by omega) (by omega)) [859] 80 (fun K R1 T1 hK hR hT => ?_)
    conv => whnf
    refine ⟨.inl (_, _), hM, ?_⟩
    conv => whnf
    refine ⟨.inl (_, _), c_M_thrown σm, ?_⟩
    conv => whnf
    rw [h0]
    refine ⟨fun _ => ?_, fun z => absurd rfl z⟩
    conv => whnf
    refine ⟨fun z => absurd rfl z, fun _ => ?_⟩
    conv => whnf
    refine ⟨vp_in_nI (by decide) (by decide), ?_⟩
    conv => whnf
    have e9 : lg_cmp (σm 15 (nI 0).toNatClampNeg).toInt64 v.toInt64 = 0 := by
      have e8 : σm 15 (nI 0).toNatClampNeg = v := h15
      rw [e8]; exact lg_cmp_self _
    rw [e9]
    refine ⟨fun _ => ?_, fun z => absurd rfl z⟩
    conv => whnf
    exact hK _ _ _ _ (next σm _ _ hJm)
  · have hkk : ¬ nI kk = 0 := (show ∀ q ∈ ([(eIS, 1), (eIO, 2)] : List (String × Nat)), ¬ nI q.2 = 0 by
      intro q hq
      simp only [List.mem_cons, List.mem_nil_iff, or_false] at hq
      rcases hq with rfl | rfl <;> decide) _ hin
    refine go_wrap h (as := [.inr (.inl 0), .inl (vx E (i + 1)), .inr (.inl 15)]) (wx_L_extent (vx E (i + 1)) σ σc hin hX) hk hn rfl (Nat.le_of_ble_eq_true rfl) (Nat.le_of_ble_eq_true rfl) 3 rfl (by decide +kernel) lk_L_99 vw_L_extent (by decide +kernel) ?_
    refine Go_run ok_law (LX_cx h (by omega) (by omega)) [683] 60 (fun K R1 T1 hK hR hT => ?_)
    conv => whnf
    refine hK _ _ _ _ ?_
    show Go (LX E (k + 1) (n + 6)) mi_law 683 [some (.inr (.inl 16)), some (.inr (.inl 0)), some (.inr (.inl 7)), some (.inr (.inl 15)), some (.inl (nI i)), some (.inl (nI kk)), a6] [.inl (nI i + nI 1), .inr (.inl 16), .inr (.inl 7)] σc
    refine go_sld' h (by omega) (by decide +kernel) ?_
    refine Go_run ok_law (LX_cx h (by omega) (by omega)) [859] 80 (fun K R1 T1 hK hR hT => ?_)
    conv => whnf
    refine ⟨.inl (_, _), hM, ?_⟩
    conv => whnf
    refine ⟨.inl (_, _), c_M_thrown σm, ?_⟩
    conv => whnf
    rw [h0]
    refine ⟨fun _ => ?_, fun z => absurd rfl z⟩
    conv => whnf
    refine ⟨fun _ => ?_, fun z => absurd z hkk⟩
    conv => whnf
    exact hK _ _ _ _ (next σm _ _ hJm)
theorem lk_L_102 : Jvm.Cond.methodLink "RootedWordsLaw" 102 y_L_reached ∈ gtbl := gw 431 (by decide +kernel) rfl
theorem law_reached {E : EV} (h : LC E) {k n i : Nat} (hk : k + 1 ≤ 1050) (hn : n + 6 ≤ 9853) (hi : i + 4 ≤ vL E) {σ : Mem} (hJ : J σ) (a5 a6 : Option AV)
    (next : ∀ σ' a5 a6, J σ' → Go (LX E (k + 1) (n + 6)) mi_law 859 [some (.inr (.inl 16)), some (.inr (.inl 0)), some (.inr (.inl 7)), some (.inr (.inl 15)), some (.inl (nI i)), a5, a6] [] σ') : Go (LX E k n) mi_law 720 [some (.inr (.inl 16)), some (.inr (.inl 0)), some (.inr (.inl 7)), some (.inr (.inl 15)), some (.inl (nI i)), a5, a6] [] σ := by
  refine Go_run ok_law (LX_cx h (by omega) (by omega)) [722] 60 (fun K R1 T1 hK hR hT => ?_)
  conv => whnf
  refine hK _ _ _ _ ?_
  show Go (LX E k n) mi_law 722 [some (.inr (.inl 16)), some (.inr (.inl 0)), some (.inr (.inl 7)), some (.inr (.inl 15)), some (.inl (nI i)), a5, a6] [.inr (.inl 15), .inr (.inl 0)] σ
  rcases cp_reached hJ with ⟨v, σc, σm, hX, hM, h0, hJm, h15⟩ | ⟨e, kk, σc, σm, b, hin, hX, hM, h0, hJm⟩
  · refine go_wrap h (as := [.inr (.inl 0), .inr (.inl 15)]) (w_L_reached σ σc v hX) hk hn rfl (Nat.le_of_ble_eq_true rfl) (Nat.le_of_ble_eq_true rfl) 2 rfl (by decide +kernel) lk_L_102 vw_L_reached (by decide +kernel) ?_
    refine Go_run ok_law (LX_cx h (by omega) (by omega)) [859] 80 (fun K R1 T1 hK hR hT => ?_)
    conv => whnf
    refine ⟨.inl (_, _), hM, ?_⟩
    conv => whnf
    refine ⟨.inl (_, _), c_M_thrown σm, ?_⟩
    conv => whnf
    rw [h0]
    refine ⟨fun _ => ?_, fun z => absurd rfl z⟩
    conv => whnf
    refine ⟨fun z => absurd rfl z, fun _ => ?_⟩
    conv => whnf
    refine ⟨vp_in_nI (by decide) (by decide), ?_⟩
    conv => whnf
    have e9 : lg_cmp (σm 15 (nI 0).toNatClampNeg).toInt64 v.toInt64 = 0 := by
      have e8 : σm 15 (nI 0).toNatClampNeg = v := h15
      rw [e8]; exact lg_cmp_self _
    rw [e9]
    refine ⟨fun _ => ?_, fun z => absurd rfl z⟩
    conv => whnf
    exact hK _ _ _ _ (next σm _ _ hJm)
  · have hkk : ¬ nI kk = 0 := (show ∀ q ∈ ([(eIS, 1)] : List (String × Nat)), ¬ nI q.2 = 0 by
      intro q hq
      simp only [List.mem_cons, List.mem_nil_iff, or_false] at hq
      rcases hq with rfl <;> decide) _ hin
    refine go_wrap h (as := [.inr (.inl 0), .inr (.inl 15)]) (wx_L_reached σ σc hin hX) hk hn rfl (Nat.le_of_ble_eq_true rfl) (Nat.le_of_ble_eq_true rfl) 2 rfl (by decide +kernel) lk_L_102 vw_L_reached (by decide +kernel) ?_
    refine Go_run ok_law (LX_cx h (by omega) (by omega)) [859] 80 (fun K R1 T1 hK hR hT => ?_)
    conv => whnf
    refine ⟨.inl (_, _), hM, ?_⟩
    conv => whnf
    refine ⟨.inl (_, _), c_M_thrown σm, ?_⟩
    conv => whnf
    rw [h0]
    refine ⟨fun _ => ?_, fun z => absurd rfl z⟩
    conv => whnf
    refine ⟨fun _ => ?_, fun z => absurd z hkk⟩
    conv => whnf
    exact hK _ _ _ _ (next σm _ _ hJm)
theorem lk_L_110 : Jvm.Cond.methodLink "RootedWordsLaw" 110 y_L_recover ∈ gtbl := gw 450 (by decide +kernel) rfl
theorem law_recover {E : EV} (h : LC E) {k n i : Nat} (hk : k + 1 ≤ 1050) (hn : n + 6 ≤ 9853) (hi : i + 4 ≤ vL E) {σ : Mem} (hJ : J σ) (a5 a6 : Option AV)
    (next : ∀ σ' a5 a6, J σ' → Go (LX E (k + 1) (n + 6)) mi_law 859 [some (.inr (.inl 16)), some (.inr (.inl 0)), some (.inr (.inl 7)), some (.inr (.inl 15)), some (.inl (nI i)), a5, a6] [] σ') : Go (LX E k n) mi_law 789 [some (.inr (.inl 16)), some (.inr (.inl 0)), some (.inr (.inl 7)), some (.inr (.inl 15)), some (.inl (nI i)), a5, a6] [] σ := by
  refine Go_run ok_law (LX_cx h (by omega) (by omega)) [791] 60 (fun K R1 T1 hK hR hT => ?_)
  conv => whnf
  refine hK _ _ _ _ ?_
  show Go (LX E k n) mi_law 791 [some (.inr (.inl 16)), some (.inr (.inl 0)), some (.inr (.inl 7)), some (.inr (.inl 15)), some (.inl (nI i)), a5, a6] [.inr (.inl 15), .inr (.inl 0)] σ
  rcases cp_recover hJ with ⟨v, σc, σm, hX, hM, h0, hJm, h15⟩ | ⟨e, kk, σc, σm, b, hin, hX, hM, h0, hJm⟩
  · refine go_wrap h (as := [.inr (.inl 0), .inr (.inl 15)]) (w_L_recover σ σc v hX) hk hn rfl (Nat.le_of_ble_eq_true rfl) (Nat.le_of_ble_eq_true rfl) 2 rfl (by decide +kernel) lk_L_110 vw_L_recover (by decide +kernel) ?_
    refine Go_run ok_law (LX_cx h (by omega) (by omega)) [859] 80 (fun K R1 T1 hK hR hT => ?_)
    conv => whnf
    refine ⟨.inl (_, _), hM, ?_⟩
    conv => whnf
    refine ⟨.inl (_, _), c_M_thrown σm, ?_⟩
    conv => whnf
    rw [h0]
    refine ⟨fun _ => ?_, fun z => absurd rfl z⟩
    conv => whnf
    refine ⟨fun z => absurd rfl z, fun _ => ?_⟩
    conv => whnf
    refine ⟨vp_in_nI (by decide) (by decide), ?_⟩
    conv => whnf
    have e9 : lg_cmp (σm 15 (nI 0).toNatClampNeg).toInt64 v.toInt64 = 0 := by
      have e8 : σm 15 (nI 0).toNatClampNeg = v := h15
      rw [e8]; exact lg_cmp_self _
    rw [e9]
    refine ⟨fun _ => ?_, fun z => absurd rfl z⟩
    conv => whnf
    exact hK _ _ _ _ (next σm _ _ hJm)
  · have hkk : ¬ nI kk = 0 := (show ∀ q ∈ ([(eIS, 1)] : List (String × Nat)), ¬ nI q.2 = 0 by
      intro q hq
      simp only [List.mem_cons, List.mem_nil_iff, or_false] at hq
      rcases hq with rfl <;> decide) _ hin
    refine go_wrap h (as := [.inr (.inl 0), .inr (.inl 15)]) (wx_L_recover σ σc hin hX) hk hn rfl (Nat.le_of_ble_eq_true rfl) (Nat.le_of_ble_eq_true rfl) 2 rfl (by decide +kernel) lk_L_110 vw_L_recover (by decide +kernel) ?_
    refine Go_run ok_law (LX_cx h (by omega) (by omega)) [859] 80 (fun K R1 T1 hK hR hT => ?_)
    conv => whnf
    refine ⟨.inl (_, _), hM, ?_⟩
    conv => whnf
    refine ⟨.inl (_, _), c_M_thrown σm, ?_⟩
    conv => whnf
    rw [h0]
    refine ⟨fun _ => ?_, fun z => absurd rfl z⟩
    conv => whnf
    refine ⟨fun _ => ?_, fun z => absurd z hkk⟩
    conv => whnf
    exact hK _ _ _ _ (next σm _ _ hJm)
