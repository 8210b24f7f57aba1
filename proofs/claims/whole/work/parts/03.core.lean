/-! THE SMALL MACHINE: the system's objects lie at fixed numbers, all that changes is one memory of Int32; a method's walk is the
    weakest precondition of its table, computed. Values: an int, an object by its number, a long that is some int made long. -/
abbrev AV : Type := Int32 ⊕ (Nat ⊕ Int32)
abbrev Mem : Type := Nat → Nat → Int32
abbrev OC : Type := (Option AV × Mem) ⊕ (String × Mem)
/-- the base address, the classes, the objects' addresses, the array classes, and int to long (a name of its own: kept closed) -/
abbrev GT : Type := Nat × va_G × (Nat → Nat) × ClassId × ClassId × ClassId × (Int32 → Int64)
def st (σ : Mem) (o k : Nat) (v : Int32) : Mem := fun a => if a = o then upd (σ o) k v else σ a
def gA (g : GT) : Nat → Prop := fun q => g.1 ≤ q
def gil (g : GT) : Int32 → Int64 := g.2.2.2.2.2.2
def gad (g : GT) (k : Nat) : Nat := g.2.2.1 k
def cv (g : GT) : AV → Value := fun v => match v with
  | .inl x => .int x
  | .inr (.inl k) => .ref (gad g k)
  | .inr (.inr x) => .long (gil g x)
def fo (g : GT) (σ : Mem) : Nat → List Value := fun ci => match ci with
  | 0 => [.ref (gad g 1), .ref (gad g 4), .ref (gad g 5), .ref (gad g 6)]
  | 1 => [.ref (gad g 2), .ref (gad g 3), .int (σ 1 2), .int (σ 1 3), .int (σ 1 4)]
  | _ => [.int (σ 7 0), .int (σ 7 1), .ref (gad g 8), .ref (gad g 9), .ref (gad g 10), .ref (gad g 11), .ref (gad g 12), .ref (gad g 13), .ref (gad g 14), .int (σ 7 9), .int (σ 7 10), .int (σ 7 11), .int (σ 7 12)]
def gI (g : GT) : ClassId := g.2.2.2.1
def gB (g : GT) : ClassId := g.2.2.2.2.1
def gL (g : GT) : ClassId := g.2.2.2.2.2.1
def gtys (g : GT) : List (ClassId × FieldType) := [(gI g, .int), (gB g, .boolean), (gL g, .long)]
def ew (g : GT) (σ : Mem) : Nat → va_E := fun o => match o with
  | 0 => .inr (0, fo g σ 0)
  | 1 => .inr (1, fo g σ 1)
  | 2 => .inl (gI g, 274, .inl (σ 2))
  | 3 => .inl (gI g, 8, .inl (σ 3))
  | 4 => .inl (gI g, 86, .inl (σ 4))
  | 5 => .inl (gI g, 258, .inl (σ 5))
  | 6 => .inl (gI g, 257, .inl (σ 6))
  | 7 => .inr (2, fo g σ 2)
  | 8 => .inl (gI g, 86, .inl (σ 8))
  | 9 => .inl (gI g, 86, .inl (σ 9))
  | 10 => .inl (gB g, 86, .inl (σ 10))
  | 11 => .inl (gI g, 86, .inl (σ 11))
  | 12 => .inl (gB g, 86, .inl (σ 12))
  | 13 => .inl (gI g, 257, .inl (σ 13))
  | 14 => .inl (gI g, 8, .inl (σ 14))
  | _ => .inl (gL g, 1, .inr (.inl (fun j => gil g (σ 15 j))))
def mw (g : GT) (σ : Mem) : va_W := [(gad g 0, ew g σ 0), (gad g 1, ew g σ 1), (gad g 2, ew g σ 2), (gad g 3, ew g σ 3), (gad g 4, ew g σ 4), (gad g 5, ew g σ 5), (gad g 6, ew g σ 6), (gad g 7, ew g σ 7), (gad g 8, ew g σ 8), (gad g 9, ew g σ 9), (gad g 10, ew g σ 10), (gad g 11, ew g σ 11), (gad g 12, ew g σ 12), (gad g 13, ew g σ 13), (gad g 14, ew g σ 14), (gad g 15, ew g σ 15)]
/-- an array's kind (1 int, 2 boolean, 3 long) and length -/
def ak : Nat → Nat × Nat := fun o => match o with
  | 2 => (1, 274) | 3 => (1, 8) | 4 => (1, 86) | 5 => (1, 258) | 6 => (1, 257) | 8 => (1, 86) | 9 => (1, 86) | 10 => (2, 86) | 11 => (1, 86) | 12 => (2, 86) | 13 => (1, 257) | 14 => (1, 8) | 15 => (3, 1) | _ => (0, 0)
theorem mw_int (g : GT) (σ : Mem) (o : Nat) (h : (ak o).1 = 1) : (mw g σ)[o]? = some (gad g o, .inl (gI g, (ak o).2, .inl (σ o))) := by
  match o, h with
  | 2, _ | 3, _ | 4, _ | 5, _ | 6, _ | 8, _ | 9, _ | 11, _ | 13, _ | 14, _ => rfl
  | 0, h | 1, h | 7, h | 10, h | 12, h | 15, h => exact absurd h (by decide)
  | n + 16, h => exact absurd (show (0 : Nat) = 1 from h) (by decide)
theorem mw_bool (g : GT) (σ : Mem) (o : Nat) (h : (ak o).1 = 2) : (mw g σ)[o]? = some (gad g o, .inl (gB g, (ak o).2, .inl (σ o))) := by
  match o, h with
  | 10, _ | 12, _ => rfl
  | 0, h | 1, h | 2, h | 3, h | 4, h | 5, h | 6, h | 7, h | 8, h | 9, h | 11, h | 13, h | 14, h | 15, h => exact absurd h (by decide)
  | n + 16, h => exact absurd (show (0 : Nat) = 2 from h) (by decide)
theorem mw_setInt (g : GT) (σ : Mem) (o k : Nat) (v : Int32) (h : (ak o).1 = 1) : (mw g σ).set o (gad g o, .inl (gI g, (ak o).2, .inl (upd (σ o) k v))) = mw g (st σ o k v) := by
  match o, h with
  | 2, _ | 3, _ | 4, _ | 5, _ | 6, _ | 8, _ | 9, _ | 11, _ | 13, _ | 14, _ => rfl
  | 0, h | 1, h | 7, h | 10, h | 12, h | 15, h => exact absurd h (by decide)
  | n + 16, h => exact absurd (show (0 : Nat) = 1 from h) (by decide)
theorem mw_setBool (g : GT) (σ : Mem) (o k : Nat) (v : Int32) (h : (ak o).1 = 2) : (mw g σ).set o (gad g o, .inl (gB g, (ak o).2, .inl (upd (σ o) k v))) = mw g (st σ o k v) := by
  match o, h with
  | 10, _ | 12, _ => rfl
  | 0, h | 1, h | 2, h | 3, h | 4, h | 5, h | 6, h | 7, h | 8, h | 9, h | 11, h | 13, h | 14, h | 15, h => exact absurd h (by decide)
  | n + 16, h => exact absurd (show (0 : Nat) = 2 from h) (by decide)
theorem st_self (σ : Mem) (o k : Nat) (v : Int32) : (st σ o k v) o = upd (σ o) k v := if_pos rfl
theorem st_ne (σ : Mem) {o a : Nat} (k : Nat) (v : Int32) (h : a ≠ o) : (st σ o k v) a = σ a := if_neg h
theorem mw_setLong (g : GT) (σ : Mem) (k : Nat) (v : Int32) : (mw g σ).set 15 (gad g 15, .inl (gL g, 1, .inr (.inl (vp_updL (fun j => gil g (σ 15 j)) k (gil g v))))) = mw g (st σ 15 k v) := by
  have e : vp_updL (fun j => gil g (σ 15 j)) k (gil g v) = fun j => gil g ((st σ 15 k v) 15 j) := by
    funext j
    rw [st_self]
    unfold vp_updL upd
    by_cases hj : j = k
    · rw [if_pos hj, if_pos hj]
    · rw [if_neg hj, if_neg hj]
  rw [e]; rfl
/-- a class's object, fields, names -/
def ob : Nat → Nat := fun ci => match ci with | 0 => 0 | 1 => 1 | _ => 7
def cR : Nat → String := fun ci => match ci with | 0 => R_X | 1 => R_D | _ => R_M
def cF : Nat → u_T := fun ci => match ci with | 0 => F_X | 1 => F_D | _ => F_M
def cN : Nat → Nat := fun ci => match ci with | 0 => 4 | 1 => 5 | _ => 13
def ct : Nat → Nat → FieldType := fun ci => match ci with | 0 => t_X | 1 => t_D | _ => t_M
def fav (σ : Mem) (ci k : Nat) : Option AV := match ci with
  | 0 => (match k with | 0 => some (.inr (.inl 1)) | 1 => some (.inr (.inl 4)) | 2 => some (.inr (.inl 5)) | 3 => some (.inr (.inl 6)) | _ => none)
  | 1 => (match k with | 0 => some (.inr (.inl 2)) | 1 => some (.inr (.inl 3)) | 2 => some (.inl (σ 1 2)) | 3 => some (.inl (σ 1 3)) | 4 => some (.inl (σ 1 4)) | _ => none)
  | 2 => (match k with | 0 => some (.inl (σ 7 0)) | 1 => some (.inl (σ 7 1)) | 2 => some (.inr (.inl 8)) | 3 => some (.inr (.inl 9)) | 4 => some (.inr (.inl 10)) | 5 => some (.inr (.inl 11)) | 6 => some (.inr (.inl 12)) | 7 => some (.inr (.inl 13)) | 8 => some (.inr (.inl 14)) | 9 => some (.inl (σ 7 9)) | 10 => some (.inl (σ 7 10)) | 11 => some (.inl (σ 7 11)) | 12 => some (.inl (σ 7 12)) | _ => none)
  | _ => none
/-- a field that may be written: 1 an int, 2 a boolean -/
def fw (ci k : Nat) : Nat := match ci with
  | 1 => (match k with | 2 => 1 | 3 => 1 | 4 => 2 | _ => 0)
  | 2 => (match k with | 0 => 1 | 1 => 1 | 9 => 1 | 10 => 1 | 11 => 2 | 12 => 1 | _ => 0)
  | _ => 0
theorem fav_spec (g : GT) (σ : Mem) {ci k : Nat} {v : AV} (h : fav σ ci k = some v) : ci < 3 ∧ k < cN ci ∧ (fo g σ ci)[k]? = some (cv g v) := by
  match ci, k, h with
  | 0, 0, h | 0, 1, h | 0, 2, h | 0, 3, h => cases h; exact ⟨by decide, by decide, rfl⟩
  | 0, n + 4, h => cases h
  | 1, 0, h | 1, 1, h | 1, 2, h | 1, 3, h | 1, 4, h => cases h; exact ⟨by decide, by decide, rfl⟩
  | 1, n + 5, h => cases h
  | 2, 0, h | 2, 1, h | 2, 2, h | 2, 3, h | 2, 4, h | 2, 5, h | 2, 6, h | 2, 7, h | 2, 8, h | 2, 9, h | 2, 10, h | 2, 11, h | 2, 12, h => cases h; exact ⟨by decide, by decide, rfl⟩
  | 2, n + 13, h => cases h
  | n + 3, _, h => cases h
theorem fw_spec (g : GT) (σ : Mem) (v : Int32) {ci k : Nat} (h : fw ci k ≠ 0) : ci < 3 ∧ k < cN ci ∧ k < (fo g σ ci).length ∧ (cF ci k).2.2.2 = false ∧
    (mw g σ).set (ob ci) (gad g (ob ci), .inr (ci, (fo g σ ci).set k (.int v))) = mw g (st σ (ob ci) k v) ∧ parseFieldDescriptor (cF ci k).2.2.1 = some (if fw ci k = 2 then .boolean else .int) := by
  match ci, k, h with
  | 0, _, h => exact absurd rfl h
  | 1, 2, h => exact ⟨by decide, by decide, Nat.le_of_ble_eq_true rfl, rfl, rfl, by decide +kernel⟩
  | 1, 3, h => exact ⟨by decide, by decide, Nat.le_of_ble_eq_true rfl, rfl, rfl, by decide +kernel⟩
  | 1, 4, h => exact ⟨by decide, by decide, Nat.le_of_ble_eq_true rfl, rfl, rfl, by decide +kernel⟩
  | 1, 0, h | 1, 1, h => exact absurd rfl h
  | 1, n + 5, h => exact absurd rfl h
  | 2, 0, h => exact ⟨by decide, by decide, Nat.le_of_ble_eq_true rfl, rfl, rfl, by decide +kernel⟩
  | 2, 1, h => exact ⟨by decide, by decide, Nat.le_of_ble_eq_true rfl, rfl, rfl, by decide +kernel⟩
  | 2, 9, h => exact ⟨by decide, by decide, Nat.le_of_ble_eq_true rfl, rfl, rfl, by decide +kernel⟩
  | 2, 10, h => exact ⟨by decide, by decide, Nat.le_of_ble_eq_true rfl, rfl, rfl, by decide +kernel⟩
  | 2, 11, h => exact ⟨by decide, by decide, Nat.le_of_ble_eq_true rfl, rfl, rfl, by decide +kernel⟩
  | 2, 12, h => exact ⟨by decide, by decide, Nat.le_of_ble_eq_true rfl, rfl, rfl, by decide +kernel⟩
  | 2, 2, h | 2, 3, h | 2, 4, h | 2, 5, h | 2, 6, h | 2, 7, h | 2, 8, h => exact absurd rfl h
  | 2, n + 13, h => exact absurd rfl h
  | n + 3, _, h => exact absurd rfl h
theorem mw_ob (g : GT) (σ : Mem) {ci : Nat} (h : ci < 3) : (mw g σ)[ob ci]? = some (gad g (ob ci), .inr (ci, fo g σ ci)) ∧ classes[ci]? = some (cR ci, cF ci, cN ci) := by
  match ci, h with
  | 0, _ | 1, _ | 2, _ => exact ⟨rfl, rfl⟩
theorem c_in {ci : Nat} (h : ci < 3) : (∀ w ∈ u_ws (cR ci) (cF ci) (cN ci), w ∈ lw_tbl) ∧ (∀ k, k < cN ci → parseFieldDescriptor (cF ci k).2.2.1 = some (ct ci k)) ∧ (∀ a, a < cN ci → ∀ b, b < cN ci → a ≠ b → (cF ci a).2.1 ≠ (cF ci b).2.1) := by
  match ci, h with
  | 0, _ => exact ⟨i_X, t_X_ok, n_X⟩
  | 1, _ => exact ⟨i_D, t_D_ok, n_D⟩
  | 2, _ => exact ⟨i_M, t_M_ok, n_M⟩
theorem u_good (C : String) (T : u_T) (N : Nat) : ∀ w ∈ u_ws C T N, goodWord w = true := by
  intro w hw
  obtain ⟨k, -, rfl⟩ := List.mem_map.mp hw
  unfold u_lay
  split <;> rfl
theorem c_inG {ci : Nat} (h : ci < 3) : ∀ w ∈ u_ws (cR ci) (cF ci) (cN ci), w ∈ gtbl := fun w hw => List.mem_filter.mpr ⟨(c_in h).1 w hw, u_good _ _ _ w hw⟩
