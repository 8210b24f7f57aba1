/-! locals and stacks -/
def lg : List (Option AV) → Nat → Option AV
  | [], _ => none
  | x :: _, 0 => x
  | _ :: l, n + 1 => lg l n
def lset : List (Option AV) → Nat → AV → List (Option AV)
  | [], _, _ => []
  | _ :: l, 0, v => some v :: l
  | x :: l, n + 1, v => x :: lset l n v
theorem lset_len : ∀ (L : List (Option AV)) (i : Nat) (v : AV), (lset L i v).length = L.length
  | [], _, _ => rfl
  | _ :: _, 0, _ => rfl
  | _ :: l, n + 1, v => congrArg (· + 1) (lset_len l n v)
theorem lg_lset : ∀ (L : List (Option AV)) (i j : Nat) (v w : AV), lg (lset L i v) j = some w → (j = i ∧ w = v) ∨ (j ≠ i ∧ lg L j = some w)
  | [], _, _, _, _, h => by cases h
  | _ :: _, 0, 0, v, w, h => by cases h; exact Or.inl ⟨rfl, rfl⟩
  | _ :: _, 0, _ + 1, _, _, h => Or.inr ⟨by omega, h⟩
  | _ :: _, _ + 1, 0, _, _, h => Or.inr ⟨by omega, h⟩
  | _ :: l, n + 1, j + 1, v, w, h => by
    rcases lg_lset l n j v w h with ⟨h1, h2⟩ | ⟨h1, h2⟩
    · exact Or.inl ⟨by omega, h2⟩
    · exact Or.inr ⟨by omega, h2⟩
def noL : AV → Prop := fun v => match v with | .inr (.inr _) => False | _ => True
def LH (g : GT) (ls : Array Slot) (nL : Nat) (L : List (Option AV)) : Prop := lv_has ls nL [] ∧ ∀ (i : Nat) (v : AV), lg L i = some v → ls[i]? = some (.val (cv g v)) ∧ noL v
theorem cat1 {g : GT} {v : AV} (h : noL v) : (cv g v).category = 1 := by
  match v, h with
  | .inl _, _ => rfl
  | .inr (.inl _), _ => rfl
  | .inr (.inr _), h => exact h.elim
theorem catle (g : GT) (v : AV) : (cv g v).category ≤ 2 := by
  match v with
  | .inl _ => exact Nat.le_succ 1
  | .inr (.inl _) => exact Nat.le_succ 1
  | .inr (.inr _) => exact Nat.le_refl 2
theorem catsum (g : GT) : ∀ (l : List AV), ((l.map (cv g)).map fun v => v.category).sum ≤ 2 * l.length
  | [] => Nat.le_refl 0
  | v :: l => by
    have h1 := catsum g l
    have h2 := catle g v
    simp only [List.map_cons, List.sum_cons, List.length_cons]
    omega
/-- the listed values: all that L holds -/
def lvl (g : GT) : Nat → List (Option AV) → List (Nat × Value)
  | _, [] => []
  | k, none :: l => lvl g (k + 1) l
  | k, some v :: l => (k, cv g v) :: lvl g (k + 1) l
theorem lvl_mem (g : GT) : ∀ (L : List (Option AV)) (k : Nat) (q : Nat × Value), q ∈ lvl g k L → ∃ v, k ≤ q.1 ∧ lg L (q.1 - k) = some v ∧ q.2 = cv g v
  | [], k, q, h => by cases h
  | none :: l, k, q, h => by
    obtain ⟨v, h1, h2, h3⟩ := lvl_mem g l (k + 1) q h
    refine ⟨v, by omega, ?_, h3⟩
    rw [show q.1 - k = (q.1 - (k + 1)) + 1 by omega]
    exact h2
  | some v :: l, k, q, h => by
    rcases List.mem_cons.mp h with rfl | h
    · exact ⟨v, Nat.le_refl k, by rw [Nat.sub_self]; rfl, rfl⟩
    · obtain ⟨w, h1, h2, h3⟩ := lvl_mem g l (k + 1) q h
      refine ⟨w, by omega, ?_, h3⟩
      rw [show q.1 - k = (q.1 - (k + 1)) + 1 by omega]
      exact h2
theorem lvl_in (g : GT) : ∀ (L : List (Option AV)) (k j : Nat) (v : AV), lg L j = some v → (k + j, cv g v) ∈ lvl g k L
  | [], _, _, _, h => by cases h
  | none :: l, k, 0, v, h => by cases h
  | none :: l, k, j + 1, v, h => by
    have := lvl_in g l (k + 1) j v h
    rw [show k + 1 + j = k + (j + 1) by omega] at this
    exact this
  | some w :: l, k, 0, v, h => by cases h; exact List.mem_cons_self
  | some w :: l, k, j + 1, v, h => by
    have := lvl_in g l (k + 1) j v h
    rw [show k + 1 + j = k + (j + 1) by omega] at this
    exact List.mem_cons_of_mem _ this
theorem LH.list {g : GT} {ls : Array Slot} {nL : Nat} {L : List (Option AV)} (h : LH g ls nL L) : lv_has ls nL (lvl g 0 L) := by
  refine ⟨h.1.1, h.1.2.1, fun q hq => ?_⟩
  obtain ⟨v, -, h2, h3⟩ := lvl_mem g L 0 q hq
  rw [Nat.sub_zero] at h2
  rw [h3]
  exact (h.2 _ v h2).1
theorem LH.back {g : GT} {ls ls' : Array Slot} {nL : Nat} {L : List (Option AV)} {i : Nat} {v : AV} (h : LH g ls nL L) (hv : noL v)
    (h' : lv_has ls' nL ((i, cv g v) :: (lvl g 0 L).filter (fun q => !(q.1 == i) && !(q.1 + 1 == i && q.2.category == 2)))) : LH g ls' nL (lset L i v) := by
  refine ⟨⟨h'.1, h'.2.1, fun q hq => by cases hq⟩, fun j w hw => ?_⟩
  rcases lg_lset L i j v w hw with ⟨rfl, rfl⟩ | ⟨h1, h2⟩
  · exact ⟨h'.2.2 _ List.mem_cons_self, hv⟩
  · have hn := (h.2 j w h2).2
    have hm := lvl_in g L 0 j w h2
    rw [Nat.zero_add] at hm
    refine ⟨h'.2.2 (j, cv g w) (List.mem_cons_of_mem _ (List.mem_filter.mpr ⟨hm, ?_⟩)), hn⟩
    have c1 := cat1 (g := g) hn
    simp [c1, h1]
/-! tables -/
abbrev TE : Type := Instr × Nat × Nat × Int32
abbrev CTy : Type := List AV → Mem → (Option AV → Mem → Prop) → (String → Mem → Prop) → Prop
/-- a method: bytes, locals, class, return type, depth, table, fields by index, callees by index (receiver, 99 where there is none; arguments; contract), throws by place -/
abbrev MI : Type := ByteArray × Nat × String × Option FieldType × Nat × (Nat → Option TE) × List (Nat × (Nat × Nat)) × List (Nat × (Nat × Nat × CTy)) × List (Nat × String)
def m_cc (M : MI) : ByteArray := M.1
def m_nL (M : MI) : Nat := M.2.1
def m_own (M : MI) : String := M.2.2.1
def m_ret (M : MI) : Option FieldType := M.2.2.2.1
def m_d (M : MI) : Nat := M.2.2.2.2.1
def m_tb (M : MI) : Nat → Option TE := M.2.2.2.2.2.1
def m_fl (M : MI) : List (Nat × (Nat × Nat)) := M.2.2.2.2.2.2.1
def m_cal (M : MI) : List (Nat × (Nat × Nat × CTy)) := M.2.2.2.2.2.2.2.1
def m_tr (M : MI) : List (Nat × String) := M.2.2.2.2.2.2.2.2
def lk {β : Type} : List (Nat × β) → Nat → Option β
  | [], _ => none
  | q :: l, i => cond (Nat.beq q.1 i) (some q.2) (lk l i)
theorem lk_mem {β : Type} : ∀ {l : List (Nat × β)} {i : Nat} {b : β}, lk l i = some b → (i, b) ∈ l
  | [], _, _, h => by cases h
  | q :: l, i, b, h => by
    unfold lk at h
    cases e : Nat.beq q.1 i with
    | true =>
      rw [e] at h
      have h1 : some q.2 = some b := h
      cases h1
      rw [← Nat.eq_of_beq_eq_true e]
      exact List.mem_cons_self
    | false =>
      rw [e] at h
      exact List.mem_cons_of_mem _ (lk_mem h)
def nin : Nat → List Nat → Bool
  | _, [] => false
  | a, b :: l => cond (Nat.beq a b) true (nin a l)
def ck2 (nL pc : Nat) (q : TE) : Bool := match q.1 with
  | .iconst n => q.2.1 == pc + 1 && decide (Int32.ofInt n = q.2.2.2)
  | .bipush n => q.2.1 == pc + 2 && decide ((Int8.ofInt n).toInt32 = q.2.2.2)
  | .sipush n => q.2.1 == pc + 3 && decide ((Int16.ofInt n).toInt32 = q.2.2.2)
  | .iload i => q.2.1 == pc + 2 && i == q.2.2.1
  | .aload i => q.2.1 == pc + 2 && i == q.2.2.1
  | .iload_n k => q.2.1 == pc + 1 && k.val == q.2.2.1
  | .aload_n k => q.2.1 == pc + 1 && k.val == q.2.2.1
  | .istore i => q.2.1 == pc + 2 && (i == q.2.2.1 && decide (q.2.2.1 < nL))
  | .astore i => q.2.1 == pc + 2 && (i == q.2.2.1 && decide (q.2.2.1 < nL))
  | .istore_n k => q.2.1 == pc + 1 && (k.val == q.2.2.1 && decide (q.2.2.1 < nL))
  | .astore_n k => q.2.1 == pc + 1 && (k.val == q.2.2.1 && decide (q.2.2.1 < nL))
  | .iinc i n => q.2.1 == pc + 3 && (i == q.2.2.1 && (decide (q.2.2.1 < nL) && decide (Int32.ofInt n = q.2.2.2)))
  | .iadd => q.2.1 == pc + 1
  | .isub => q.2.1 == pc + 1
  | .imul => q.2.1 == pc + 1
  | .ineg => q.2.1 == pc + 1
  | .idiv => q.2.1 == pc + 1
  | .irem => q.2.1 == pc + 1
  | .iand => q.2.1 == pc + 1
  | .dup => q.2.1 == pc + 1
  | .pop => q.2.1 == pc + 1
  | .i2l => q.2.1 == pc + 1
  | .lcmp => q.2.1 == pc + 1
  | .iaload => q.2.1 == pc + 1
  | .baload => q.2.1 == pc + 1
  | .laload => q.2.1 == pc + 1
  | .iastore => q.2.1 == pc + 1
  | .bastore => q.2.1 == pc + 1
  | .lastore => q.2.1 == pc + 1
  | .arraylength => q.2.1 == pc + 1
  | .getfield _ => q.2.1 == pc + 3
  | .putfield _ => q.2.1 == pc + 3
  | .invokevirtual _ => q.2.1 == pc + 3
  | .invokestatic _ => q.2.1 == pc + 3
  | .ireturn => q.2.1 == pc + 1
  | .return_ => q.2.1 == pc + 1
  | .goto off => q.2.1 == pc + 3 && decide ((pc : Int) + off = (q.2.2.1 : Int))
  | .if_icmp _ off => q.2.1 == pc + 3 && decide ((pc : Int) + off = (q.2.2.1 : Int))
  | .ifCond _ off => q.2.1 == pc + 3 && decide ((pc : Int) + off = (q.2.2.1 : Int))
  | _ => true
def chk (cc : ByteArray) (nL pc : Nat) (q : TE) : Bool := decide (decode cc pc = .ok (q.1, q.2.1 - pc)) && ck2 nL pc q
/-- a table by its program: guarded by the code's length -/
def tbl_of (n : Nat) (f : Nat → Option TE) : Nat → Option TE := fun pc => cond (Nat.blt pc n) (f pc) none
theorem tbl_ok {cc : ByteArray} {nL n : Nat} {f : Nat → Option TE} (h : (List.range n).all (fun pc => match f pc with | none => true | some q => chk cc nL pc q) = true) :
    ∀ pc q, tbl_of n f pc = some q → chk cc nL pc q = true := by
  intro pc q hq
  unfold tbl_of at hq
  cases e : Nat.blt pc n with
  | false => rw [e] at hq; cases hq
  | true =>
    rw [e] at hq
    have hq' : f pc = some q := hq
    have h1 := List.all_eq_true.mp h pc (List.mem_range.mpr (Nat.le_of_ble_eq_true e))
    rw [hq'] at h1
    exact h1
/-! the step -/
section STP
def s1 (S : List AV) (f : Int32 → List AV → Prop) : Prop := match S with | .inl y :: r => f y r | _ => False
def s2 (S : List AV) (f : Int32 → Int32 → List AV → Prop) : Prop := match S with | .inl y :: .inl x :: r => f y x r | _ => False
def sr (S : List AV) (f : Nat → List AV → Prop) : Prop := match S with | .inr (.inl o) :: r => f o r | _ => False
def sa2 (S : List AV) (f : Int32 → Nat → List AV → Prop) : Prop := match S with | .inl i :: .inr (.inl o) :: r => f i o r | _ => False
def sa3 (S : List AV) (f : Int32 → Int32 → Nat → List AV → Prop) : Prop := match S with | .inl v :: .inl i :: .inr (.inl o) :: r => f v i o r | _ => False
def sl2 (S : List AV) (f : Int32 → Int32 → List AV → Prop) : Prop := match S with | .inr (.inr y) :: .inr (.inr x) :: r => f y x r | _ => False
def sl3 (S : List AV) (f : Int32 → Int32 → Nat → List AV → Prop) : Prop := match S with | .inr (.inr v) :: .inl i :: .inr (.inl o) :: r => f v i o r | _ => False
def li (x : Option AV) (f : Int32 → Prop) : Prop := match x with | some (.inl y) => f y | _ => False
def lr (x : Option AV) (f : Nat → Prop) : Prop := match x with | some (.inr (.inl o)) => f o | _ => False
theorem s1_el {S : List AV} {f : Int32 → List AV → Prop} (h : s1 S f) : ∃ y r, S = .inl y :: r ∧ f y r := by
  match S, h with
  | .inl y :: r, h => exact ⟨y, r, rfl, h⟩
theorem s2_el {S : List AV} {f : Int32 → Int32 → List AV → Prop} (h : s2 S f) : ∃ y x r, S = .inl y :: .inl x :: r ∧ f y x r := by
  match S, h with
  | .inl y :: .inl x :: r, h => exact ⟨y, x, r, rfl, h⟩
theorem sr_el {S : List AV} {f : Nat → List AV → Prop} (h : sr S f) : ∃ o r, S = .inr (.inl o) :: r ∧ f o r := by
  match S, h with
  | .inr (.inl o) :: r, h => exact ⟨o, r, rfl, h⟩
theorem sa2_el {S : List AV} {f : Int32 → Nat → List AV → Prop} (h : sa2 S f) : ∃ i o r, S = .inl i :: .inr (.inl o) :: r ∧ f i o r := by
  match S, h with
  | .inl i :: .inr (.inl o) :: r, h => exact ⟨i, o, r, rfl, h⟩
theorem sa3_el {S : List AV} {f : Int32 → Int32 → Nat → List AV → Prop} (h : sa3 S f) : ∃ v i o r, S = .inl v :: .inl i :: .inr (.inl o) :: r ∧ f v i o r := by
  match S, h with
  | .inl v :: .inl i :: .inr (.inl o) :: r, h => exact ⟨v, i, o, r, rfl, h⟩
theorem sl2_el {S : List AV} {f : Int32 → Int32 → List AV → Prop} (h : sl2 S f) : ∃ y x r, S = .inr (.inr y) :: .inr (.inr x) :: r ∧ f y x r := by
  match S, h with
  | .inr (.inr y) :: .inr (.inr x) :: r, h => exact ⟨y, x, r, rfl, h⟩
theorem sl3_el {S : List AV} {f : Int32 → Int32 → Nat → List AV → Prop} (h : sl3 S f) : ∃ v i o r, S = .inr (.inr v) :: .inl i :: .inr (.inl o) :: r ∧ f v i o r := by
  match S, h with
  | .inr (.inr v) :: .inl i :: .inr (.inl o) :: r, h => exact ⟨v, i, o, r, rfl, h⟩
theorem li_el {x : Option AV} {f : Int32 → Prop} (h : li x f) : ∃ y, x = some (.inl y) ∧ f y := by
  match x, h with
  | some (.inl y), h => exact ⟨y, rfl, h⟩
theorem lr_el {x : Option AV} {f : Nat → Prop} (h : lr x f) : ∃ o, x = some (.inr (.inl o)) ∧ f o := by
  match x, h with
  | some (.inr (.inl o)), h => exact ⟨o, rfl, h⟩
def om {α : Type} (x : Option α) (f : α → Prop) : Prop := match x with | some y => f y | none => False
def sn (S : List AV) (A : Prop) : Prop := match S with | [] => A | _ => False
theorem om_el {α : Type} {x : Option α} {f : α → Prop} (h : om x f) : ∃ y, x = some y ∧ f y := by
  match x, h with
  | some y, h => exact ⟨y, rfl, h⟩
theorem sn_el {S : List AV} {A : Prop} (h : sn S A) : S = [] ∧ A := by
  match S, h with
  | [], h => exact ⟨rfl, h⟩
def br (c : Jvm.ClassFile.Cond) (x y : Int32) (A B : Prop) : Prop := match c with
  | .eq => (x = y → A) ∧ (¬ x = y → B)
  | .ne => (¬ x = y → A) ∧ (x = y → B)
  | .lt => (x < y → A) ∧ (¬ x < y → B)
  | .ge => (y ≤ x → A) ∧ (¬ y ≤ x → B)
  | .gt => (y < x → A) ∧ (¬ y < x → B)
  | .le => (x ≤ y → A) ∧ (¬ x ≤ y → B)
def akc (o k : Nat) (f : Nat → Prop) : Prop := match ak o with | (k', n) => cond (Nat.beq k' k) (f n) False
theorem akc_el {o k : Nat} {f : Nat → Prop} (h : akc o k f) : (ak o).1 = k ∧ f (ak o).2 := by
  unfold akc at h
  cases e : Nat.beq (ak o).1 k with
  | true =>
    have h' : cond (Nat.beq (ak o).1 k) (f (ak o).2) False := h
    rw [e] at h'
    exact ⟨Nat.eq_of_beq_eq_true e, h'⟩
  | false =>
    have h' : cond (Nat.beq (ak o).1 k) (f (ak o).2) False := h
    rw [e] at h'
    exact h'.elim
def stp (M : MI) (q : TE) (pc : Nat) (L : List (Option AV)) (S : List AV) (σ : Mem) (K : Nat → List (Option AV) → List AV → Mem → Prop) (Rt : Option AV → Mem → Prop) (Th : Nat → String → Mem → Prop) : Prop := match q with | (ig, nx, a, c) => (match ig with
  | .iconst _ => K nx L (.inl c :: S) σ
  | .bipush _ => K nx L (.inl c :: S) σ
  | .sipush _ => K nx L (.inl c :: S) σ
  | .iload _ => li (lg L a) fun x => K nx L (.inl x :: S) σ
  | .iload_n _ => li (lg L a) fun x => K nx L (.inl x :: S) σ
  | .aload _ => lr (lg L a) fun x => K nx L (.inr (.inl x) :: S) σ
  | .aload_n _ => lr (lg L a) fun x => K nx L (.inr (.inl x) :: S) σ
  | .istore _ => s1 S fun x r => K nx (lset L a (.inl x)) r σ
  | .istore_n _ => s1 S fun x r => K nx (lset L a (.inl x)) r σ
  | .astore _ => sr S fun x r => K nx (lset L a (.inr (.inl x))) r σ
  | .astore_n _ => sr S fun x r => K nx (lset L a (.inr (.inl x))) r σ
  | .iinc _ _ => li (lg L a) fun x => K nx (lset L a (.inl (x + c))) S σ
  | .iadd => s2 S fun y x r => K nx L (.inl (x + y) :: r) σ
  | .isub => s2 S fun y x r => K nx L (.inl (x - y) :: r) σ
  | .imul => s2 S fun y x r => K nx L (.inl (x * y) :: r) σ
  | .iand => s2 S fun y x r => K nx L (.inl (x &&& y) :: r) σ
  | .idiv => s2 S fun y x r => ¬ y = 0 ∧ K nx L (.inl (x / y) :: r) σ
  | .irem => s2 S fun y x r => ¬ y = 0 ∧ K nx L (.inl (x - x / y * y) :: r) σ
  | .ineg => s1 S fun x r => K nx L (.inl (-x) :: r) σ
  | .dup => sr S fun o r => K nx L (.inr (.inl o) :: .inr (.inl o) :: r) σ
  | .pop => s1 S fun _ r => K nx L r σ
  | .i2l => s1 S fun x r => K nx L (.inr (.inr x) :: r) σ
  | .lcmp => sl2 S fun y x r => K nx L (.inl (lg_cmp x.toInt64 y.toInt64) :: r) σ
  | .iaload => sa2 S fun i o r => akc o 1 fun n => vp_in i n ∧ K nx L (.inl (σ o i.toNatClampNeg) :: r) σ
  | .baload => sa2 S fun i o r => akc o 2 fun n => vp_in i n ∧ K nx L (.inl (σ o i.toNatClampNeg) :: r) σ
  | .laload => sa2 S fun i o r => cond (Nat.beq o 15) (vp_in i 1 ∧ K nx L (.inr (.inr (σ o i.toNatClampNeg)) :: r) σ) False
  | .iastore => sa3 S fun v i o r => akc o 1 fun n => vp_in i n ∧ K nx L r (st σ o i.toNatClampNeg v)
  | .bastore => sa3 S fun v i o r => akc o 2 fun n => vp_in i n ∧ K nx L r (st σ o i.toNatClampNeg (v &&& 1))
  | .lastore => sl3 S fun v i o r => cond (Nat.beq o 15) (vp_in i 1 ∧ K nx L r (st σ o i.toNatClampNeg v)) False
  | .arraylength => sr S fun o r => akc o 1 fun n => K nx L (.inl (nI n) :: r) σ
  | .getfield ix => sr S fun o r => om (lk (m_fl M) ix) fun z => cond (Nat.beq o (ob z.1)) (om (fav σ z.1 z.2) fun v => K nx L (v :: r) σ) False
  | .putfield ix => sa2 S fun v o r => om (lk (m_fl M) ix) fun z => (match z with | (ci, k) => cond (Nat.beq o (ob ci)) (cond (Nat.beq (fw ci k) 1) (K nx L r (st σ o k v)) (cond (Nat.beq (fw ci k) 2) ((v = 0 ∨ v = 1) ∧ K nx L r (st σ o k v)) False)) False)
  | .goto _ => K a L S σ
  | .if_icmp b _ => s2 S fun y x r => br b x y (K a L r σ) (K nx L r σ)
  | .ifCond b _ => s1 S fun x r => br b x 0 (K a L r σ) (K nx L r σ)
  | .ireturn => s1 S fun x r => sn r (om (m_ret M) fun ty => (match ty with | .int => Rt (some (.inl x)) σ | .boolean => x &&& 1 = x ∧ Rt (some (.inl x)) σ | _ => False))
  | .return_ => sn S (match m_ret M with | none => Rt none σ | some _ => False)
  | .invokevirtual ix => om (lk (m_cal M) ix) fun z => sr (S.drop z.2.1) fun o' r => cond (Nat.beq o' z.1 && (Nat.blt z.1 99 && (Nat.beq (S.take z.2.1).length z.2.1 && Nat.ble r.length 4))) (z.2.2 (S.take z.2.1).reverse σ (fun v σ' => K nx L (v.toList ++ r) σ') (fun E σ' => Th pc E σ')) False
  | .invokestatic ix => om (lk (m_cal M) ix) fun z => cond (Nat.beq z.1 99 && (Nat.beq (S.take z.2.1).length z.2.1 && Nat.ble (S.drop z.2.1).length 4)) (z.2.2 (S.take z.2.1).reverse σ (fun v σ' => K nx L (v.toList ++ S.drop z.2.1) σ') (fun E σ' => Th pc E σ')) False
  | .new _ => sn S (om (lk (m_tr M) pc) fun E => Th pc E σ)
  | _ => False)
/-- up to n steps, the first one always; a step to one of 'stops' ends in K -/
def wpn (M : MI) (stops : List Nat) : Nat → Nat → List (Option AV) → List AV → Mem → (Nat → List (Option AV) → List AV → Mem → Prop) → (Option AV → Mem → Prop) → (Nat → String → Mem → Prop) → Prop
  | 0, pc, L, S, σ, K, _, _ => K pc L S σ
  | n + 1, pc, L, S, σ, K, Rt, Th => om (m_tb M pc) fun q => stp M q pc L S σ (fun pc' L' S' σ' => cond (nin pc' stops) (K pc' L' S' σ') (wpn M stops n pc' L' S' σ' K Rt Th)) Rt Th
end STP
