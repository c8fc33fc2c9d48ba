/-! the walk of a method over the world, and a program that walks its straight stretches -/
def xLs (ls : Array Slot) (n : Nat) (lv : xL) : Prop := ls.size = n ∧ lv_wf ls ∧ ∀ i v, lv i = some v → ls[i]? = some (.val (xv v))
def xkl (o : Option xV) : Option xV := match o with
  | some (.inl x) => some (.inl x)
  | some (.inr (.inr a)) => some (.inr (.inr a))
  | _ => none
def xset (lv : xL) (i : Nat) (v : xV) : xL := fun j => if j = i then some v else if j + 1 = i then xkl (lv j) else lv j
def xset2 (lv : xL) (i : Nat) (v : xV) : xL := fun j => if j = i then some v else if j = i + 1 then none else if j + 1 = i then xkl (lv j) else lv j
theorem xkl_some {o : Option xV} {w : xV} (h : xkl o = some w) : o = some w ∧ (xv w).category = 1 := by
  unfold xkl at h
  split at h
  · cases h; exact ⟨rfl, rfl⟩
  · cases h; exact ⟨rfl, xr_cat _⟩
  · cases h
theorem xset_ok {ls : Array Slot} {n : Nat} {lv : xL} {i : Nat} {v : xV} (h : xLs ls n lv) (hi : i < n) (hc : (xv v).category = 1) : ∃ ls', storeLocals ls i (xv v) = some ls' ∧ xLs ls' n (xset lv i v) := by
  obtain ⟨ls', e, h0⟩ := lv_store1 (l := []) (v := xv v) ⟨h.1, h.2.1, fun q hq => nomatch hq⟩ hi hc
  have key : ∀ (j : Nat) (w : xV), lv j = some w → j ≠ i → (j + 1 = i → (xv w).category = 1) → ls'[j]? = some (.val (xv w)) := by
    intro j w hj hne hcat
    obtain ⟨ls2, e2, h2⟩ := lv_store1 (l := [(j, xv w)]) (v := xv v) ⟨h.1, h.2.1, fun q hq => by rw [List.mem_singleton.mp hq]; exact h.2.2 j w hj⟩ hi hc
    cases Option.some.inj (e.symm.trans e2)
    refine h2.2.2 (j, xv w) (List.mem_cons_of_mem _ (List.mem_filter.mpr ⟨List.mem_singleton.mpr rfl, ?_⟩))
    simp only [Bool.and_eq_true, Bool.not_eq_true', beq_eq_false_iff_ne, ne_eq, Bool.and_eq_false_iff]
    refine ⟨hne, ?_⟩
    by_cases h1 : j + 1 = i
    · exact Or.inr (by rw [hcat h1]; decide)
    · exact Or.inl h1
  refine ⟨ls', e, h0.1, h0.2.1, fun j w hj => ?_⟩
  unfold xset at hj
  split at hj
  · rename_i hji
    cases hj
    subst hji
    exact h0.2.2 (j, xv v) (List.mem_cons_self ..)
  · rename_i hji
    split at hj
    · obtain ⟨h1, h2⟩ := xkl_some hj
      exact key j w h1 hji (fun _ => h2)
    · rename_i h1
      exact key j w hj hji (fun h => absurd h h1)
theorem xset2_ok {ls : Array Slot} {n : Nat} {lv : xL} {i : Nat} {v : xV} (h : xLs ls n lv) (hi : i + 1 < n) (hc : (xv v).category = 2) : ∃ ls', storeLocals ls i (xv v) = some ls' ∧ xLs ls' n (xset2 lv i v) := by
  obtain ⟨ls', e, h0⟩ := lv_store2 (l := []) (v := xv v) ⟨h.1, h.2.1, fun q hq => nomatch hq⟩ hi hc
  have key : ∀ (j : Nat) (w : xV), lv j = some w → j ≠ i → j ≠ i + 1 → (j + 1 = i → (xv w).category = 1) → ls'[j]? = some (.val (xv w)) := by
    intro j w hj hne hne2 hcat
    obtain ⟨ls2, e2, h2⟩ := lv_store2 (l := [(j, xv w)]) (v := xv v) ⟨h.1, h.2.1, fun q hq => by rw [List.mem_singleton.mp hq]; exact h.2.2 j w hj⟩ hi hc
    cases Option.some.inj (e.symm.trans e2)
    refine h2.2.2 (j, xv w) (List.mem_cons_of_mem _ (List.mem_filter.mpr ⟨List.mem_singleton.mpr rfl, ?_⟩))
    simp only [Bool.and_eq_true, Bool.not_eq_true', beq_eq_false_iff_ne, ne_eq, Bool.and_eq_false_iff]
    refine ⟨hne, hne2, ?_⟩
    by_cases h1 : j + 1 = i
    · exact Or.inr (by rw [hcat h1]; decide)
    · exact Or.inl h1
  refine ⟨ls', e, h0.1, h0.2.1, fun j w hj => ?_⟩
  unfold xset2 at hj
  split at hj
  · rename_i hji
    cases hj
    subst hji
    exact h0.2.2 (j, xv v) (List.mem_cons_self ..)
  · rename_i hji
    split at hj
    · cases hj
    · rename_i hj2
      split at hj
      · obtain ⟨h1, h2⟩ := xkl_some hj
        exact key j w h1 hji hj2 (fun _ => h2)
      · rename_i h1
        exact key j w hj hji hj2 (fun h => absurd h h1)
abbrev gp (Γ : xG) : Program := Γ.1
abbrev gl (Γ : xG) : Launch := Γ.2.1
abbrev ge (Γ : xG) : Env := Γ.2.2.1
abbrev gR (Γ : xG) : Room := Γ.2.2.2.1
abbrev gs (Γ : xG) : State := Γ.2.2.2.2.1
abbrev gm (Γ : xG) : MethodId := Γ.2.2.2.2.2.1
abbrev ga (Γ : xG) : Array Value := Γ.2.2.2.2.2.2.1
abbrev gb (Γ : xG) : List Frame := Γ.2.2.2.2.2.2.2.1
abbrev gt (Γ : xG) : Method := Γ.2.2.2.2.2.2.2.2.1
abbrev gc (Γ : xG) : Code := Γ.2.2.2.2.2.2.2.2.2
/-- what the start must say of the JDK's statics, and of the texts -/
def xX (E : xE) (U : State) (H : Heap) : Prop := vx_Zq Bundle.tN "UNASSIGNED_STACK" Bundle.steD (fun q => E.2.2 ≤ q) U H ∧ vx_Zq Bundle.tN "SUPPRESSED_SENTINEL" Bundle.listD (fun q => E.2.2 ≤ q) U H
def xC (Γ : xG) (E : xE) (M : xM) : Prop :=
  ((gp Γ).tables.exec = Jvm.exec ∧ (gc Γ).code = M.2.1 ∧ (gt Γ).sig.returnType = M.2.2.2.1 ∧ (gc Γ).maxLocals = M.2.2.1 ∧ (gs Γ).vm.findClass (xRn M.2.2.2.2.1) = some (gm Γ).cls ∧ (gt Γ).locks = false ∧ (gt Γ).name = M.1.name) ∧
  (∀ e ∈ M.2.2.2.2.2, decode M.2.1 e.1 = .ok (e.2.1, e.2.2)) ∧ M.2.2.2.2.1 < 12 ∧ xK E (gs Γ) ∧ xW (gs Γ) ∧ xX E (gs Γ) (gs Γ).heap ∧ E.2.2 ≤ (gs Γ).heap.size
def V (Γ : xG) (E : xE) (Q : State → Prop) (z : Nat) (T : xY) (I : xI) (N : xN) (ce sl pc : Nat) (lv : xL) (st : List xV) : Prop :=
  ∀ (H : Heap) (locs : List Loc) (ls : Array Slot), xR E z T I N H → va_S (fun q => E.2.2 ≤ q) (gs Γ).heap H locs → xLs ls (gc Γ).maxLocals lv →
    W (gp Γ) (gl Γ) (ge Γ) (gR Γ) (gs Γ) (gm Γ) (ga Γ) (gb Γ) (gt Γ) (gc Γ) H locs ce sl Q (F0 (gm Γ) pc ls (st.map xv))
abbrev xF : Type := Nat × xL × List xV × xI × xN
def xup {α : Type} (f : Nat → Nat → α) (a k : Nat) (v : α) : Nat → Nat → α := va_up f a (va_up (f a) k v)
abbrev xIn (x : Int) : Prop := -2147483648 ≤ x ∧ x ≤ 2147483647
abbrev xIl (x : Int) : Prop := -9223372036854775808 ≤ x ∧ x ≤ 9223372036854775807
def xAr (T : xY) (a k : Nat) (i : Int) : Prop := ∃ n, T a = some (.inl (k, n)) ∧ 0 ≤ i ∧ i < n
def xlen (T : xY) (a : Nat) : Nat := match T a with
  | some (.inl (_, n)) => n
  | _ => 0
/-- the class of what an array of references holds -/
def xec (k : Nat) : Nat := match k with
  | 3 => 2
  | 4 => 5
  | 5 => 6
  | _ => 3
def zAnd (x y : Int) : Int := (Int32.ofInt x &&& Int32.ofInt y).toInt
def zShl (x y : Int) : Int := (Int32.ofInt x <<< (Int32.ofInt y &&& 31)).toInt
def zShr (x y : Int) : Int := (Int32.ofInt x >>> (Int32.ofInt y &&& 31)).toInt
def zUsh (x y : Int) : Int := (((Int32.ofInt x).toUInt32 >>> ((Int32.ofInt y).toUInt32 &&& Int32.toUInt32 31)).toInt32).toInt
def zB (x : Int) : Int := ((Int32.ofInt x).toInt8.toInt32).toInt
def zLand (x y : Int) : Int := (Int64.ofInt x &&& Int64.ofInt y).toInt
def zLor (x y : Int) : Int := (Int64.ofInt x ||| Int64.ofInt y).toInt
def zLsh (x y : Int) : Int := (Int64.ofInt x <<< ((Int32.ofInt y).toInt64 &&& 63)).toInt
def zLus (x y : Int) : Int := (((Int64.ofInt x).toUInt64 >>> ((Int32.ofInt y).toInt64.toUInt64 &&& Int64.toUInt64 63)).toInt64).toInt
def zCmp (x y : Int) : Int := if y < x then 1 else if x = y then 0 else -1
def xi1 (st : List xV) (f : Int → List xV → Option (Option Prop × xF)) : Option (Option Prop × xF) := match st with
  | .inl x :: r => f x r
  | _ => none
def xi2 (st : List xV) (f : Int → Int → List xV → Option (Option Prop × xF)) : Option (Option Prop × xF) := match st with
  | .inl y :: .inl x :: r => f x y r
  | _ => none
def xl1 (st : List xV) (f : Int → List xV → Option (Option Prop × xF)) : Option (Option Prop × xF) := match st with
  | .inr (.inl x) :: r => f x r
  | _ => none
def xl2 (st : List xV) (f : Int → Int → List xV → Option (Option Prop × xF)) : Option (Option Prop × xF) := match st with
  | .inr (.inl y) :: .inr (.inl x) :: r => f x y r
  | _ => none
def xil (st : List xV) (f : Int → Int → List xV → Option (Option Prop × xF)) : Option (Option Prop × xF) := match st with
  | .inl y :: .inr (.inl x) :: r => f x y r
  | _ => none
def xa1 (st : List xV) (f : Nat → List xV → Option (Option Prop × xF)) : Option (Option Prop × xF) := match st with
  | .inr (.inr a) :: r => f a r
  | _ => none
def xia (st : List xV) (f : Nat → Int → List xV → Option (Option Prop × xF)) : Option (Option Prop × xF) := match st with
  | .inl i :: .inr (.inr a) :: r => f a i r
  | _ => none
theorem xi1_some {st : List xV} {f : Int → List xV → Option (Option Prop × xF)} {o : Option Prop × xF} (h : xi1 st f = some o) : ∃ x r, st = .inl x :: r ∧ f x r = some o := by
  unfold xi1 at h; split at h
  · exact ⟨_, _, rfl, h⟩
  · cases h
theorem xi2_some {st : List xV} {f : Int → Int → List xV → Option (Option Prop × xF)} {o : Option Prop × xF} (h : xi2 st f = some o) : ∃ x y r, st = .inl y :: .inl x :: r ∧ f x y r = some o := by
  unfold xi2 at h; split at h
  · exact ⟨_, _, _, rfl, h⟩
  · cases h
theorem xl1_some {st : List xV} {f : Int → List xV → Option (Option Prop × xF)} {o : Option Prop × xF} (h : xl1 st f = some o) : ∃ x r, st = .inr (.inl x) :: r ∧ f x r = some o := by
  unfold xl1 at h; split at h
  · exact ⟨_, _, rfl, h⟩
  · cases h
theorem xl2_some {st : List xV} {f : Int → Int → List xV → Option (Option Prop × xF)} {o : Option Prop × xF} (h : xl2 st f = some o) : ∃ x y r, st = .inr (.inl y) :: .inr (.inl x) :: r ∧ f x y r = some o := by
  unfold xl2 at h; split at h
  · exact ⟨_, _, _, rfl, h⟩
  · cases h
theorem xil_some {st : List xV} {f : Int → Int → List xV → Option (Option Prop × xF)} {o : Option Prop × xF} (h : xil st f = some o) : ∃ x y r, st = .inl y :: .inr (.inl x) :: r ∧ f x y r = some o := by
  unfold xil at h; split at h
  · exact ⟨_, _, _, rfl, h⟩
  · cases h
theorem xa1_some {st : List xV} {f : Nat → List xV → Option (Option Prop × xF)} {o : Option Prop × xF} (h : xa1 st f = some o) : ∃ x r, st = .inr (.inr x) :: r ∧ f x r = some o := by
  unfold xa1 at h; split at h
  · exact ⟨_, _, rfl, h⟩
  · cases h
theorem xia_some {st : List xV} {f : Nat → Int → List xV → Option (Option Prop × xF)} {o : Option Prop × xF} (h : xia st f = some o) : ∃ a i r, st = .inl i :: .inr (.inr a) :: r ∧ f a i r = some o := by
  unfold xia at h; split at h
  · exact ⟨_, _, _, rfl, h⟩
  · cases h
def xfe (M : xM) (pc : Nat) : Option (Instr × Nat) := M.2.2.2.2.2.lookup pc
theorem xlook {l : List (Nat × Instr × Nat)} {k : Nat} {v : Instr × Nat} (h : l.lookup k = some v) : (k, v.1, v.2) ∈ l := by
  induction l with
  | nil => simp at h
  | cons a t ih =>
    obtain ⟨k', v'⟩ := a
    rw [List.lookup_cons] at h
    cases hb : k == k' with
    | true =>
      rw [hb] at h
      cases h
      rw [beq_iff_eq.mp hb]
      exact List.mem_cons_self ..
    | false =>
      rw [hb] at h
      exact List.mem_cons_of_mem _ (ih h)
theorem xlook2 {α : Type} {l : List (Nat × α)} {k : Nat} {v : α} (h : l.lookup k = some v) : (k, v) ∈ l := by
  induction l with
  | nil => simp at h
  | cons a t ih =>
    obtain ⟨k', v'⟩ := a
    rw [List.lookup_cons] at h
    cases hb : k == k' with
    | true =>
      rw [hb] at h
      cases h
      rw [beq_iff_eq.mp hb]
      exact List.mem_cons_self ..
    | false =>
      rw [hb] at h
      exact List.mem_cons_of_mem _ (ih h)
theorem xC.dec {Γ : xG} {E : xE} {M : xM} (C : xC Γ E M) {pc : Nat} {i : Instr} {n : Nat} (h : xfe M pc = some (i, n)) : decode M.2.1 pc = .ok (i, n) := by
  have h1 := C.2.1 (pc, i, n) (xlook h)
  dsimp only at h1
  exact h1
/-- one straight step: what must hold, and where it leads -/
def xs2 (M : xM) (T : xY) (pc : Nat) (lv : xL) (st : List xV) (I : xI) (N : xN) (len : Nat) (i : Instr) : Option (Option Prop × xF) :=
  if len = 1 then match i with
    | .iconst n => some (none, pc + 1, lv, .inl n :: st, I, N)
    | .lconst n => some (none, pc + 1, lv, .inr (.inl ((n : Nat) : Int)) :: st, I, N)
    | .aconst_null => some (none, pc + 1, lv, .inr (.inr 0) :: st, I, N)
    | .iload_n k => match lv k.val with
      | some (.inl x) => some (none, pc + 1, lv, .inl x :: st, I, N)
      | _ => none
    | .lload_n k => match lv k.val with
      | some (.inr (.inl x)) => some (none, pc + 1, lv, .inr (.inl x) :: st, I, N)
      | _ => none
    | .aload_n k => match lv k.val with
      | some (.inr (.inr x)) => some (none, pc + 1, lv, .inr (.inr x) :: st, I, N)
      | _ => none
    | .istore_n k => if k.val < M.2.2.1 then xi1 st fun x r => some (none, pc + 1, xset lv k.val (.inl x), r, I, N) else none
    | .astore_n k => if k.val < M.2.2.1 then xa1 st fun x r => some (none, pc + 1, xset lv k.val (.inr (.inr x)), r, I, N) else none
    | .lstore_n k => if k.val + 1 < M.2.2.1 then xl1 st fun x r => some (none, pc + 1, xset2 lv k.val (.inr (.inl x)), r, I, N) else none
    | .iadd => xi2 st fun x y r => some (none, pc + 1, lv, .inl (x + y) :: r, I, N)
    | .isub => xi2 st fun x y r => some (none, pc + 1, lv, .inl (x - y) :: r, I, N)
    | .imul => xi2 st fun x y r => some (none, pc + 1, lv, .inl (x * y) :: r, I, N)
    | .ineg => xi1 st fun x r => some (none, pc + 1, lv, .inl (-x) :: r, I, N)
    | .iand => xi2 st fun x y r => some (none, pc + 1, lv, .inl (zAnd x y) :: r, I, N)
    | .ishl => xi2 st fun x y r => some (none, pc + 1, lv, .inl (zShl x y) :: r, I, N)
    | .ishr => xi2 st fun x y r => some (none, pc + 1, lv, .inl (zShr x y) :: r, I, N)
    | .iushr => xi2 st fun x y r => some (none, pc + 1, lv, .inl (zUsh x y) :: r, I, N)
    | .idiv => xi2 st fun x y r => some (some ((0 ≤ x ∧ x ≤ 2147483647) ∧ 0 < y ∧ y ≤ 2147483647), pc + 1, lv, .inl (x / y) :: r, I, N)
    | .irem => xi2 st fun x y r => some (some ((0 ≤ x ∧ x ≤ 2147483647) ∧ 0 < y ∧ y ≤ 2147483647), pc + 1, lv, .inl (x % y) :: r, I, N)
    | .ladd => xl2 st fun x y r => some (none, pc + 1, lv, .inr (.inl (x + y)) :: r, I, N)
    | .lmul => xl2 st fun x y r => some (none, pc + 1, lv, .inr (.inl (x * y)) :: r, I, N)
    | .land => xl2 st fun x y r => some (none, pc + 1, lv, .inr (.inl (zLand x y)) :: r, I, N)
    | .lor => xl2 st fun x y r => some (none, pc + 1, lv, .inr (.inl (zLor x y)) :: r, I, N)
    | .ldiv => xl2 st fun x y r => some (some ((0 ≤ x ∧ x ≤ 9223372036854775807) ∧ 0 < y ∧ y ≤ 9223372036854775807), pc + 1, lv, .inr (.inl (x / y)) :: r, I, N)
    | .lrem => xl2 st fun x y r => some (some ((0 ≤ x ∧ x ≤ 9223372036854775807) ∧ 0 < y ∧ y ≤ 9223372036854775807), pc + 1, lv, .inr (.inl (x % y)) :: r, I, N)
    | .lshl => xil st fun x y r => some (none, pc + 1, lv, .inr (.inl (zLsh x y)) :: r, I, N)
    | .lushr => xil st fun x y r => some (none, pc + 1, lv, .inr (.inl (zLus x y)) :: r, I, N)
    | .lcmp => xl2 st fun x y r => some (some (xIl x ∧ xIl y), pc + 1, lv, .inl (zCmp x y) :: r, I, N)
    | .i2l => xi1 st fun x r => some (some (xIn x), pc + 1, lv, .inr (.inl x) :: r, I, N)
    | .l2i => xl1 st fun x r => some (none, pc + 1, lv, .inl x :: r, I, N)
    | .i2b => xi1 st fun x r => some (none, pc + 1, lv, .inl (zB x) :: r, I, N)
    | .dup => match st with
      | .inl x :: r => some (none, pc + 1, lv, .inl x :: .inl x :: r, I, N)
      | .inr (.inr a) :: r => some (none, pc + 1, lv, .inr (.inr a) :: .inr (.inr a) :: r, I, N)
      | _ => none
    | .dup2 => match st with
      | .inl x :: .inr (.inr a) :: r => some (none, pc + 1, lv, .inl x :: .inr (.inr a) :: .inl x :: .inr (.inr a) :: r, I, N)
      | _ => none
    | .iaload => xia st fun a i r => some (some (xAr T a 1 i), pc + 1, lv, .inl (I a i.toNat) :: r, I, N)
    | .baload => xia st fun a i r => some (some (xAr T a 0 i), pc + 1, lv, .inl (I a i.toNat) :: r, I, N)
    | .laload => xia st fun a i r => some (some (xAr T a 2 i), pc + 1, lv, .inr (.inl (I a i.toNat)) :: r, I, N)
    | .aaload => xia st fun a i r => some (some ((∃ k, 3 ≤ k ∧ xAr T a k i)), pc + 1, lv, .inr (.inr (N a i.toNat)) :: r, I, N)
    | .iastore => xi1 st fun x st => xia st fun a i r => some (some (xAr T a 1 i), pc + 1, lv, r, xup I a i.toNat x, N)
    | .bastore => xi1 st fun x st => xia st fun a i r => some (some (xAr T a 0 i), pc + 1, lv, r, xup I a i.toNat (zB x), N)
    | .lastore => xl1 st fun x st => xia st fun a i r => some (some (xAr T a 2 i), pc + 1, lv, r, xup I a i.toNat x, N)
    | .aastore => xa1 st fun x st => xia st fun a i r => some (some ((∃ k, 3 ≤ k ∧ xAr T a k i ∧ T x = some (.inr (xec k)))), pc + 1, lv, r, I, xup N a i.toNat x)
    | .arraylength => xa1 st fun a r => some (some ((∃ k n, T a = some (.inl (k, n)))), pc + 1, lv, .inl ((xlen T a : Nat) : Int) :: r, I, N)
    | _ => none
  else if len = 2 then match i with
    | .bipush n => if -128 ≤ n ∧ n ≤ 127 then some (none, pc + 2, lv, .inl n :: st, I, N) else none
    | .ldc k => match (xcr M.2.2.2.2.1).lookup k with
      | some x => some (none, pc + 2, lv, .inl x :: st, I, N)
      | none => none
    | .iload k => match lv k with
      | some (.inl x) => some (none, pc + 2, lv, .inl x :: st, I, N)
      | _ => none
    | .lload k => match lv k with
      | some (.inr (.inl x)) => some (none, pc + 2, lv, .inr (.inl x) :: st, I, N)
      | _ => none
    | .aload k => match lv k with
      | some (.inr (.inr x)) => some (none, pc + 2, lv, .inr (.inr x) :: st, I, N)
      | _ => none
    | .istore k => if k < M.2.2.1 then xi1 st fun x r => some (none, pc + 2, xset lv k (.inl x), r, I, N) else none
    | .astore k => if k < M.2.2.1 then xa1 st fun x r => some (none, pc + 2, xset lv k (.inr (.inr x)), r, I, N) else none
    | _ => none
  else if len = 3 then match i with
    | .sipush n => if -32768 ≤ n ∧ n ≤ 32767 then some (none, pc + 3, lv, .inl n :: st, I, N) else none
    | .ldc2_w k => match (xlr M.2.2.2.2.1).lookup k with
      | some x => some (none, pc + 3, lv, .inr (.inl x) :: st, I, N)
      | none => none
    | .iinc k n => if k < M.2.2.1 then (match lv k with
      | some (.inl x) => some (none, pc + 3, xset lv k (.inl (x + n)), st, I, N)
      | _ => none) else none
    | .goto off => match (pc : Int) + off with
      | .ofNat t => some (none, t, lv, st, I, N)
      | _ => none
    | .getfield k => match (xfr M.2.2.2.2.1).lookup k with
      | some (c, f, _) => xa1 st fun a r => some (some (T a = some (.inr c)), pc + 3, lv, (match xfk c f with
        | 1 => .inr (.inr (N a f))
        | _ => .inl (I a f)) :: r, I, N)
      | none => none
    | .putfield k => match (xfr M.2.2.2.2.1).lookup k with
      | some (c, f, _) => if (xTT c f).2.2.2 then none else (match xfk c f with
        | 0 => xi1 st fun x st => xa1 st fun a r => some (some (T a = some (.inr c)), pc + 3, lv, r, xup I a f x, N)
        | 1 => xa1 st fun x st => xa1 st fun a r => some (some (T a = some (.inr c)), pc + 3, lv, r, I, xup N a f x)
        | _ => xi1 st fun x st => xa1 st fun a r => some (some (T a = some (.inr c) ∧ (x = 0 ∨ x = 1)), pc + 3, lv, r, xup I a f x, N))
      | none => none
    | _ => none
  else none
def xp (P : Option Prop) : Prop := match P with
  | none => True
  | some p => p
def xgo (M : xM) (T : xY) (stop : List Nat) : Nat → Prop → Nat → xL → List xV → xI → xN → Option (Prop × xF)
  | 0, P, pc, lv, st, I, N => some (P, pc, lv, st, I, N)
  | n + 1, P, pc, lv, st, I, N => match xfe M pc with
    | none => some (P, pc, lv, st, I, N)
    | some (i, len) => match xs2 M T pc lv st I N len i with
      | none => some (P, pc, lv, st, I, N)
      | some (none, pc', lv', st', I', N') => (match stop.elem pc' with
        | true => some (P, pc', lv', st', I', N')
        | false => xgo M T stop n P pc' lv' st' I' N')
      | some (some p, pc', lv', st', I', N') => (match stop.elem pc' with
        | true => some (p ∧ P, pc', lv', st', I', N')
        | false => xgo M T stop n (p ∧ P) pc' lv' st' I' N')
