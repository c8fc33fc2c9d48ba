/-! the world: values are numbers, a heap is its size, what lies where, numbers and references -/
abbrev xV : Type := Int ⊕ (Int ⊕ Nat)
abbrev xT : Type := (Nat × Nat) ⊕ Nat
abbrev xL : Type := Nat → Option xV
abbrev xI : Type := Nat → Nat → Int
abbrev xN : Type := Nat → Nat → Nat
abbrev xY : Type := Nat → Option xT
abbrev xE : Type := va_G × (Nat → ClassId) × Nat
abbrev xG : Type := Program × Launch × Env × Room × State × MethodId × Array Value × List Frame × Method × Code
def xr (a : Nat) : Value := if a = 0 then .null else .ref a
def xv (v : xV) : Value := match v with
  | .inl z => .int (Int32.ofInt z)
  | .inr (.inl z) => .long (Int64.ofInt z)
  | .inr (.inr a) => xr a
theorem xr_pos {a : Nat} (h : 0 < a) : xr a = .ref a := by unfold xr; rw [if_neg (by omega)]
theorem xr_0 : xr 0 = .null := rfl
theorem xr_cat (a : Nat) : (xr a).category = 1 := by unfold xr; split <;> rfl
theorem xr_isRef (a : Nat) : (xr a).isRef = true := by unfold xr; split <;> rfl
/-- the types of arrays -/
def xat (k : Nat) : FieldType := match k with
  | 0 => .byte
  | 1 => .int
  | 2 => .long
  | 3 => .object RX2
  | 4 => .object RX5
  | 5 => .object RX6
  | _ => .object RX3
/-- a field's kind: 0 int, 1 reference, 2 boolean -/
def xfk (c k : Nat) : Nat := match xty c k with
  | .int => 0
  | .boolean => 2
  | _ => 1
def xfv (t : Nat) (z : Int) (a : Nat) : Value := if t = 1 then xr a else .int (Int32.ofInt z)
def xav (k : Nat) (z : Int) (a : Nat) : Value := if k ≤ 1 then .int (Int32.ofInt z) else if k = 2 then .long (Int64.ofInt z) else xr a
def xAt (E : xE) (T : xY) (I : xI) (N : xN) (H : Heap) (a : Nat) : Prop := match T a with
  | none => True
  | some (.inl (k, n)) => H[a]? = some (arrV (E.2.1 k) n (fun j => xav k (I a j) (N a j))) ∧ n < 2147483648 ∧ E.2.2 ≤ a ∧ k < 7
  | some (.inr c) => c < 11 ∧ t_OB a (E.1.1 c) (xNN c) (E.1.2 c) H (fun k => xfv (xfk c k) (I a k) (N a k)) ∧ E.2.2 ≤ a
def xR (E : xE) (z : Nat) (T : xY) (I : xI) (N : xN) (H : Heap) : Prop := H.size = z ∧ E.2.2 ≤ z ∧ 1 ≤ E.2.2 ∧ ∀ a, xAt E T I N H a
def xty7 (E : xE) : List (ClassId × FieldType) := [(E.2.1 0, xat 0), (E.2.1 1, xat 1), (E.2.1 2, xat 2), (E.2.1 3, xat 3), (E.2.1 4, xat 4), (E.2.1 5, xat 5), (E.2.1 6, xat 6)]
def xK (E : xE) (U : State) : Prop := va_K E.1 vwCl (xty7 E) U
theorem xty7_at (E : xE) {k : Nat} (h : k < 7) : (xty7 E)[k]? = some (E.2.1 k, xat k) := by
  rcases (by omega : k = 0 ∨ k = 1 ∨ k = 2 ∨ k = 3 ∨ k = 4 ∨ k = 5 ∨ k = 6) with h | h | h | h | h | h | h <;> subst h <;> rfl
theorem xcl_at {c : Nat} (h : c < 11) : vwCl[c]? = some (xRn c, xTT c, xNN c) := by
  rcases (by omega : c = 0 ∨ c = 1 ∨ c = 2 ∨ c = 3 ∨ c = 4 ∨ c = 5 ∨ c = 6 ∨ c = 7 ∨ c = 8 ∨ c = 9 ∨ c = 10) with h | h | h | h | h | h | h | h | h | h | h <;> subst h <;> rfl
theorem xty_ok {c : Nat} (h : c < 11) : ∀ k, k < xNN c → parseFieldDescriptor (xTT c k).2.2.1 = some (xty c k) := by
  rcases (by omega : c = 0 ∨ c = 1 ∨ c = 2 ∨ c = 3 ∨ c = 4 ∨ c = 5 ∨ c = 6 ∨ c = 7 ∨ c = 8 ∨ c = 9 ∨ c = 10) with h | h | h | h | h | h | h | h | h | h | h <;> subst h
  · exact tyX0_ok
  · exact tyX1_ok
  · exact tyX2_ok
  · exact tyX3_ok
  · exact tyX4_ok
  · exact tyX5_ok
  · exact tyX6_ok
  · exact tyX7_ok
  · exact tyX8_ok
  · exact tyX9_ok
  · exact tyX10_ok
theorem xnm_ok {c : Nat} (h : c < 11) : ∀ a, a < xNN c → ∀ b, b < xNN c → a ≠ b → (xTT c a).2.1 ≠ (xTT c b).2.1 := by
  rcases (by omega : c = 0 ∨ c = 1 ∨ c = 2 ∨ c = 3 ∨ c = 4 ∨ c = 5 ∨ c = 6 ∨ c = 7 ∨ c = 8 ∨ c = 9 ∨ c = 10) with h | h | h | h | h | h | h | h | h | h | h <;> subst h
  · exact nmX0
  · exact nmX1
  · exact nmX2
  · exact nmX3
  · exact nmX4
  · exact nmX5
  · exact nmX6
  · exact nmX7
  · exact nmX8
  · exact nmX9
  · exact nmX10
theorem xK.cls {E : xE} {U : State} (h : xK E U) {c : Nat} (hc : c < 11) : u_Kn U (xRn c) (xTT c) (xNN c) (E.1.1 c) (E.1.2 c) := h.1 c _ (xcl_at hc)
theorem xK.arr {E : xE} {U : State} (h : xK E U) {k : Nat} (hk : k < 7) : ArrOfT U (E.2.1 k) (xat k) ∧ va_RA U (E.2.1 k) (xat k) := h.2 k _ (xty7_at E hk)
theorem xK.moved {E : xE} {u U : State} (hvm : u.vm.Alike U.vm) (h : xK E u) : xK E U := va_K.moved hvm h
/-- the words that hold on -/
def xok (w : Cond) : Bool := (w.onTables && w.keeps) || (match w with
  | .arrayClass _ => true
  | .arrayOver (.object _) => true
  | .fieldLinkNest .. => true
  | .methodLinkNest .. => true
  | .declares _ => true
  | .castable _ _ => true
  | .privateMethod _ => true
  | _ => false)
def xW (U : State) : Prop := ∀ w ∈ lw_tbl, xok w = true → w.before #[] U = true
theorem xok_at {w : Cond} (hw : xok w = true) {A A' : Array Value} {s U : State} (hW : s.WarmedH U.vm) (h : w.before A s = true) : w.before A' U = true := by
  by_cases hk : (w.onTables && w.keeps) = true
  · exact word_at hW (Or.inl hk) h
  · have hk' : (w.onTables && w.keeps) = false := by simpa using hk
    unfold xok at hw
    rw [hk', Bool.false_or] at hw
    cases w with
    | arrayClass ty => exact word_at hW (Or.inr ⟨ty, rfl⟩) h
    | arrayOver ty =>
      cases ty with
      | object C => exact va_AO.use (A := A') (va_AO.moved hW.alike (va_AO.of h))
      | _ => simp at hw
    | fieldLinkNest a i b n d h' => exact va_Nw.use rfl (va_Nw.warmF hW (va_Nw.of rfl h))
    | methodLinkNest a i x h' => exact va_Nw.use rfl (va_Nw.warmM hW (va_Nw.of rfl h))
    | declares x => exact va_Nw.use rfl (va_Nw.warmD hW (va_Nw.of rfl h))
    | castable a b => exact va_Nw.use rfl (va_Nw.warmC hW (va_Nw.of rfl h))
    | privateMethod x => exact va_tabs (u := s.setVm U.vm) (A := A) rfl rfl (by rw [Cond.privateMethod_setVm hW.alike]; exact h)
    | _ => simp at hw
theorem xW.at {s U : State} (h : xW s) (hW : s.WarmedH U.vm) {w : Cond} (hw : w ∈ lw_tbl) (hk : xok w = true) (A : Array Value) : w.before A U = true := xok_at hk hW (h w hw hk)
theorem xW.warm {s U : State} (h : xW s) (hW : s.WarmedH U.vm) : xW U := fun _ hw hk => h.at hW hw hk _
theorem xW.use {s : State} (h : xW s) {w : Cond} (hw : w ∈ lw_tbl) (hk : xok w = true) {A : Array Value} : w.before A s = true := h.at (State.WarmedH.refl s) hw hk A
def xus (c : Nat) : List Cond := u_ws (xRn c) (xTT c) (xNN c)
theorem xus_in : ∀ c ∈ List.range 11, ∀ w ∈ xus c, w ∈ lw_tbl ∧ xok w = true := by decide +kernel
theorem xfr_in : ∀ o ∈ List.range 12, ∀ e ∈ xfr o, (if e.2.2.2 then Cond.fieldLinkNest (xRn o) e.1 (xTT e.2.1 e.2.2.1).1 (xTT e.2.1 e.2.2.1).2.1 (xTT e.2.1 e.2.2.1).2.2.1 "CoapDesk" else Cond.fieldLink (xRn o) e.1 (xTT e.2.1 e.2.2.1).1 (xTT e.2.1 e.2.2.1).2.1 (xTT e.2.1 e.2.2.1).2.2.1) ∈ lw_tbl ∧ e.2.1 < 11 ∧ e.2.2.1 < xNN e.2.1 := by decide +kernel
theorem xcr_in : ∀ o ∈ List.range 12, ∀ e ∈ xcr o, Cond.constant (xRn o) e.1 (Int32.ofInt e.2) ∈ lw_tbl := by decide +kernel
theorem xlr_in : ∀ o ∈ List.range 12, ∀ e ∈ xlr o, Cond.constantLong (xRn o) e.1 (Int64.ofInt e.2) ∈ lw_tbl := by decide +kernel
theorem xW.us {s : State} (h : xW s) {c : Nat} (hc : c < 11) {A : Array Value} : ∀ w ∈ xus c, w.before A s = true := fun w hw => h.use (xus_in c (List.mem_range.mpr hc) w hw).1 (xus_in c (List.mem_range.mpr hc) w hw).2
