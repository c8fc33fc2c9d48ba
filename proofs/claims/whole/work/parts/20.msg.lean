/-! messages: CoapDesk$Message, CoapDesk$Option -/
/-- nothing made: an answer, numbers and references -/
def xCg (z : Nat) (T : xY) (P : Option xV → xI → xN → Prop) : xPo := fun r z' T' I' N' => z' = z ∧ T' = T ∧ P r I' N'
section XCg
variable {Γ : xG} {E : xE} {M M' : xM} {T : xY} {I : xI} {N : xN} {z : Nat} {ce sl pc lev lev' mc ms n idx : Nat} {Q : State → Prop} {lv : xL} {st : List xV} {av : List xV} {P : Option xV → xI → xN → Prop}
theorem V_chV (D : xD Γ E M lev mc ms) (hm : xMv M' n) (hf : xfe M pc = some (.invokevirtual idx, 3)) (hlk : Cond.methodLink (xRn M.2.2.2.2.1) idx M'.1 ∈ lw_tbl) {a : Nat} (hS : Spec M' lev' (.inr (.inr a) :: av) z T I N 0 0 (xCg z T P)) (hT : T a = some (.inr M'.2.2.2.2.1))
    (hr : (Nat.blt lev' lev && av.length.beq n && (xwd st).ble 8) = true) (hc : ce ≤ mc ∧ sl ≤ ms) (k : ∀ r I' N', P r I' N' → V Γ E Q z T I' N' ce sl (pc + 3) lv (r.toList ++ st)) : V Γ E Q z T I N ce sl pc lv (av.reverse ++ .inr (.inr a) :: st) :=
  V_callV D hm hf hlk hS hT hr hc (fun r z' T' I' N' h => by obtain ⟨h1, h2, h3⟩ := h; rw [h1, h2]; exact k r I' N' h3)
theorem V_chS (D : xD Γ E M lev mc ms) (hm : xMs M' n) (hf : xfe M pc = some (.invokestatic idx, 3)) (hlk : Cond.methodLink (xRn M.2.2.2.2.1) idx M'.1 ∈ lw_tbl) (hS : Spec M' lev' av z T I N 0 0 (xCg z T P))
    (hr : (Nat.blt lev' lev && av.length.beq n && (xwd st).ble 8) = true) (hc : ce ≤ mc ∧ sl ≤ ms) (k : ∀ r I' N', P r I' N' → V Γ E Q z T I' N' ce sl (pc + 3) lv (r.toList ++ st)) : V Γ E Q z T I N ce sl pc lv (av.reverse ++ st) :=
  V_callS D hm hf hlk hS hr hc (fun r z' T' I' N' h => by obtain ⟨h1, h2, h3⟩ := h; rw [h1, h2]; exact k r I' N' h3)
/-- a call that changes one row of bytes -/
theorem V_putB (D : xD Γ E M lev mc ms) (hm : xMv M' n) (hf : xfe M pc = some (.invokevirtual idx, 3)) (hlk : Cond.methodLink (xRn M.2.2.2.2.1) idx M'.1 ∈ lw_tbl) {a b room : Nat} {ys : List Int} (hS : Spec M' lev' (.inr (.inr a) :: av) z T I N 0 0 (BCh z T I N b room ys)) (hT : T a = some (.inr M'.2.2.2.2.1))
    (hr : (Nat.blt lev' lev && av.length.beq n && (xwd st).ble 8) = true) (hc : ce ≤ mc ∧ sl ≤ ms) (k : ∀ I', (∀ a, a ≠ b → a ≠ b + 1 → I' a = I a) → BAt T I' N b room ys → V Γ E Q z T I' N ce sl (pc + 3) lv st) : V Γ E Q z T I N ce sl pc lv (av.reverse ++ .inr (.inr a) :: st) :=
  V_callV D hm hf hlk hS hT hr hc (fun r z' T' I' N' h => by obtain ⟨h1, h2, h3, h4, h5, h6⟩ := h; rw [h1, h2, h3, h4]; exact k I' h5 h6)
end XCg
abbrev Opt : Type := Int × List Int
/-- type, code, ID, token, options, payload -/
abbrev Msg : Type := Int × Int × Int × List Int × List Opt × List Int
def od (os : List Opt) (k : Nat) : Opt := os.getD k (0, [])
def OAt (T : xY) (I : xI) (N : xN) (o : Nat) (n : Int) (v : List Int) : Prop := T o = some (.inr 2) ∧ N o 0 = o + 1 ∧ I o 1 = n ∧ BAt T I N (o + 1) 400 v
def MAt (T : xY) (I : xI) (N : xN) (m most : Nat) (g : Msg) (lat : Option Nat) : Prop :=
  (T m = some (.inr 1) ∧ N m 0 = m + 1 ∧ N m 1 = m + 3 ∧ N m 2 = m + 5 ∧ T (m + 5) = some (.inl (3, most)) ∧ most ≤ 20 ∧ I m 3 = (g.2.2.2.2.1.length : Int) ∧ g.2.2.2.2.1.length ≤ most) ∧ (I m 5 = g.1 ∧ I m 6 = g.2.1 ∧ I m 7 = g.2.2.1) ∧
  BAt T I N (m + 1) 8 g.2.2.2.1 ∧ BAt T I N (m + 3) 400 g.2.2.2.2.2 ∧
  (∃ f : Nat → Nat, (∀ j, j < most → f j < most ∧ N (m + 5) j = m + 6 + 3 * f j) ∧ (∀ i j, i < most → j < most → f i = f j → i = j) ∧ (∀ k, k < most → ∃ n v, OAt T I N (m + 6 + 3 * k) n v) ∧ ∀ j, j < g.2.2.2.2.1.length → OAt T I N (m + 6 + 3 * f j) (od g.2.2.2.2.1 j).1 (od g.2.2.2.2.1 j).2) ∧
  (match lat with
    | none => N m 4 = 0
    | some l => l < g.2.2.2.2.1.length ∧ N m 4 = N (m + 5) l)
/-- only the cells of a stretch may have changed -/
def RCh (lo hi : Nat) (I : xI) (N : xN) (I' : xI) (N' : xN) : Prop := ∀ a, (a < lo ∨ hi ≤ a) → I' a = I a ∧ N' a = N a
theorem RCh.rf {lo hi : Nat} {I : xI} {N : xN} : RCh lo hi I N I N := fun _ _ => ⟨rfl, rfl⟩
theorem RCh.trans {lo hi : Nat} {I I' I'' : xI} {N N' N'' : xN} (h : RCh lo hi I N I' N') (h' : RCh lo hi I' N' I'' N'') : RCh lo hi I N I'' N'' := fun a ha => ⟨(h' a ha).1.trans (h a ha).1, (h' a ha).2.trans (h a ha).2⟩
theorem RCh.wide {lo hi lo' hi' : Nat} {I I' : xI} {N N' : xN} (h : RCh lo hi I N I' N') (h1 : lo' ≤ lo) (h2 : hi ≤ hi') : RCh lo' hi' I N I' N' := fun a ha => h a (by omega)
theorem RCh.ofB {b : Nat} {I I' : xI} {N : xN} (h : ∀ a, a ≠ b → a ≠ b + 1 → I' a = I a) : RCh b (b + 2) I N I' N := fun a ha => ⟨h a (by omega) (by omega), rfl⟩
theorem OAt.kept {T : xY} {I I' : xI} {N N' : xN} {o : Nat} {n : Int} {v : List Int} (h : OAt T I N o n v) (hk : ∀ a, o ≤ a → a < o + 3 → I' a = I a ∧ N' a = N a) : OAt T I' N' o n v := by
  obtain ⟨h1, h2, h3, h4⟩ := h
  refine ⟨h1, ?_, ?_, h4.kept (hk _ (by omega) (by omega)).1 (hk _ (by omega) (by omega)).1 (hk _ (by omega) (by omega)).2⟩
  · rw [(hk o (by omega) (by omega)).2]; exact h2
  · rw [(hk o (by omega) (by omega)).1]; exact h3
theorem MAt.kept {T : xY} {I I' : xI} {N N' : xN} {m most : Nat} {g : Msg} {lat : Option Nat} (h : MAt T I N m most g lat) (hk : ∀ a, m ≤ a → a < m + 6 + 3 * most → I' a = I a ∧ N' a = N a) : MAt T I' N' m most g lat := by
  obtain ⟨⟨a1, a2, a3, a4, a5, a6, a7, a8⟩, ⟨b1, b2, b3⟩, c1, c2, ⟨f, f1, f2, f3, f4⟩, l1⟩ := h
  have km := hk m (by omega) (by omega)
  have k5 := hk (m + 5) (by omega) (by omega)
  refine ⟨⟨a1, by rw [km.2]; exact a2, by rw [km.2]; exact a3, by rw [km.2]; exact a4, a5, a6, by rw [km.1]; exact a7, a8⟩, ⟨by rw [km.1]; exact b1, by rw [km.1]; exact b2, by rw [km.1]; exact b3⟩, c1.kept (hk _ (by omega) (by omega)).1 (hk _ (by omega) (by omega)).1 (hk _ (by omega) (by omega)).2, c2.kept (hk _ (by omega) (by omega)).1 (hk _ (by omega) (by omega)).1 (hk _ (by omega) (by omega)).2, ⟨f, ?_, f2, ?_, ?_⟩, ?_⟩
  · intro j hj; rw [k5.2]; exact f1 j hj
  · intro k hk1
    obtain ⟨n, v, h⟩ := f3 k hk1
    exact ⟨n, v, h.kept (fun a h1 h2 => hk a (by omega) (by omega))⟩
  · intro j hj
    have := (f1 j (by omega)).1
    exact (f4 j hj).kept (fun a h1 h2 => hk a (by omega) (by omega))
  · cases lat with
    | none => show N' m 4 = 0; rw [km.2]; exact l1
    | some l => exact ⟨l1.1, by rw [km.2, k5.2]; exact l1.2⟩
/-- where a new option goes: from the end, past those with a higher number -/
def ipos (n : Int) (os : List Opt) : Nat → Nat
  | 0 => 0
  | k + 1 => if n < (od os k).1 then ipos n os k else k + 1
theorem ipos_le (n : Int) (os : List Opt) : ∀ k, ipos n os k ≤ k
  | 0 => Nat.le_refl _
  | k + 1 => by
    unfold ipos
    split
    · have := ipos_le n os k; omega
    · omega
def inso (p : Nat) (q : Opt) (os : List Opt) : List Opt := os.take p ++ q :: os.drop p
theorem inso_len {p : Nat} {q : Opt} {os : List Opt} (h : p ≤ os.length) : (inso p q os).length = os.length + 1 := by unfold inso; simp; omega
theorem inso_at {p : Nat} {q : Opt} {os : List Opt} (h : p ≤ os.length) (j : Nat) : od (inso p q os) j = if j < p then od os j else if j = p then q else od os (j - 1) := by
  unfold od inso
  simp only [List.getD_eq_getElem?_getD]
  by_cases h1 : j < p
  · rw [if_pos h1, List.getElem?_append_left (by simp; omega), List.getElem?_take_of_lt h1]
  · rw [if_neg h1, List.getElem?_append_right (by simp; omega)]
    have e : j - (os.take p).length = j - p := by simp; omega
    rw [e]
    by_cases h2 : j = p
    · rw [if_pos h2]; simp [h2]
    · rw [if_neg h2, show j - p = (j - p - 1) + 1 by omega, List.getElem?_cons_succ, List.getElem?_drop]
      rw [show p + (j - p - 1) = j - 1 by omega]
section XM1
variable {Γ : xG} {E : xE} {z : Nat} {T : xY} {I : xI} {N : xN} {m most lev : Nat} {g : Msg} {lat : Option Nat}
theorem s_restart {ty co id : Int} (h : MAt T I N m most g lat) : Spec mX1_restart 1 [.inr (.inr m), .inl ty, .inl co, .inl id] z T I N 0 0
    (xCg z T fun r I' N' => r = none ∧ RCh m (m + 5) I N I' N' ∧ MAt T I' N' m most (ty, co, id, [], [], []) none) := by
  obtain ⟨⟨a1, a2, a3, a4, a5, a6, a7, a8⟩, ⟨b1, b2, b3⟩, c1, c2, ⟨f, f1, f2, f3, f4⟩, l1⟩ := h
  refine Spec_of okX1_restart (by decide) (by decide) (Nat.le_of_ble_eq_true rfl) fun Γ E D => ?_
  refine V_run D [] 19 rfl ⟨a1, a1, a1, a1, trivial⟩ ?_
  rw [a2]
  generalize hI1 : xup (xup (xup I m 5 ty) m 6 co) m 7 id = I1
  have e1 : ∀ a, a ≠ m → I1 a = I a := fun a ha => by rw [← hI1, xup_ne ha, xup_ne ha, xup_ne ha]
  have c1' : BAt T I1 N (m + 1) 8 g.2.2.2.1 := c1.kept (e1 _ (by omega)) (e1 _ (by omega)) rfl
  refine V_putB (av := []) (st := []) D mwX0_clear rfl lkX1_X0_clear (s_clear c1') c1.1 rfl ⟨Nat.le_refl _, Nat.le_refl _⟩ (fun I2 e2 d1 => ?_)
  refine V_run D [] 26 rfl ⟨a1, trivial⟩ ?_
  rw [a3]
  have c2' : BAt T I2 N (m + 3) 400 g.2.2.2.2.2 := c2.kept (by rw [e2 _ (by omega) (by omega), e1 _ (by omega)]) (by rw [e2 _ (by omega) (by omega), e1 _ (by omega)]) rfl
  refine V_putB (av := []) (st := []) D mwX0_clear rfl lkX1_X0_clear (s_clear c2') c2.1 rfl ⟨Nat.le_refl _, Nat.le_refl _⟩ (fun I3 e3 d2 => ?_)
  refine V_run D [] 39 rfl ⟨a1, a1, trivial⟩ ?_
  have fr : ∀ a, (a < m ∨ m + 5 ≤ a) → xup I3 m 3 0 a = I a := fun a ha => by rw [xup_ne (by omega), e3 _ (by omega) (by omega), e2 _ (by omega) (by omega), e1 _ (by omega)]
  have frN : ∀ a, a ≠ m → xup N m 4 0 a = N a := fun a ha => xup_ne ha
  have im : I3 m = I1 m := by rw [e3 _ (by omega) (by omega), e2 _ (by omega) (by omega)]
  refine V_vret D rfl rfl ⟨rfl, rfl, rfl, fun a ha => ⟨fr a ha, frN a (by omega)⟩, ⟨a1, ?_, ?_, ?_, a5, a6, ?_, by simp⟩, ⟨?_, ?_, ?_⟩, d1.kept ?_ ?_ (frN _ (by omega)), d2.kept (xup_ne (by omega)) (xup_ne (by omega)) (frN _ (by omega)), ⟨f, ?_, f2, ?_, ?_⟩, ?_⟩
  · rw [xup_at]; exact a2
  · rw [xup_at]; exact a3
  · rw [xup_at]; exact a4
  · rw [xup_at]; rfl
  · rw [xup_at]; show I3 m 5 = ty; rw [im, ← hI1]; simp [xup, va_up]
  · rw [xup_at]; show I3 m 6 = co; rw [im, ← hI1]; simp [xup, va_up]
  · rw [xup_at]; show I3 m 7 = id; rw [im, ← hI1]; simp [xup, va_up]
  · rw [xup_ne (by omega), e3 _ (by omega) (by omega)]
  · rw [xup_ne (by omega), e3 _ (by omega) (by omega)]
  · intro j hj; rw [frN _ (by omega)]; exact f1 j hj
  · intro k hk
    obtain ⟨n, v, h⟩ := f3 k hk
    exact ⟨n, v, h.kept (fun a h1 h2 => ⟨fr a (by omega), frN a (by omega)⟩)⟩
  · intro j hj; simp at hj
  · show xup N m 4 0 m 4 = 0
    rw [xup_at]; rfl
/-- at(k): the option, or null -/
def oref (N : xN) (m : Nat) (os : List Opt) (k : Int) : Nat := if 0 ≤ k ∧ k < os.length then N (m + 5) k.toNat else 0
theorem s_mat {k : Int} (h : MAt T I N m most g lat) (hk : xIn k) : Spec mX1_at 0 [.inr (.inr m), .inl k] z T I N 0 0 (xSame z T I N (some (.inr (.inr (oref N m g.2.2.2.2.1 k))))) := by
  obtain ⟨⟨a1, a2, a3, a4, a5, a6, a7, a8⟩, ⟨b1, b2, b3⟩, c1, c2, ⟨f, f1, f2, f3, f4⟩, l1⟩ := h
  refine Spec_of okX1_at (by decide) (by decide) (Nat.le_of_ble_eq_true rfl) fun Γ E D => ?_
  refine V_run D [] 1 rfl trivial ?_
  refine V_lt D 21 rfl rfl hk (fun q1 => ?_) (fun q1 => ?_)
  · refine V_run D [] 22 rfl trivial ?_
    exact V_aret D rfl rfl ⟨by unfold oref; rw [if_neg (by omega)], rfl, rfl, rfl, rfl⟩
  · refine V_run D [] 9 rfl ⟨a1, trivial⟩ ?_
    rw [a7]
    refine V_ige D 21 rfl rfl hk (by omega) (fun q2 => ?_) (fun q2 => ?_)
    · refine V_run D [] 22 rfl trivial ?_
      exact V_aret D rfl rfl ⟨by unfold oref; rw [if_neg (by omega)], rfl, rfl, rfl, rfl⟩
    · refine V_run D [] 22 rfl ⟨⟨3, Nat.le_refl _, most, by rw [a4]; exact a5, by omega, by omega⟩, a1, trivial⟩ ?_
      rw [a4]
      exact V_aret D rfl rfl ⟨by unfold oref; rw [if_pos (by omega)], rfl, rfl, rfl, rfl⟩
/-- the first option with a number: its place -/
def ofirst (n : Int) (os : List Opt) : Option Nat := os.findIdx? (fun q => q.1 == n)
end XM1
