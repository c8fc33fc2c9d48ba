/-! the law's walk: its first local, the script, stays where it is -/
def yLs (Γ : xG) (ls : Array Slot) (lv : xL) : Prop := xLs ls (gc Γ).maxLocals lv ∧ ∃ b : Nat, ls[0]? = some (.val (.ref b)) ∧ ga Γ = #[Value.ref b]
def VL (Γ : xG) (E : xE) (Q : State → Prop) (z : Nat) (T : xY) (I : xI) (N : xN) (ce sl pc : Nat) (lv : xL) (st : List xV) : Prop :=
  ∀ (H : Heap) (locs : List Loc) (ls : Array Slot), xR E z T I N H → va_S (fun q => E.2.2 ≤ q) (gs Γ).heap H locs → yLs Γ ls lv →
    W (gp Γ) (gl Γ) (ge Γ) (gR Γ) (gs Γ) (gm Γ) (ga Γ) (gb Γ) (gt Γ) (gc Γ) H locs ce sl Q (F0 (gm Γ) pc ls (st.map xv))
/-- an instruction that leaves the first local alone -/
def xns (i : Instr) : Bool := match i with
  | .istore_n k => decide (k.val ≠ 0)
  | .astore_n k => decide (k.val ≠ 0)
  | .lstore_n _ => false
  | .istore k => decide (k ≠ 0)
  | .astore k => decide (k ≠ 0)
  | .iinc k _ => decide (k ≠ 0)
  | _ => true
theorem yset_ok {Γ : xG} {ls : Array Slot} {lv : xL} {i : Nat} {v : xV} (h : yLs Γ ls lv) (hi : i < (gc Γ).maxLocals) (h0 : i ≠ 0) (hc : (xv v).category = 1) : ∃ ls', storeLocals ls i (xv v) = some ls' ∧ yLs Γ ls' (xset lv i v) := by
  obtain ⟨h1, b, h2, h3⟩ := h
  obtain ⟨ls', e, hl'⟩ := xset_ok (v := v) h1 hi hc
  refine ⟨ls', e, hl', b, ?_, h3⟩
  obtain ⟨ls2, e2, h9⟩ := lv_store1 (l := [(0, Value.ref b)]) (v := xv v) ⟨h1.1, h1.2.1, fun q hq => by rw [List.mem_singleton.mp hq]; exact h2⟩ hi hc
  cases Option.some.inj (e.symm.trans e2)
  refine h9.2.2 (0, Value.ref b) (List.mem_cons_of_mem _ (List.mem_filter.mpr ⟨List.mem_singleton.mpr rfl, ?_⟩))
  simp only [Bool.and_eq_true, Bool.not_eq_true', beq_eq_false_iff_ne, ne_eq, Bool.and_eq_false_iff]
  exact ⟨fun q => h0 q.symm, Or.inr (by show ¬ (1 : Nat) = 2; decide)⟩
section XLWalk
variable {Γ : xG} {E : xE} {M : xM} {T : xY} {I : xI} {N : xN} {z : Nat} {ce sl pc : Nat} {Q : State → Prop} {lv : xL} {st : List xV}
set_option maxHeartbeats 4000000 in
theorem VL_2 (C : xC Γ E M) {len : Nat} {i : Instr} {P : Option Prop} {g : xF} (hd : decode M.2.1 pc = .ok (i, len)) (hnz : xns i = true) (h : xs2 M T pc lv st I N len i = some (P, g)) (hP : xp P) (k : VL Γ E Q z T g.2.2.2.1 g.2.2.2.2 ce sl g.1 g.2.1 g.2.2.1) : VL Γ E Q z T I N ce sl pc lv st := by
  intro H locs ls hR hS hl
  obtain ⟨⟨hx, hb, hr, hml, hown, hlocks, hname⟩, -, ho, hK, hW, hX, hz⟩ := id C
  unfold xs2 at h
  split at h
  · rename_i hlen
    subst hlen
    split at h
    · cases h; exact lv_iconst hx hb hd rfl (k H locs ls hR hS hl)
    · cases h; exact lv_lconst hx hb hd (by rw [← Int64.ofInt_eq_ofNat]) (k H locs ls hR hS hl)
    · cases h; exact lv_null hx hb hd (k H locs ls hR hS hl)
    · split at h
      · rename_i x hx1; cases h; exact lv_iload_n hx hb hd rfl (hl.1.2.2 _ _ hx1) (k H locs ls hR hS hl)
      · cases h
    · split at h
      · rename_i x hx1; cases h; exact lv_lload_n hx hb hd rfl (hl.1.2.2 _ _ hx1) (k H locs ls hR hS hl)
      · cases h
    · split at h
      · rename_i x hx1; cases h; exact ws_aload_n hx hb hd (hl.1.2.2 _ _ hx1) (k H locs ls hR hS hl)
      · cases h
    · split at h
      · rename_i hk
        obtain ⟨x, r, rfl, h⟩ := xi1_some h
        cases h
        obtain ⟨ls', e, hl'⟩ := yset_ok (v := .inl x) hl (hml ▸ hk) (of_decide_eq_true hnz) rfl
        exact ws_istore_n hx hb hd e (k H locs ls' hR hS hl')
      · cases h
    · split at h
      · rename_i hk
        obtain ⟨x, r, rfl, h⟩ := xa1_some h
        cases h
        obtain ⟨ls', e, hl'⟩ := yset_ok (v := .inr (.inr x)) hl (hml ▸ hk) (of_decide_eq_true hnz) (xr_cat x)
        exact ws_astore_n hx hb hd e (k H locs ls' hR hS hl')
      · cases h
    · split at h
      · rename_i hk
        obtain ⟨x, r, rfl, h⟩ := xl1_some h
        cases h
        exact absurd hnz (by simp [xns])
      · cases h
    · obtain ⟨x, y, r, rfl, h⟩ := xi2_some h; cases h
      refine lv_iadd hx hb hd ?_
      rw [← Int32.ofInt_add]; exact k H locs ls hR hS hl
    · obtain ⟨x, y, r, rfl, h⟩ := xi2_some h; cases h
      refine lv_isub hx hb hd ?_
      rw [← Int32.ofInt_sub]; exact k H locs ls hR hS hl
    · obtain ⟨x, y, r, rfl, h⟩ := xi2_some h; cases h
      refine lv_imul hx hb hd ?_
      rw [← Int32.ofInt_mul]; exact k H locs ls hR hS hl
    · obtain ⟨x, r, rfl, h⟩ := xi1_some h; cases h
      refine lv_ineg hx hb hd ?_
      rw [← Int32.ofInt_neg]; exact k H locs ls hR hS hl
    · obtain ⟨x, y, r, rfl, h⟩ := xi2_some h; cases h
      refine lv_iand hx hb hd ?_
      rw [← zAnd_of]; exact k H locs ls hR hS hl
    · obtain ⟨x, y, r, rfl, h⟩ := xi2_some h; cases h
      refine lv_ishl hx hb hd ?_
      rw [← zShl_of]; exact k H locs ls hR hS hl
    · obtain ⟨x, y, r, rfl, h⟩ := xi2_some h; cases h
      refine lv_ishr hx hb hd ?_
      rw [← zShr_of]; exact k H locs ls hR hS hl
    · obtain ⟨x, y, r, rfl, h⟩ := xi2_some h; cases h
      exact lv_iushr hx hb hd (zUsh_of x y).symm (k H locs ls hR hS hl)
    · obtain ⟨x, y, r, rfl, h⟩ := xi2_some h; cases h
      obtain ⟨e1, e2, e3⟩ := xdiv32 (And.left hP) (And.right hP)
      refine lv_idiv hx hb hd e3 ?_
      rw [e1]; exact k H locs ls hR hS hl
    · obtain ⟨x, y, r, rfl, h⟩ := xi2_some h; cases h
      obtain ⟨e1, e2, e3⟩ := xdiv32 (And.left hP) (And.right hP)
      refine lv_irem hx hb hd e3 ?_
      rw [e2]; exact k H locs ls hR hS hl
    · obtain ⟨x, y, r, rfl, h⟩ := xl2_some h; cases h
      refine lv_ladd hx hb hd ?_
      rw [← Int64.ofInt_add]; exact k H locs ls hR hS hl
    · obtain ⟨x, y, r, rfl, h⟩ := xl2_some h; cases h
      refine lv_lmul hx hb hd ?_
      rw [← Int64.ofInt_mul]; exact k H locs ls hR hS hl
    · obtain ⟨x, y, r, rfl, h⟩ := xl2_some h; cases h
      refine lv_land hx hb hd ?_
      rw [← zLand_of]; exact k H locs ls hR hS hl
    · obtain ⟨x, y, r, rfl, h⟩ := xl2_some h; cases h
      refine lv_lor hx hb hd ?_
      rw [← zLor_of]; exact k H locs ls hR hS hl
    · obtain ⟨x, y, r, rfl, h⟩ := xl2_some h; cases h
      obtain ⟨e1, e2, e3⟩ := xdiv64 (And.left hP) (And.right hP)
      refine lv_ldiv hx hb hd e3 ?_
      rw [e1]; exact k H locs ls hR hS hl
    · obtain ⟨x, y, r, rfl, h⟩ := xl2_some h; cases h
      obtain ⟨e1, e2, e3⟩ := xdiv64 (And.left hP) (And.right hP)
      refine lv_lrem hx hb hd e3 ?_
      rw [e2]; exact k H locs ls hR hS hl
    · obtain ⟨x, y, r, rfl, h⟩ := xil_some h; cases h
      exact lv_lshl hx hb hd (zLsh_of x y).symm (k H locs ls hR hS hl)
    · obtain ⟨x, y, r, rfl, h⟩ := xil_some h; cases h
      exact lv_lushr hx hb hd (zLus_of x y).symm (k H locs ls hR hS hl)
    · obtain ⟨x, y, r, rfl, h⟩ := xl2_some h; cases h
      refine W.lcmp hx hb hd ?_
      rw [← zCmp_of (And.left hP) (And.right hP)]; exact k H locs ls hR hS hl
    · obtain ⟨x, r, rfl, h⟩ := xi1_some h; cases h
      exact lv_i2l hx hb hd (by rw [← Int64.toInt_inj, Int32.toInt_toInt64, x32 (show xIn x from hP), x64 (by have hP : xIn x := hP; unfold xIl; unfold xIn at hP; omega)]) (k H locs ls hR hS hl)
    · obtain ⟨x, r, rfl, h⟩ := xl1_some h; cases h
      exact lv_l2i hx hb hd (Int64.toInt32_ofInt ..) (k H locs ls hR hS hl)
    · obtain ⟨x, r, rfl, h⟩ := xi1_some h; cases h
      exact lv_i2b hx hb hd (zB_of x).symm (k H locs ls hR hS hl)
    · split at h
      · cases h; exact lv_dup hx hb hd rfl (k H locs ls hR hS hl)
      · cases h; exact lv_dup hx hb hd (xr_cat _) (k H locs ls hR hS hl)
      · cases h
    · split at h
      · cases h; exact lv_dup2_11 hx hb hd rfl (xr_cat _) (k H locs ls hR hS hl)
      · cases h
    · obtain ⟨a, j, r, rfl, h⟩ := xia_some h; cases h
      obtain ⟨n, hT, h0, h1⟩ := hP
      obtain ⟨q1, q2, q3, q4, q5⟩ := hR.arr hT
      obtain ⟨i1, i2, i3⟩ := xidx h0 h1 q2
      show W _ _ _ _ _ _ _ _ _ _ _ _ _ _ _ (F0 _ _ _ (.int (Int32.ofInt j) :: xr a :: r.map xv))
      rw [xr_pos q5]
      exact W.iald hx hb q1 ((hK.arr q3).1 n _) (fun q => by cases q) (by rw [arrV_size]; exact i3) (by rw [i1]; exact arrV_read _ _ i2) rfl rfl hd (k H locs ls hR hS hl)
    · obtain ⟨a, j, r, rfl, h⟩ := xia_some h; cases h
      obtain ⟨n, hT, h0, h1⟩ := hP
      obtain ⟨q1, q2, q3, q4, q5⟩ := hR.arr hT
      obtain ⟨i1, i2, i3⟩ := xidx h0 h1 q2
      show W _ _ _ _ _ _ _ _ _ _ _ _ _ _ _ (F0 _ _ _ (.int (Int32.ofInt j) :: xr a :: r.map xv))
      rw [xr_pos q5]
      exact W.bald hx hb q1 ((hK.arr q3).1 n _) (fun q => by cases q) (by rw [arrV_size]; exact i3) (by rw [i1]; exact arrV_read _ _ i2) rfl rfl hd (k H locs ls hR hS hl)
    · obtain ⟨a, j, r, rfl, h⟩ := xia_some h; cases h
      obtain ⟨n, hT, h0, h1⟩ := hP
      obtain ⟨q1, q2, q3, q4, q5⟩ := hR.arr hT
      obtain ⟨i1, i2, i3⟩ := xidx h0 h1 q2
      show W _ _ _ _ _ _ _ _ _ _ _ _ _ _ _ (F0 _ _ _ (.int (Int32.ofInt j) :: xr a :: r.map xv))
      rw [xr_pos q5]
      exact W.lald hx hb q1 ((hK.arr q3).1 n _) (fun q => by cases q) (by rw [arrV_size]; exact i3) (by rw [i1]; exact arrV_read _ _ i2) rfl rfl hd (k H locs ls hR hS hl)
    · obtain ⟨a, j, r, rfl, h⟩ := xia_some h; cases h
      obtain ⟨kk, hk3, n, hT, h0, h1⟩ := hP
      obtain ⟨q1, q2, q3, q4, q5⟩ := hR.arr hT
      obtain ⟨i1, i2, i3⟩ := xidx h0 h1 q2
      show W _ _ _ _ _ _ _ _ _ _ _ _ _ _ _ (F0 _ _ _ (.int (Int32.ofInt j) :: xr a :: r.map xv))
      rw [xr_pos q5]
      have hav : ∀ (x : Int) (y : Nat), xav kk x y = xr y := fun x y => by unfold xav; rw [if_neg (by omega), if_neg (by omega)]
      have href : (xat kk).isReference = true := by
        rcases (by omega : kk = 3 ∨ kk = 4 ∨ kk = 5 ∨ kk = 6) with h | h | h | h <;> subst h <;> rfl
      exact W.aald hx hb q1 ((hK.arr q3).1 n _) href (fun q => by cases q) (by rw [arrV_size]; exact i3) (by rw [i1, arrV_read _ _ i2, hav]; rfl) rfl rfl hd (k H locs ls hR hS hl)
    · obtain ⟨x, st', rfl, h⟩ := xi1_some h
      obtain ⟨a, j, r, rfl, h⟩ := xia_some h; cases h
      obtain ⟨n, hT, h0, h1⟩ := hP
      obtain ⟨q1, q2, q3, q4, q5⟩ := hR.arr hT
      obtain ⟨i1, i2, i3⟩ := xidx h0 h1 q2
      show W _ _ _ _ _ _ _ _ _ _ _ _ _ _ _ (F0 _ _ _ (.int (Int32.ofInt x) :: .int (Int32.ofInt j) :: xr a :: r.map xv))
      rw [xr_pos q5]
      refine W.iast hx hb q1 ((hK.arr q3).1 n _) (fun q => by cases q) (by rw [arrV_size]; exact i3) rfl rfl hd fun H' e1 e2 e3 => ?_
      obtain ⟨r1, r2⟩ := x_arr_put (Γ := Γ) (i := (Int32.ofInt j).toNatClampNeg) (I' := xup I a j.toNat x) (N' := N) (j := j.toNat) (v := .int (Int32.ofInt x)) hR hS hT (fun q hq => xup_ne hq) (fun q hq => rfl) (fun q => by rw [xup_at]; unfold va_up; by_cases hq : q = j.toNat <;> simp [hq, xav]) (by rw [← i1]; exact e1) e2 e3
      exact k H' _ ls r1 r2 hl
    · obtain ⟨x, st', rfl, h⟩ := xi1_some h
      obtain ⟨a, j, r, rfl, h⟩ := xia_some h; cases h
      obtain ⟨n, hT, h0, h1⟩ := hP
      obtain ⟨q1, q2, q3, q4, q5⟩ := hR.arr hT
      obtain ⟨i1, i2, i3⟩ := xidx h0 h1 q2
      show W _ _ _ _ _ _ _ _ _ _ _ _ _ _ _ (F0 _ _ _ (.int (Int32.ofInt x) :: .int (Int32.ofInt j) :: xr a :: r.map xv))
      rw [xr_pos q5]
      refine W.bast hx hb q1 ((hK.arr q3).1 n _) (fun q => by cases q) (by rw [arrV_size]; exact i3) rfl rfl hd fun H' e1 e2 e3 => ?_
      obtain ⟨r1, r2⟩ := x_arr_put (Γ := Γ) (i := (Int32.ofInt j).toNatClampNeg) (I' := xup I a j.toNat (zB x)) (N' := N) (j := j.toNat) (v := narrow .byte (.int (Int32.ofInt x))) hR hS hT (fun q hq => xup_ne hq) (fun q hq => rfl) (fun q => by rw [xup_at]; unfold va_up; by_cases hq : q = j.toNat <;> simp [hq, xav, narrow, zB_of]) (by rw [← i1]; exact e1) e2 e3
      exact k H' _ ls r1 r2 hl
    · obtain ⟨x, st', rfl, h⟩ := xl1_some h
      obtain ⟨a, j, r, rfl, h⟩ := xia_some h; cases h
      obtain ⟨n, hT, h0, h1⟩ := hP
      obtain ⟨q1, q2, q3, q4, q5⟩ := hR.arr hT
      obtain ⟨i1, i2, i3⟩ := xidx h0 h1 q2
      show W _ _ _ _ _ _ _ _ _ _ _ _ _ _ _ (F0 _ _ _ (.long (Int64.ofInt x) :: .int (Int32.ofInt j) :: xr a :: r.map xv))
      rw [xr_pos q5]
      refine W.last hx hb q1 ((hK.arr q3).1 n _) (fun q => by cases q) (by rw [arrV_size]; exact i3) rfl rfl hd fun H' e1 e2 e3 => ?_
      obtain ⟨r1, r2⟩ := x_arr_put (Γ := Γ) (i := (Int32.ofInt j).toNatClampNeg) (I' := xup I a j.toNat x) (N' := N) (j := j.toNat) (v := .long (Int64.ofInt x)) hR hS hT (fun q hq => xup_ne hq) (fun q hq => rfl) (fun q => by rw [xup_at]; unfold va_up; by_cases hq : q = j.toNat <;> simp [hq, xav]) (by rw [← i1]; exact e1) e2 e3
      exact k H' _ ls r1 r2 hl
    · obtain ⟨x, st', rfl, h⟩ := xa1_some h
      obtain ⟨a, j, r, rfl, h⟩ := xia_some h; cases h
      obtain ⟨kk, hk3, ⟨n, hT, h0, h1⟩, hTx⟩ := hP
      obtain ⟨q1, q2, q3, q4, q5⟩ := hR.arr hT
      obtain ⟨i1, i2, i3⟩ := xidx h0 h1 q2
      obtain ⟨hc, ⟨cellV, g1, g2, g3, -⟩, -, hxp⟩ := hR.obj hTx
      show W _ _ _ _ _ _ _ _ _ _ _ _ _ _ _ (F0 _ _ _ (xr x :: .int (Int32.ofInt j) :: xr a :: r.map xv))
      rw [xr_pos q5, xr_pos hxp]
      have hav : ∀ (x : Int) (y : Nat), xav kk x y = xr y := fun x y => by unfold xav; rw [if_neg (by omega), if_neg (by omega)]
      have hcls := (hK.cls hc).2
      have hra : ∃ (kA : Class) (comp : ClassId), (gs Γ).vm.classes[E.2.1 kk]? = some kA ∧ kA.kind = .array comp (xat kk) ∧ (gs Γ).vm.findClass (xRn (xec kk)) = some comp ∧ (xat kk).isReference = true := by
        have h9 := (hK.arr q3).2
        rcases (by omega : kk = 3 ∨ kk = 4 ∨ kk = 5 ∨ kk = 6) with h | h | h | h <;> subst h <;> (obtain ⟨kA, comp, k1, k2, k3, -⟩ := h9; exact ⟨kA, comp, k1, k2, k3, rfl⟩)
      obtain ⟨kA, comp, k1, k2, k3, k4⟩ := hra
      have hcomp : comp = E.1.1 (xec kk) := Option.some.inj (k3.symm.trans hcls.1)
      subst hcomp
      obtain ⟨kC, hkC, hkd⟩ := hcls.2
      refine W.aast hx hb q1 (fun q h => by cases h) (fun h => by cases h) k1 k2 k4 hkC ⟨fun h => i3 (Or.inl h), by rw [arrV_size, i1]; exact i2⟩ g1 (fun q h => by rw [g3] at h; cases h) (by rw [g2]; exact hkC) (by rw [g2]; exact va_assign hcls) rfl rfl hd fun H' e1 e2 e3 => ?_
      obtain ⟨r1, r2⟩ := x_arr_put (Γ := Γ) (i := (Int32.ofInt j).toNatClampNeg) (I' := I) (N' := xup N a j.toNat x) (j := j.toNat) (v := .ref x) hR hS hT (fun q hq => rfl) (fun q hq => xup_ne hq) (fun q => by rw [hav, hav, xup_at]; unfold va_up; by_cases hq : q = j.toNat <;> simp [hq, xr_pos hxp]) (by rw [← i1]; exact e1) e2 e3
      exact k H' _ ls r1 r2 hl
    · obtain ⟨a, r, rfl, h⟩ := xa1_some h; cases h
      obtain ⟨kk, n, hT⟩ := hP
      obtain ⟨q1, q2, q3, q4, q5⟩ := hR.arr hT
      show W _ _ _ _ _ _ _ _ _ _ _ _ _ _ _ (F0 _ _ _ (xr a :: r.map xv))
      rw [xr_pos q5]
      have hlen : xlen T a = n := by unfold xlen; rw [hT]
      rw [hlen] at k
      exact W.alen (n := Int32.ofInt (n : Int)) hx hb q1 ((hK.arr q3).1 n _) (by rw [arrV_size]; exact Int32.ofInt_eq_ofNat.symm) rfl rfl hd (k H locs ls hR hS hl)
    · cases h
  · split at h
    · rename_i hlen
      subst hlen
      split at h
      · split at h
        · rename_i hn
          cases h
          exact lv_bipush hx hb hd (by rw [← Int32.toInt_inj, Int8.toInt_toInt32, Int8.toInt_ofInt_of_le (by omega) (by omega), x32 (by unfold xIn; omega)]) (k H locs ls hR hS hl)
        · cases h
      · split at h
        · rename_i x hx1; cases h
          exact lv_ldc hx hb hown (hW.use (xcr_in _ (List.mem_range.mpr ho) _ (xlook2 hx1)) rfl) hd (k H locs ls hR hS hl)
        · cases h
      · split at h
        · rename_i x hx1; cases h; exact lv_iload hx hb hd (hl.1.2.2 _ _ hx1) (k H locs ls hR hS hl)
        · cases h
      · split at h
        · rename_i x hx1; cases h; exact lv_lload hx hb hd (hl.1.2.2 _ _ hx1) (k H locs ls hR hS hl)
        · cases h
      · split at h
        · rename_i x hx1; cases h; exact ws_aload hx hb hd (hl.1.2.2 _ _ hx1) (k H locs ls hR hS hl)
        · cases h
      · split at h
        · rename_i hk
          obtain ⟨x, r, rfl, h⟩ := xi1_some h
          cases h
          obtain ⟨ls', e, hl'⟩ := yset_ok (v := .inl x) hl (hml ▸ hk) (of_decide_eq_true hnz) rfl
          exact ws_istore hx hb hd e (k H locs ls' hR hS hl')
        · cases h
      · split at h
        · rename_i hk
          obtain ⟨x, r, rfl, h⟩ := xa1_some h
          cases h
          obtain ⟨ls', e, hl'⟩ := yset_ok (v := .inr (.inr x)) hl (hml ▸ hk) (of_decide_eq_true hnz) (xr_cat x)
          exact ws_astore hx hb hd e (k H locs ls' hR hS hl')
        · cases h
      · cases h
    · split at h
      · rename_i hlen
        subst hlen
        split at h
        · split at h
          · rename_i hn
            cases h
            exact lv_sipush hx hb hd (by rw [← Int32.toInt_inj, Int16.toInt_toInt32, Int16.toInt_ofInt_of_le (by omega) (by omega), x32 (by unfold xIn; omega)]) (k H locs ls hR hS hl)
          · cases h
        · split at h
          · rename_i x hx1; cases h
            exact lv_ldc2 hx hb hown (hW.use (xlr_in _ (List.mem_range.mpr ho) _ (xlook2 hx1)) rfl) hd (k H locs ls hR hS hl)
          · cases h
        · split at h
          · rename_i hk
            split at h
            · rename_i x hx1
              cases h
              obtain ⟨ls', e, hl'⟩ := yset_ok (v := .inl (x + _)) hl (hml ▸ hk) (of_decide_eq_true hnz) rfl
              refine ws_iinc hx hb hd (hl.1.2.2 _ _ hx1) ?_ (k H locs ls' hR hS hl')
              rw [← Int32.ofInt_add]; exact e
            · cases h
          · cases h
        · split at h
          · rename_i t ht
            cases h
            exact lv_goto hx hb hd ht (k H locs ls hR hS hl)
          · cases h
        · split at h
          · rename_i c f b hf
            obtain ⟨a, r, rfl, h⟩ := xa1_some h; cases h
            refine x_getf C hR hf hP hd ?_
            have := k H locs ls hR hS hl
            rcases xfk_cases c f with h1 | h1 | h1 <;> rw [h1] at this ⊢ <;> exact this
          · cases h
        · split at h
          · rename_i c f b hf
            split at h
            · cases h
            · rename_i hfin
              have hfin : (xTT c f).2.2.2 = false := by simpa using hfin
              split at h
              · rename_i h1
                obtain ⟨x, st', rfl, h⟩ := xi1_some h
                obtain ⟨a, r, rfl, h⟩ := xa1_some h; cases h
                have h2 := x_putf (I' := xup I a f x) (N' := N) (v := x) (w := 0) (rest := r.map xv) (ls := ls) (pc := pc) C hR hS hf hfin hP hd (fun h => by rw [h1] at h; cases h) (fun q hq => xup_ne hq) (fun _ _ => rfl) (fun j hj => by rw [xup_at]; unfold va_up; rw [if_neg hj]) (fun _ _ => rfl) (fun _ => by rw [xup_at]; unfold va_up; rw [if_pos rfl]) (fun h => by rw [h1] at h; cases h) (fun H' locs' r1 r2 => k H' locs' ls r1 r2 hl)
                rw [h1] at h2
                exact h2
              · rename_i h1
                obtain ⟨x, st', rfl, h9⟩ := xa1_some h
                obtain ⟨a, r, rfl, h8⟩ := xa1_some h9; cases h8
                have h2 := x_putf (I' := I) (N' := xup N a f x) (v := 0) (w := x) (rest := r.map xv) (ls := ls) (pc := pc) C hR hS hf hfin hP hd (fun h => by rw [h1] at h; cases h) (fun _ _ => rfl) (fun q hq => xup_ne hq) (fun _ _ => rfl) (fun j hj => by rw [xup_at]; unfold va_up; rw [if_neg hj]) (fun h => absurd h1 h) (fun _ => by rw [xup_at]; unfold va_up; rw [if_pos rfl]) (fun H' locs' r1 r2 => k H' locs' ls r1 r2 hl)
                rw [h1] at h2
                exact h2
              · rename_i h0 h1
                obtain ⟨x, st', rfl, h⟩ := xi1_some h
                obtain ⟨a, r, rfl, h⟩ := xa1_some h; cases h
                have hk2 : xfk c f = 2 := by
                  rcases xfk_cases c f with h | h | h
                  · exact absurd h h0
                  · exact absurd h h1
                  · exact h
                have h2 := x_putf (I' := xup I a f x) (N' := N) (v := x) (w := 0) (rest := r.map xv) (ls := ls) (pc := pc) C hR hS hf hfin (And.left hP) hd (fun _ => And.right hP) (fun q hq => xup_ne hq) (fun _ _ => rfl) (fun j hj => by rw [xup_at]; unfold va_up; rw [if_neg hj]) (fun _ _ => rfl) (fun _ => by rw [xup_at]; unfold va_up; rw [if_pos rfl]) (fun h => by rw [hk2] at h; cases h) (fun H' locs' r1 r2 => k H' locs' ls r1 r2 hl)
                rw [hk2] at h2
                exact h2
          · cases h
        · cases h
      · cases h
theorem xLgo_ok (C : xC Γ E M) (hall : ∀ e ∈ M.2.2.2.2.2, xns e.2.1 = true) (stop : List Nat) : ∀ (n : Nat) (P0 : Prop) (pc : Nat) (lv : xL) (st : List xV) (I : xI) (N : xN) (P : Prop) (g : xF), xgo M T stop n P0 pc lv st I N = some (P, g) → P → P0 ∧ (VL Γ E Q z T g.2.2.2.1 g.2.2.2.2 ce sl g.1 g.2.1 g.2.2.1 → VL Γ E Q z T I N ce sl pc lv st)
  | 0, P0, pc, lv, st, I, N, P, g, h, hP => by
    cases h
    exact ⟨hP, id⟩
  | n + 1, P0, pc, lv, st, I, N, P, g, h, hP => by
    unfold xgo at h
    split at h
    · cases h; exact ⟨hP, id⟩
    · rename_i i len hf
      split at h
      · cases h; exact ⟨hP, id⟩
      · rename_i pc' lv' st' I' N' h1
        split at h
        · cases h
          exact ⟨hP, fun k => VL_2 C (C.dec hf) (hall _ (xlook hf)) h1 trivial k⟩
        · obtain ⟨h3, h4⟩ := xLgo_ok C hall stop n P0 pc' lv' st' I' N' P g h hP
          exact ⟨h3, fun k => VL_2 C (C.dec hf) (hall _ (xlook hf)) h1 trivial (h4 k)⟩
      · rename_i p pc' lv' st' I' N' h1
        split at h
        · cases h
          exact ⟨hP.2, fun k => VL_2 C (C.dec hf) (hall _ (xlook hf)) h1 hP.1 k⟩
        · obtain ⟨⟨h2, h3⟩, h4⟩ := xLgo_ok C hall stop n (p ∧ P0) pc' lv' st' I' N' P g h hP
          exact ⟨h3, fun k => VL_2 C (C.dec hf) (hall _ (xlook hf)) h1 h2 (h4 k)⟩
theorem VL_go (C : xC Γ E M) (hall : ∀ e ∈ M.2.2.2.2.2, xns e.2.1 = true) (stop : List Nat) (pc' : Nat) {P : Prop} {lv' : xL} {st' : List xV} {I' : xI} {N' : xN} (h : xgo M T stop 90 True pc lv st I N = some (P, pc', lv', st', I', N')) (hP : P) (k : VL Γ E Q z T I' N' ce sl pc' lv' st') : VL Γ E Q z T I N ce sl pc lv st :=
  (xLgo_ok C hall stop 90 True _ _ _ _ _ P _ h hP).2 k
end XLWalk
def xDL (Γ : xG) (E : xE) (M : xM) (lev mc ms : Nat) : Prop := xD Γ E M lev mc ms ∧ (∀ e ∈ M.2.2.2.2.2, xns e.2.1 = true) ∧ xStr (gs Γ) ∧ xCa (gs Γ) ∧ (gl Γ).stackTraces = false
theorem nIi (i : Nat) : nI i = Int32.ofInt (i : Int) := Int32.ofInt_eq_ofNat.symm
theorem vpin {i L : Nat} (h : i < L) (hL : L ≤ 3584) : vp_in (nI i) L := by
  obtain ⟨i1, i2, i3⟩ := xidx (i := (i : Int)) (n := L) (by omega) (by omega) (by omega)
  rw [nIi]; exact i3
theorem nItn {i L : Nat} (h : i < L) (hL : L ≤ 3584) : (nI i).toNatClampNeg = i := by
  obtain ⟨i1, i2, i3⟩ := xidx (i := (i : Int)) (n := L) (by omega) (by omega) (by omega)
  rw [nIi]; rw [Int.toNat_natCast] at i1; exact i1
theorem nIadd {i j : Nat} : nI i + nI j = nI (i + j) := (Int32.ofNat_add i j).symm
section XLRules
variable {Γ : xG} {E : xE} {M M' : xM} {T : xY} {I : xI} {N : xN} {z : Nat} {ce sl pc lev lev' mc ms mc' ms' n idx : Nat} {Q : State → Prop} {lv : xL} {st : List xV} {post post' : xPo} {av : List xV} {hh : xHH}
theorem VL_run (D : xDL Γ E M lev mc ms) (stop : List Nat) (pc' : Nat) {P : Prop} {lv' : xL} {st' : List xV} {I' : xI} {N' : xN} (h : xgo M T stop 90 True pc lv st I N = some (P, pc', lv', st', I', N')) (hP : P) (k : VL Γ E Q z T I' N' ce sl pc' lv' st') : VL Γ E Q z T I N ce sl pc lv st := VL_go D.1.1 D.2.1 stop pc' h hP k
theorem VL_wide {k n : Nat} (h1 : ce ≤ k) (h2 : sl ≤ n) (h : VL Γ E Q z T I N k n pc lv st) : VL Γ E Q z T I N ce sl pc lv st := fun H locs ls hR hS hl => W.widen h1 h2 (h H locs ls hR hS hl)
theorem VL_lv {lv' : xL} (hl : ∀ i v, lv' i = some v → lv i = some v) (h : VL Γ E Q z T I N ce sl pc lv' st) : VL Γ E Q z T I N ce sl pc lv st := fun H locs ls hR hS hls => h H locs ls hR hS ⟨⟨hls.1.1, hls.1.2.1, fun i v hi => hls.1.2.2 i v (hl i v hi)⟩, hls.2⟩
theorem VL_loc (l : List (Option xV)) (h : xmk lv 0 l = l) (k : VL Γ E Q z T I N ce sl pc (xlv l) st) : VL Γ E Q z T I N ce sl pc lv st :=
  VL_lv (fun i v hi => by have := xmk_ok lv l 0 h i v hi; rwa [Nat.zero_add] at this) k
theorem VL_eq (D : xD Γ E M lev mc ms) (tgt : Nat) {off : Int} {x : Int} (h : xfe M pc = some (.ifCond .eq off, 3)) (ht : (pc : Int) + off = (tgt : Int)) (hx : xIn x) (kt : x = 0 → VL Γ E Q z T I N ce sl tgt lv st) (kf : ¬ (x = 0) → VL Γ E Q z T I N ce sl (pc + 3) lv st) : VL Γ E Q z T I N ce sl pc lv (.inl x :: st) := by
  intro H locs ls hR hS hl
  have e : (Int32.ofInt x = 0) ↔ (x = 0) := by rw [← Int32.toInt_inj, x32 hx, Int32.toInt_zero]
  exact lv_if_eq D.1.1.1 D.1.1.2.1 (D.1.dec h) ht (fun c => kt (e.mp c) H locs ls hR hS hl) (fun c => kf (fun q => c (e.mpr q)) H locs ls hR hS hl)
theorem VL_ieq (D : xD Γ E M lev mc ms) (tgt : Nat) {off : Int} {x y : Int} (h : xfe M pc = some (.if_icmp .eq off, 3)) (ht : (pc : Int) + off = (tgt : Int)) (hx : xIn x) (hy : xIn y) (kt : x = y → VL Γ E Q z T I N ce sl tgt lv st) (kf : ¬ (x = y) → VL Γ E Q z T I N ce sl (pc + 3) lv st) : VL Γ E Q z T I N ce sl pc lv (.inl y :: .inl x :: st) := by
  intro H locs ls hR hS hl
  have e : (Int32.ofInt x = Int32.ofInt y) ↔ (x = y) := by rw [← Int32.toInt_inj, x32 hx, x32 hy]
  exact lv_icmp_eq D.1.1.1 D.1.1.2.1 (D.1.dec h) ht (fun c => kt (e.mp c) H locs ls hR hS hl) (fun c => kf (fun q => c (e.mpr q)) H locs ls hR hS hl)
theorem VL_ne (D : xD Γ E M lev mc ms) (tgt : Nat) {off : Int} {x : Int} (h : xfe M pc = some (.ifCond .ne off, 3)) (ht : (pc : Int) + off = (tgt : Int)) (hx : xIn x) (kt : ¬ x = 0 → VL Γ E Q z T I N ce sl tgt lv st) (kf : x = 0 → VL Γ E Q z T I N ce sl (pc + 3) lv st) : VL Γ E Q z T I N ce sl pc lv (.inl x :: st) := by
  intro H locs ls hR hS hl
  have e : (Int32.ofInt x = 0) ↔ (x = 0) := by rw [← Int32.toInt_inj, x32 hx, Int32.toInt_zero]
  exact lv_if_ne D.1.1.1 D.1.1.2.1 (D.1.dec h) ht (fun c => kt (fun q => c (e.mpr q)) H locs ls hR hS hl) (fun c => kf (e.mp c) H locs ls hR hS hl)
theorem VL_igt (D : xD Γ E M lev mc ms) (tgt : Nat) {off : Int} {x y : Int} (h : xfe M pc = some (.if_icmp .gt off, 3)) (ht : (pc : Int) + off = (tgt : Int)) (hx : xIn x) (hy : xIn y) (kt : y < x → VL Γ E Q z T I N ce sl tgt lv st) (kf : ¬ (y < x) → VL Γ E Q z T I N ce sl (pc + 3) lv st) : VL Γ E Q z T I N ce sl pc lv (.inl y :: .inl x :: st) := by
  intro H locs ls hR hS hl
  have e : (Int32.ofInt y < Int32.ofInt x) ↔ (y < x) := by rw [Int32.lt_iff_toInt_lt, x32 hx, x32 hy]
  exact lv_icmp_gt D.1.1.1 D.1.1.2.1 (D.1.dec h) ht (fun c => kt (e.mp c) H locs ls hR hS hl) (fun c => kf (fun q => c (e.mpr q)) H locs ls hR hS hl)
theorem xL_after {H : Heap} {locs L : List Loc} {ls : Array Slot} {p : Program} {T9 : State} {r : Option xV} (hk : ∀ r z' T' I' N', post' r z' T' I' N' → VL Γ E Q z' T' I' N' (ce + mc') (sl + ms') (pc + 3) lv (r.toList ++ st))
    (hS : va_S (fun q => E.2.2 ≤ q) (gs Γ).heap H locs) (hl : yLs Γ ls lv) {v : Option Value} {st₀ t T' : State} (h0 : st₀.heap = H) (hL : ∀ q ∈ L, E.2.2 ≤ q.base) (e1 : T'.heap = t.heap) (hq : xPost E post' (ga Γ) st₀ (.returned v) t) (X' : Stand (gp Γ) (gl Γ) (ge Γ) (gR Γ) (gs Γ) (gm Γ) (ga Γ) (gb Γ) (gt Γ) (gc Γ) T' (locs ++ L) (ce + mc') (sl + ms')) :
    ∃ t2, Steps (gp Γ).tables (ge Γ) (gb Γ) (T'.setTop (F0 (gm Γ) (pc + 3) ls (v.toList ++ st.map xv))) t2 ∧ Q t2 := by
  obtain ⟨⟨r, z', T1, I1, N1, ev, hp, hR'⟩, hF⟩ := hq
  have hv : v = r.map xv := by injection ev
  subst hv
  obtain ⟨hz, hkp⟩ := hF
  rw [h0] at hz hkp
  have h2 := hk r z' T1 I1 N1 hp T'.heap (locs ++ L) ls (by rw [e1]; exact hR')
    ⟨Nat.le_trans hS.1 (by rw [e1]; exact hz), fun q g1 g2 => by rw [e1, hkp q (Nat.lt_of_lt_of_le g1 hS.1) g2]; exact hS.2.1 q g1 g2, fun q hq => by
      rcases List.mem_append.mp hq with h | h
      · exact hS.2.2 q h
      · exact hL q h⟩ hl T' rfl X'
  have e2 : (r.toList ++ st).map xv = (r.map xv).toList ++ st.map xv := by cases r <;> simp
  rw [e2] at h2
  exact h2
theorem VL_callV (D : xD Γ E M lev mc ms) (hm : xMv M' n) (hf : xfe M pc = some (.invokevirtual idx, 3)) (hlk : Cond.methodLink (xRn M.2.2.2.2.1) idx M'.1 ∈ lw_tbl) {a : Nat} (hS : Spec M' lev' (.inr (.inr a) :: av) z T I N mc' ms' post') (hT : T a = some (.inr M'.2.2.2.2.1))
    (hr : (Nat.blt lev' lev && av.length.beq n && (xwd st).ble 8) = true) (hc : ce + mc' ≤ mc ∧ sl + ms' ≤ ms) (k : ∀ r z' T' I' N', post' r z' T' I' N' → VL Γ E Q z' T' I' N' (ce + mc') (sl + ms') (pc + 3) lv (r.toList ++ st)) : VL Γ E Q z T I N ce sl pc lv (av.reverse ++ .inr (.inr a) :: st) := by
  intro H locs ls hR hSS hl
  simp only [Bool.and_eq_true] at hr
  obtain ⟨⟨hr1, hr2⟩, hr3⟩ := hr
  have hr1 : lev' < lev := Nat.le_of_ble_eq_true hr1
  have hr2 : av.length = n := Nat.eq_of_beq_eq_true hr2
  have hr3 : xwd st ≤ 8 := Nat.le_of_ble_eq_true hr3
  obtain ⟨⟨hx, hb, -, hml, hown, -⟩, -, ho, hK, hW, hX, hz⟩ := id D.1
  obtain ⟨-, ⟨cell, q1, q2, q3, -⟩, -, hpos⟩ := hR.obj hT
  have hc11 := hm.2.2.2
  have hp : PreV (gs Γ) H (xRn M'.2.2.2.2.1) a (va_Pc ((.inr (.inr a) :: av : List xV).map xv) (xPre E z T I N)) (av.map xv) := by
    refine ⟨xPre.blind, ⟨cell, q1, by rw [q3]; rfl, by rw [q2]; exact (hK.cls hc11).2.1⟩, ?_⟩
    have h1 := x_pre D.1 hR hSS (avv := (.inr (.inr a) :: av : List xV).map xv)
    have e : (Value.ref a :: av.map xv) = (.inr (.inr a) :: av : List xV).map xv := by show _ = xr a :: _; rw [xr_pos hpos]
    rw [e]
    exact h1
  have cw : CallW (gR Γ) (gs Γ) (ga Γ) (xRn M.2.2.2.2.1) (xRn M'.2.2.2.2.1) idx M'.1 M'.2.1 M'.2.2.1 M'.2.2.2.1 (xws M') (xRm lev' mc' ms') mc' ms' n :=
    ⟨x_cb D hm.1 (hW.use hlk rfl) hr1, hW.use hm.2.1 rfl, by rw [hm.1.2.2.2.2.2.1]; exact hW.use hm.2.2.1 rfl⟩
  have run := va_runV (e := ge Γ) (below := gb Γ) (meth := gt Γ) (locs := locs) (cells := ce) (slots := sl) (g := F0 (gm Γ) pc ls ((av.reverse ++ .inr (.inr a) :: st).map xv)) (rest := st.map xv) (Ts := []) ⟨hx, hb, hml, hown, fun _ h => nomatch h⟩ (hS (gl Γ) E) cw hp rfl (by rw [List.length_map]; exact hr2) (hl.1.1.trans hml) (by rw [List.map_append, List.map_reverse]; show _ ++ xr a :: _ = _; rw [xr_pos hpos]) (lv_room (by rw [xwd_sum]; exact hr3)) (D.1.dec hf) (by rw [D.2]; exact hc)
  intro T9 hT9 X
  obtain ⟨v, st₀, t, T', L, h0, X', hL, e1, e2, hq, st9⟩ := run T9 hT9 X
  obtain ⟨t2, a1, b1⟩ := xL_after (p := gp Γ) (T9 := T9) (r := none) k hSS hl h0 hL e1 hq X'
  exact ⟨t2, st9 t2 a1, b1⟩
theorem VL_callI (D : xD Γ E M lev mc ms) (hm : xMi M' n) (hf : xfe M pc = some (.invokespecial idx, 3)) (hlk : Cond.methodLink (xRn M.2.2.2.2.1) idx M'.1 ∈ lw_tbl) {a : Nat} (ha : 0 < a) (hS : Spec M' lev' (.inr (.inr a) :: av) z T I N mc' ms' post')
    (hr : (Nat.blt lev' lev && av.length.beq n && (xwd st).ble 8) = true) (hc : ce + mc' ≤ mc ∧ sl + ms' ≤ ms) (k : ∀ r z' T' I' N', post' r z' T' I' N' → VL Γ E Q z' T' I' N' (ce + mc') (sl + ms') (pc + 3) lv (r.toList ++ st)) : VL Γ E Q z T I N ce sl pc lv (av.reverse ++ .inr (.inr a) :: st) := by
  intro H locs ls hR hSS hl
  simp only [Bool.and_eq_true] at hr
  obtain ⟨⟨hr1, hr2⟩, hr3⟩ := hr
  have hr1 : lev' < lev := Nat.le_of_ble_eq_true hr1
  have hr2 : av.length = n := Nat.eq_of_beq_eq_true hr2
  have hr3 : xwd st ≤ 8 := Nat.le_of_ble_eq_true hr3
  obtain ⟨⟨hx, hb, -, hml, hown, -⟩, -, ho, hK, hW, hX, hz⟩ := id D.1
  have e : (Value.ref a :: av.map xv) = (.inr (.inr a) :: av : List xV).map xv := by show _ = xr a :: _; rw [xr_pos ha]
  have hp : PreS (gs Γ) H (va_Pc ((.inr (.inr a) :: av : List xV).map xv) (xPre E z T I N)) (Value.ref a :: av.map xv) := ⟨xPre.blind, by rw [e]; exact x_pre D.1 hR hSS⟩
  have cb := x_cb (mc' := mc') (ms' := ms') D hm.1 (hW.use hlk rfl) hr1
  rw [hm.2.2.2] at cb
  have run := va_runI (e := ge Γ) (below := gb Γ) (meth := gt Γ) (locs := locs) (cells := ce) (slots := sl) (g := F0 (gm Γ) pc ls ((av.reverse ++ .inr (.inr a) :: st).map xv)) (rest := st.map xv) (Ts := []) ⟨hx, hb, hml, hown, fun _ h => nomatch h⟩ (hS (gl Γ) E) ⟨cb, hm.2.2.1, hW.use hm.2.1 rfl⟩ hp rfl (by rw [List.length_map]; exact hr2) (hl.1.1.trans hml) (by rw [List.map_append, List.map_reverse]; show _ ++ xr a :: _ = _; rw [xr_pos ha]) (lv_room (by rw [xwd_sum]; exact hr3)) (D.1.dec hf) (by rw [D.2]; exact hc)
  intro T9 hT9 X
  obtain ⟨v, st₀, t, T', L, h0, X', hL, e1, e2, hq, st9⟩ := run T9 hT9 X
  obtain ⟨t2, a1, b1⟩ := xL_after (p := gp Γ) (T9 := T9) (r := none) k hSS hl h0 hL e1 hq X'
  exact ⟨t2, st9 t2 a1, b1⟩
theorem VL_new (D : xD Γ E M lev mc ms) (c : Nat) (hf : xfe M pc = some (.new idx, 3)) (hlk : Cond.classLink (xRn M.2.2.2.2.1) idx (xRn c) ∈ lw_tbl) (hc : c < 11) (hm : ce + 1 ≤ mc ∧ sl + xNN c ≤ ms)
    (k : VL Γ E Q (z + 1) (va_up T z (some (.inr c))) (va_up I z (fun _ => 0)) (va_up N z (fun _ => 0)) (ce + 1) (sl + xNN c) (pc + 3) lv (.inr (.inr z) :: st)) : VL Γ E Q z T I N ce sl pc lv st := by
  intro H locs ls hR hSS hl
  obtain ⟨⟨hx, hb, -, hml, hown, -⟩, -, ho, hK, hW, hX, hz⟩ := id D.1
  have hKn := hK.cls hc
  have hin := xnew_in c (List.mem_range.mpr hc)
  have hz1 : 0 < z := Nat.lt_of_lt_of_le hR.2.2.1 hR.2.1
  refine W.newcK hx hb hown (hW.use hlk rfl) (hW.use hin.1 rfl) (hW.use hin.2 rfl) (g := F0 (gm Γ) pc ls (st.map xv)) rfl (D.1.dec hf) (by rw [D.2]; exact hm.1) (by rw [D.2]; exact hm.2) hKn.2.1 hR.1 fun H1 kC hkC e1 z1 o1 => ?_
  have h2 := k H1 locs ls (hR.grow z1 o1 ?_) ⟨Nat.le_trans hSS.1 (by rw [z1, hR.1]; omega), fun q h1 h2 => (o1 q (by rw [← hR.1]; exact Nat.lt_of_lt_of_le h1 hSS.1)).trans (hSS.2.1 q h1 h2), hSS.2.2⟩ hl
  · have e : xv (.inr (.inr z)) = .ref z := xr_pos hz1
    rw [List.map_cons, e] at h2
    exact h2
  · unfold xAt
    have e1' : va_up T z (some (.inr c)) z = some (.inr c) := by unfold va_up; rw [if_pos rfl]
    rw [e1']
    refine ⟨hc, (u_born (args := ga Γ) (xty c) (hW.us hc) (fun w h => h) hKn hkC e1 (xty_ok hc)).to fun j hj => ?_, hR.2.1⟩
    have e2 : va_up I z (fun _ => 0) z j = 0 := by unfold va_up; rw [if_pos rfl]
    have e3 : va_up N z (fun _ => 0) z j = 0 := by unfold va_up; rw [if_pos rfl]
    rw [e2, e3]
    exact xfv_default hc hj
theorem VL_newa (D : xD Γ E M lev mc ms) (kd : Nat) {ty : ArrayType} {x : Int} (hf : xfe M pc = some (.newarray ty, 2)) (hk : kd < 3 ∧ newarray.typeOf ty = xat kd) (hx0 : 0 ≤ x ∧ x ≤ 1000000) (hm : ce + 1 ≤ mc ∧ sl + x.toNat ≤ ms)
    (k : VL Γ E Q (z + 1) (va_up T z (some (.inl (kd, x.toNat)))) (va_up I z (fun _ => 0)) (va_up N z (fun _ => 0)) (ce + 1) (sl + x.toNat) (pc + 2) lv (.inr (.inr z) :: st)) : VL Γ E Q z T I N ce sl pc lv (.inl x :: st) := by
  intro H locs ls hR hSS hl
  obtain ⟨⟨hx, hb, -, hml, hown, -⟩, -, ho, hK, hW, hX, hz⟩ := id D.1
  have hz1 : 0 < z := Nat.lt_of_lt_of_le hR.2.2.1 hR.2.1
  obtain ⟨i1, i2, i3⟩ := xidx (i := x) (n := 1000001) hx0.1 (by omega) (by omega)
  have hin : Cond.arrayClass (newarray.typeOf ty) ∈ lw_tbl := by
    rw [hk.2]
    refine xarc_in _ ?_
    rcases (by omega : kd = 0 ∨ kd = 1 ∨ kd = 2) with h | h | h <;> subst h <;> decide
  have hcb : x.toNat * componentBytes (newarray.typeOf ty) ≤ 536870912 := by
    have h9 : x.toNat ≤ 1000000 := by omega
    rw [hk.2]
    rcases (by omega : kd = 0 ∨ kd = 1 ∨ kd = 2) with h | h | h <;> subst h <;> simp only [xat, componentBytes] <;> omega
  refine va_newaK hx hb (hW.use hin rfl) (g := F0 (gm Γ) pc ls ((.inl x :: st : List xV).map xv)) rfl (D.1.dec hf) (n := Int32.ofInt x) (N := x.toNat) (rest := st.map xv) rfl (fun h => i3 (Or.inl h)) i1 hcb (by rw [D.2]; exact hm.1) (by rw [D.2]; exact hm.2) hR.1 fun H1 cA e1 z1 o1 hA hfc => ?_
  have hcA : cA = E.2.1 kd := by
    have h9 := (hK.arr (k := kd) (by omega)).2
    rw [hk.2] at hfc
    rcases (by omega : kd = 0 ∨ kd = 1 ∨ kd = 2) with h | h | h <;> subst h <;> exact Option.some.inj (hfc.symm.trans h9)
  subst hcA
  have h2 := k H1 locs ls (hR.grow z1 o1 ?_) ⟨Nat.le_trans hSS.1 (by rw [z1, hR.1]; omega), fun q h1 h2 => (o1 q (by rw [← hR.1]; exact Nat.lt_of_lt_of_le h1 hSS.1)).trans (hSS.2.1 q h1 h2), hSS.2.2⟩ hl
  · have e : xv (.inr (.inr z)) = .ref z := xr_pos hz1
    rw [List.map_cons, e] at h2
    exact h2
  · unfold xAt
    have e1' : va_up T z (some (.inl (kd, x.toNat))) z = some (.inl (kd, x.toNat)) := by unfold va_up; rw [if_pos rfl]
    rw [e1']
    refine ⟨?_, by omega, hR.2.1, by omega⟩
    rw [e1, hk.2]
    congr 2
    funext j
    have e2 : va_up I z (fun _ => 0) z j = 0 := by unfold va_up; rw [if_pos rfl]
    have e3 : va_up N z (fun _ => 0) z j = 0 := by unfold va_up; rw [if_pos rfl]
    rw [e2, e3]
    rcases (by omega : kd = 0 ∨ kd = 1 ∨ kd = 2) with h | h | h <;> subst h <;> rfl
theorem VL_tswIn (D : xD Γ E M lev mc ms) (tgt : Nat) {dflt lo hi off x : Int} {offs : Array Int} {len : Nat} (h : xfe M pc = some (.tableswitch dflt lo hi offs, len)) (hx : xIn x) (h1 : lo ≤ x ∧ x ≤ hi) (ho : offs[(x - lo).toNat]? = some off) (ht : (pc : Int) + off = (tgt : Int)) (k : VL Γ E Q z T I N ce sl tgt lv st) : VL Γ E Q z T I N ce sl pc lv (.inl x :: st) := by
  intro H locs ls hR hS hl
  exact lv_tableIn D.1.1.1 D.1.1.2.1 (D.1.dec h) (by rw [x32 hx]; omega) (by rw [x32 hx]; omega) (by rw [x32 hx]; exact ho) ht (k H locs ls hR hS hl)
theorem VL_tswOut (D : xD Γ E M lev mc ms) (tgt : Nat) {dflt lo hi x : Int} {offs : Array Int} {len : Nat} (h : xfe M pc = some (.tableswitch dflt lo hi offs, len)) (hx : xIn x) (h1 : x < lo ∨ hi < x) (ht : (pc : Int) + dflt = (tgt : Int)) (k : VL Γ E Q z T I N ce sl tgt lv st) : VL Γ E Q z T I N ce sl pc lv (.inl x :: st) := by
  intro H locs ls hR hS hl
  exact lv_tableOut D.1.1.1 D.1.1.2.1 (D.1.dec h) (by rw [x32 hx]; exact h1) ht (k H locs ls hR hS hl)
theorem VL_newO (D : xD Γ E M lev mc ms) (c nf : Nat) (hnf : xNN c = nf) (hf : xfe M pc = some (.new idx, 3)) (hlk : Cond.classLink (xRn M.2.2.2.2.1) idx (xRn c) ∈ lw_tbl) (hc : c < 11) (hm : ce + 1 ≤ mc ∧ sl + nf ≤ ms)
    (k : VL Γ E Q (z + 1) (va_up T z (some (.inr c))) (va_up I z (fun _ => 0)) (va_up N z (fun _ => 0)) (ce + 1) (sl + nf) (pc + 3) lv (.inr (.inr z) :: st)) : VL Γ E Q z T I N ce sl pc lv st := by
  subst hnf
  exact VL_new D c hf hlk hc hm k
theorem VL_askV {r : Option xV} (D : xD Γ E M lev mc ms) (hm : xMv M' n) (hf : xfe M pc = some (.invokevirtual idx, 3)) (hlk : Cond.methodLink (xRn M.2.2.2.2.1) idx M'.1 ∈ lw_tbl) {a : Nat} (hS : Spec M' lev' (.inr (.inr a) :: av) z T I N 0 0 (xSame z T I N r)) (hT : T a = some (.inr M'.2.2.2.2.1))
    (hr : (Nat.blt lev' lev && av.length.beq n && (xwd st).ble 8) = true) (hc : ce ≤ mc ∧ sl ≤ ms) (k : VL Γ E Q z T I N ce sl (pc + 3) lv (r.toList ++ st)) : VL Γ E Q z T I N ce sl pc lv (av.reverse ++ .inr (.inr a) :: st) :=
  VL_callV D hm hf hlk hS hT hr hc (fun r' z' T' I' N' h => by obtain ⟨h1, h2, h3, h4, h5⟩ := h; rw [h1, h2, h3, h4, h5]; exact k)
theorem VL_mdV {P : Option xV → xI → Prop} (D : xD Γ E M lev mc ms) (hm : xMv M' n) (hf : xfe M pc = some (.invokevirtual idx, 3)) (hlk : Cond.methodLink (xRn M.2.2.2.2.1) idx M'.1 ∈ lw_tbl) {a : Nat} (hS : Spec M' lev' (.inr (.inr a) :: av) z T I N 0 0 (xMd z T N P)) (hT : T a = some (.inr M'.2.2.2.2.1))
    (hr : (Nat.blt lev' lev && av.length.beq n && (xwd st).ble 8) = true) (hc : ce ≤ mc ∧ sl ≤ ms) (k : ∀ r I', P r I' → VL Γ E Q z T I' N ce sl (pc + 3) lv (r.toList ++ st)) : VL Γ E Q z T I N ce sl pc lv (av.reverse ++ .inr (.inr a) :: st) :=
  VL_callV D hm hf hlk hS hT hr hc (fun r z' T' I' N' h => by obtain ⟨h1, h2, h3, h4⟩ := h; rw [h1, h2, h3]; exact k r I' h4)
def xMw (M : xM) (hh : xHH) (n : Nat) : Prop := Cond.codeWith M.1 M.2.1 M.2.2.1 M.2.2.2.1 hh ∈ lw_tbl ∧ Cond.initialized M.1.cls ∈ lw_tbl ∧ (M.1.cls ≠ "java/lang/invoke/MethodHandle" ∧ M.1.cls ≠ "java/lang/invoke/VarHandle") ∧ (parseMethodDescriptor M.1.desc).map (fun d => d.parameters.length) = some n ∧ M.2.2.1 ≤ 13 ∧ Cond.static M.1 ∈ lw_tbl
theorem xPW_blind {l : List Value} {z : Nat} : FrameBlind (va_Pc l (xPW E z T I N)) := by
  intro a U g mk ⟨h0, h1, h2, h3⟩
  obtain ⟨_, g1⟩ := xPre.blind (av := l) a U g mk ⟨h0, h1⟩
  exact ⟨h0, g1, xStr.warm (s := U) (U := U.calling g mk a) h2 (State.WarmedH.refl U), xCa.warm (s := U) (U := U.calling g mk a) h3 (State.WarmedH.refl U)⟩
/-- a call of one of the law's own methods -/
theorem VL_callW (D : xDL Γ E M lev mc ms) (hm : xMw M' hh n) (hf : xfe M pc = some (.invokestatic idx, 3)) (hlk : Cond.methodLink (xRn M.2.2.2.2.1) idx M'.1 ∈ lw_tbl) (hS : WSpec M' hh lev' av z T I N mc' ms' post')
    (hr : (Nat.blt lev' lev && av.length.beq n && (xwd st).ble 8) = true) (hc : ce + mc' ≤ mc ∧ sl + ms' ≤ ms) (k : ∀ r z' T' I' N', post' r z' T' I' N' → VL Γ E Q z' T' I' N' (ce + mc') (sl + ms') (pc + 3) lv (r.toList ++ st)) : VL Γ E Q z T I N ce sl pc lv (av.reverse ++ st) := by
  intro H locs ls hR hSS hl
  simp only [Bool.and_eq_true] at hr
  obtain ⟨⟨hr1, hr2⟩, hr3⟩ := hr
  have hr1 : lev' < lev := Nat.le_of_ble_eq_true hr1
  have hr2 : av.length = n := Nat.eq_of_beq_eq_true hr2
  have hr3 : xwd st ≤ 8 := Nat.le_of_ble_eq_true hr3
  obtain ⟨D0, -, hStr, hCa, htr⟩ := D
  obtain ⟨⟨hx, hb, -, hml, hown, -⟩, -, ho, hK, hW, hX, hz⟩ := id D0.1
  have hp : PreS (gs Γ) H (va_Pc (av.map xv) (xPW E z T I N)) (av.map xv) := ⟨xPW_blind, fun U hU hWm => by
    obtain ⟨g0, g1⟩ := x_pre D0.1 hR hSS (avv := av.map xv) U hU hWm
    exact ⟨g0, g1, hStr.warm hWm, hCa.warm hWm⟩⟩
  have cw : vx_CSW (gR Γ) (gs Γ) (ga Γ) (xRn M.2.2.2.2.1) idx M'.1 M'.2.1 M'.2.2.1 M'.2.2.2.1 hh (xwsW M' hh) (xRm lev' mc' ms') mc' ms' n := by
    refine ⟨⟨rfl, rfl, ?_, ?_, ?_, List.mem_singleton.mpr rfl⟩, hW.use hm.1 rfl, hW.use hm.2.1 rfl, hm.2.2.1, fun sig h => ?_, hW.use hlk rfl, hW.use hm.2.2.2.2.2 rfl⟩
    · rw [D0.2]; exact hr1
    · rw [D0.2]; show 8 + (M'.2.2.1 + 11) + 32 * lev' ≤ 32 * lev
      have := hm.2.2.2.2.1
      omega
    · intro w hw a' U hWm
      rw [List.mem_singleton.mp hw]
      exact hW.at hWm hm.1 rfl a'
    · have h2 := hm.2.2.2.1
      rw [h] at h2
      exact (Option.some.inj h2).symm
  have run := vx_runSW (e := ge Γ) (below := gb Γ) (meth := gt Γ) (locs := locs) (cells := ce) (slots := sl) (g := F0 (gm Γ) pc ls ((av.reverse ++ st).map xv)) (rest := st.map xv) (Ts := []) ⟨hx, hb, hml, hown, fun _ h => nomatch h⟩ (hS (gl Γ) E htr) cw hp rfl (by rw [List.length_map]; exact hr2) (hl.1.1.trans hml) (by rw [List.map_append, List.map_reverse]) (lv_room (by rw [xwd_sum]; exact hr3)) (D0.1.dec hf) (by rw [D0.2]; exact hc)
  intro T9 hT9 X
  obtain ⟨v, st₀, t, T', L, h0, X', hL, e1, e2, hq, st9⟩ := run T9 hT9 X
  obtain ⟨t2, a1, b1⟩ := xL_after (p := gp Γ) (T9 := T9) (r := none) k hSS hl h0 hL e1 hq X'
  exact ⟨t2, st9 t2 a1, b1⟩
/-- the script: how long it is, what it holds -/
def xSc (Γ : xG) (E : xE) (L : Nat) (xs : Nat → Int32) : Prop := ∃ b : Nat, ga Γ = #[Value.ref b] ∧ va_X b L xs (gs Γ) (gs Γ).heap ∧ b < (gs Γ).heap.size ∧ ¬ E.2.2 ≤ b ∧ L ≤ 3584
theorem yref {b b' : Nat} (h : (#[Value.ref b] : Array Value) = #[Value.ref b']) : b = b' := by
  have := congrArg (fun a => a[0]?) h
  simpa using this
theorem VL_slen {L : Nat} {xs : Nat → Int32} (D : xDL Γ E M lev mc ms) (hX : xSc Γ E L xs) (h0 : xfe M pc = some (.aload_n 0, 1)) (h1 : xfe M (pc + 1) = some (.arraylength, 1)) (k : VL Γ E Q z T I N ce sl (pc + 1 + 1) lv (.inl (L : Int) :: st)) : VL Γ E Q z T I N ce sl pc lv st := by
  intro H locs ls hR hSS hl
  obtain ⟨b, g1, g2, g3, g4, g5⟩ := hX
  obtain ⟨b', e0, e1⟩ := id hl.2
  have eb : b' = b := yref (e1.symm.trans g1)
  subst eb
  refine lv_aload_n D.1.1.1.1 D.1.1.1.2.1 (D.1.1.dec h0) rfl e0 ?_
  refine va_slen D.1.1.1.1 D.1.1.1.2.1 g2 g3 g4 hSS (D.1.1.dec h1) ?_
  have h9 := k H locs ls hR hSS hl
  have ee : xv (.inl (L : Int)) = .int (nI L) := by show Value.int (Int32.ofInt (L : Int)) = _; rw [Int32.ofInt_eq_ofNat]; rfl
  rw [List.map_cons, ee] at h9
  exact h9
theorem VL_sld {L i : Nat} {xs : Nat → Int32} (D : xDL Γ E M lev mc ms) (hX : xSc Γ E L xs) (h0 : xfe M pc = some (.aload_n 0, 1)) (h1 : xfe M (pc + 1) = some (.iload 4, 2)) (hi : lv 4 = some (.inl (i : Int))) (h2 : xfe M (pc + 3) = some (.iaload, 1)) (hlt : i < L) (k : VL Γ E Q z T I N ce sl (pc + 3 + 1) lv (.inl (xs i).toInt :: st)) : VL Γ E Q z T I N ce sl pc lv st := by
  intro H locs ls hR hSS hl
  obtain ⟨b, g1, g2, g3, g4, g5⟩ := hX
  obtain ⟨b', e0, e1⟩ := id hl.2
  have eb : b' = b := yref (e1.symm.trans g1)
  subst eb
  have ei : xv (.inl (i : Int)) = .int (nI i) := by show Value.int (Int32.ofInt (i : Int)) = _; rw [Int32.ofInt_eq_ofNat]; rfl
  have li := hl.1.2.2 4 _ hi
  rw [ei] at li
  refine lv_aload_n D.1.1.1.1 D.1.1.1.2.1 (D.1.1.dec h0) rfl e0 ?_
  refine lv_iload D.1.1.1.1 D.1.1.1.2.1 (D.1.1.dec h1) li ?_
  refine va_sld D.1.1.1.1 D.1.1.1.2.1 g2 g3 g4 hSS (i := nI i) (vpin hlt g5) (D.1.1.dec h2) ?_
  have h9 := k H locs ls hR hSS hl
  have ee : xv (.inl (xs i).toInt) = .int (xs i) := by show Value.int (Int32.ofInt (xs i).toInt) = _; rw [Int32.ofInt_toInt]
  rw [List.map_cons, ee] at h9
  rw [nItn hlt g5]
  exact h9
theorem VL_sldK {L i : Nat} {j : Nat} {xs : Nat → Int32} (D : xDL Γ E M lev mc ms) (hX : xSc Γ E L xs) (h0 : xfe M pc = some (.aload_n 0, 1)) (h1 : xfe M (pc + 1) = some (.iload 4, 2)) (hi : lv 4 = some (.inl (i : Int))) (h2 : xfe M (pc + 3) = some (.iconst (j : Int), 1)) (h3 : xfe M (pc + 4) = some (.iadd, 1)) (h4 : xfe M (pc + 5) = some (.iaload, 1)) (hlt : i + j < L) (k : VL Γ E Q z T I N ce sl (pc + 5 + 1) lv (.inl (xs (i + j)).toInt :: st)) : VL Γ E Q z T I N ce sl pc lv st := by
  intro H locs ls hR hSS hl
  obtain ⟨b, g1, g2, g3, g4, g5⟩ := hX
  obtain ⟨b', e0, e1⟩ := id hl.2
  have eb : b' = b := yref (e1.symm.trans g1)
  subst eb
  have ei : xv (.inl (i : Int)) = .int (nI i) := by show Value.int (Int32.ofInt (i : Int)) = _; rw [Int32.ofInt_eq_ofNat]; rfl
  have li := hl.1.2.2 4 _ hi
  rw [ei] at li
  refine lv_aload_n D.1.1.1.1 D.1.1.1.2.1 (D.1.1.dec h0) rfl e0 ?_
  refine lv_iload D.1.1.1.1 D.1.1.1.2.1 (D.1.1.dec h1) li ?_
  refine lv_iconst D.1.1.1.1 D.1.1.1.2.1 (D.1.1.dec h2) rfl ?_
  refine lv_iadd D.1.1.1.1 D.1.1.1.2.1 (D.1.1.dec h3) ?_
  have es : nI i + Int32.ofInt (j : Int) = nI (i + j) := by rw [Int32.ofInt_eq_ofNat]; exact nIadd
  rw [es]
  refine va_sld D.1.1.1.1 D.1.1.1.2.1 g2 g3 g4 hSS (i := nI (i + j)) (vpin hlt g5) (D.1.1.dec h4) ?_
  have h9 := k H locs ls hR hSS hl
  have ee : xv (.inl (xs (i + j)).toInt) = .int (xs (i + j)) := by show Value.int (Int32.ofInt (xs (i + j)).toInt) = _; rw [Int32.ofInt_toInt]
  rw [List.map_cons, ee] at h9
  rw [nItn hlt g5]
  exact h9
theorem VL_sldB {L i : Nat} {xs : Nat → Int32} (D : xDL Γ E M lev mc ms) (hX : xSc Γ E L xs) (h0 : xfe M pc = some (.aload_n 0, 1)) (h1 : xfe M (pc + 1) = some (.iload 4, 2)) (hi : lv 4 = some (.inl (i : Int))) (h2 : xfe M (pc + 3) = some (.bipush 6, 2)) (h3 : xfe M (pc + 5) = some (.iadd, 1)) (h4 : xfe M (pc + 6) = some (.iaload, 1)) (hlt : i + 6 < L) (k : VL Γ E Q z T I N ce sl (pc + 6 + 1) lv (.inl (xs (i + 6)).toInt :: st)) : VL Γ E Q z T I N ce sl pc lv st := by
  intro H locs ls hR hSS hl
  obtain ⟨b, g1, g2, g3, g4, g5⟩ := hX
  obtain ⟨b', e0, e1⟩ := id hl.2
  have eb : b' = b := yref (e1.symm.trans g1)
  subst eb
  have ei : xv (.inl (i : Int)) = .int (nI i) := by show Value.int (Int32.ofInt (i : Int)) = _; rw [Int32.ofInt_eq_ofNat]; rfl
  have li := hl.1.2.2 4 _ hi
  rw [ei] at li
  refine lv_aload_n D.1.1.1.1 D.1.1.1.2.1 (D.1.1.dec h0) rfl e0 ?_
  refine lv_iload D.1.1.1.1 D.1.1.1.2.1 (D.1.1.dec h1) li ?_
  refine lv_bipush (v := nI 6) D.1.1.1.1 D.1.1.1.2.1 (D.1.1.dec h2) rfl ?_
  refine lv_iadd D.1.1.1.1 D.1.1.1.2.1 (D.1.1.dec h3) ?_
  have es : nI i + nI 6 = nI (i + 6) := nIadd
  rw [es]
  refine va_sld D.1.1.1.1 D.1.1.1.2.1 g2 g3 g4 hSS (i := nI (i + 6)) (vpin hlt g5) (D.1.1.dec h4) ?_
  have h9 := k H locs ls hR hSS hl
  have ee : xv (.inl (xs (i + 6)).toInt) = .int (xs (i + 6)) := by show Value.int (Int32.ofInt (xs (i + 6)).toInt) = _; rw [Int32.ofInt_toInt]
  rw [List.map_cons, ee] at h9
  rw [nItn hlt g5]
  exact h9
end XLRules
