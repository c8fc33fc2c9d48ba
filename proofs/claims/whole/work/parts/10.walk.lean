/-! a straight step is a step of the machine -/
theorem zAnd_of (x y : Int) : Int32.ofInt (zAnd x y) = Int32.ofInt x &&& Int32.ofInt y := Int32.ofInt_toInt _
theorem zShl_of (x y : Int) : Int32.ofInt (zShl x y) = Int32.ofInt x <<< (Int32.ofInt y &&& 31) := Int32.ofInt_toInt _
theorem zShr_of (x y : Int) : Int32.ofInt (zShr x y) = Int32.ofInt x >>> (Int32.ofInt y &&& 31) := Int32.ofInt_toInt _
theorem zUsh_of (x y : Int) : Int32.ofInt (zUsh x y) = ((Int32.ofInt x).toUInt32 >>> ((Int32.ofInt y).toUInt32 &&& Int32.toUInt32 31)).toInt32 := Int32.ofInt_toInt _
theorem zB_of (x : Int) : Int32.ofInt (zB x) = (Int32.ofInt x).toInt8.toInt32 := Int32.ofInt_toInt _
theorem zLand_of (x y : Int) : Int64.ofInt (zLand x y) = Int64.ofInt x &&& Int64.ofInt y := Int64.ofInt_toInt _
theorem zLor_of (x y : Int) : Int64.ofInt (zLor x y) = Int64.ofInt x ||| Int64.ofInt y := Int64.ofInt_toInt _
theorem zLsh_of (x y : Int) : Int64.ofInt (zLsh x y) = Int64.ofInt x <<< ((Int32.ofInt y).toInt64 &&& 63) := Int64.ofInt_toInt _
theorem zLus_of (x y : Int) : Int64.ofInt (zLus x y) = ((Int64.ofInt x).toUInt64 >>> ((Int32.ofInt y).toInt64.toUInt64 &&& Int64.toUInt64 63)).toInt64 := Int64.ofInt_toInt _
theorem x32 {x : Int} (h : xIn x) : (Int32.ofInt x).toInt = x := by unfold xIn at h; exact Int32.toInt_ofInt_of_le (by omega) (by omega)
theorem x64 {x : Int} (h : xIl x) : (Int64.ofInt x).toInt = x := by unfold xIl at h; exact Int64.toInt_ofInt_of_le (by omega) (by omega)
theorem zCmp_of {x y : Int} (hx : xIl x) (hy : xIl y) : Int32.ofInt (zCmp x y) = lg_cmp (Int64.ofInt x) (Int64.ofInt y) := by
  have e1 : (Int64.ofInt y < Int64.ofInt x) ↔ y < x := by rw [Int64.lt_iff_toInt_lt, x64 hx, x64 hy]
  have e2 : (Int64.ofInt x = Int64.ofInt y) ↔ x = y := by rw [← Int64.toInt_inj, x64 hx, x64 hy]
  unfold zCmp lg_cmp
  by_cases h1 : y < x
  · rw [if_pos h1, if_pos (e1.mpr h1)]; rfl
  · rw [if_neg h1, if_neg (fun h => h1 (e1.mp h))]
    by_cases h2 : x = y
    · rw [if_pos h2]
      first | rw [if_pos (e2.mpr h2)] | simp [e2.mpr h2]
      rfl
    · rw [if_neg h2]
      first | rw [if_neg (fun h => h2 (e2.mp h))] | simp [fun h => h2 (e2.mp h)]
      rfl
theorem xdiv32 {x y : Int} (hx : 0 ≤ x ∧ x ≤ 2147483647) (hy : 0 < y ∧ y ≤ 2147483647) : Int32.ofInt x / Int32.ofInt y = Int32.ofInt (x / y) ∧ Int32.ofInt x - Int32.ofInt x / Int32.ofInt y * Int32.ofInt y = Int32.ofInt (x % y) ∧ ¬ Int32.ofInt y = 0 := by
  obtain ⟨a, rfl⟩ := Int.eq_ofNat_of_zero_le hx.1
  obtain ⟨b, rfl⟩ := Int.eq_ofNat_of_zero_le (Int.le_of_lt hy.1)
  have ea : Int32.ofInt (a : Int) = nI a := Int32.ofInt_eq_ofNat
  have eb : Int32.ofInt (b : Int) = nI b := Int32.ofInt_eq_ofNat
  have h1 := pk_div (a := a) (d := b) (by omega) (by omega) (by omega)
  have h2 := pk_rem (a := a) (d := b) (by omega) (by omega) (by omega)
  have h3 := nI_ne0 (n := b) (by omega) (by omega)
  rw [ea, eb]
  refine ⟨?_, ?_, h3⟩
  · rw [h1, ← Int.natCast_ediv]; exact Int32.ofInt_eq_ofNat.symm
  · rw [h2, ← Int.natCast_emod]; exact Int32.ofInt_eq_ofNat.symm
theorem xdiv64 {x y : Int} (hx : 0 ≤ x ∧ x ≤ 9223372036854775807) (hy : 0 < y ∧ y ≤ 9223372036854775807) : Int64.ofInt x / Int64.ofInt y = Int64.ofInt (x / y) ∧ Int64.ofInt x - Int64.ofInt x / Int64.ofInt y * Int64.ofInt y = Int64.ofInt (x % y) ∧ ¬ Int64.ofInt y = 0 := by
  obtain ⟨a, rfl⟩ := Int.eq_ofNat_of_zero_le hx.1
  obtain ⟨b, rfl⟩ := Int.eq_ofNat_of_zero_le (Int.le_of_lt hy.1)
  have ea : Int64.ofInt (a : Int) = lN a := Int64.ofInt_eq_ofNat
  have eb : Int64.ofInt (b : Int) = lN b := Int64.ofInt_eq_ofNat
  have h1 := pk_lDiv (a := a) (b := b) (by omega) (by omega) (by omega)
  have h2 := pk_lRem (a := a) (b := b) (by omega) (by omega) (by omega)
  have h3 : ¬ lN b = 0 := fun h => by
    have := (pk_lEQ (a := b) (b := 0) (by omega) (by omega)).mp h
    omega
  rw [ea, eb]
  refine ⟨?_, ?_, h3⟩
  · rw [h1, ← Int.natCast_ediv]; exact Int64.ofInt_eq_ofNat.symm
  · rw [h2, ← Int.natCast_emod]; exact Int64.ofInt_eq_ofNat.symm
section XWalk
variable {Γ : xG} {E : xE} {M : xM} {T : xY} {I : xI} {N : xN} {z : Nat} {ce sl pc : Nat} {Q : State → Prop} {lv : xL} {st : List xV}
set_option maxHeartbeats 4000000 in
theorem V_2 (C : xC Γ E M) {len : Nat} {i : Instr} {P : Option Prop} {g : xF} (hd : decode M.2.1 pc = .ok (i, len)) (h : xs2 M T pc lv st I N len i = some (P, g)) (hP : xp P) (k : V Γ E Q z T g.2.2.2.1 g.2.2.2.2 ce sl g.1 g.2.1 g.2.2.1) : V Γ E Q z T I N ce sl pc lv st := by
  intro H locs ls hR hS hl
  obtain ⟨⟨hx, hb, hr, hml, hown, hlocks, hname⟩, -, ho, hK, hW, hX, hz⟩ := id C
  unfold xs2 at h
  split at h
  · rename_i hlen
    subst hlen
    split at h
    · cases h; exact lv_iconst hx hb hd rfl (k H locs ls hR hS hl)
    · cases h; exact lv_lconst hx hb hd (by rw [← Int64.ofInt_eq_ofNat]) (k H locs ls hR hS hl)
    · cases h; exact lv_null hx hb hd (k H locs ls hR hS hl)
    · split at h
      · rename_i x hx1; cases h; exact lv_iload_n hx hb hd rfl (hl.2.2 _ _ hx1) (k H locs ls hR hS hl)
      · cases h
    · split at h
      · rename_i x hx1; cases h; exact lv_lload_n hx hb hd rfl (hl.2.2 _ _ hx1) (k H locs ls hR hS hl)
      · cases h
    · split at h
      · rename_i x hx1; cases h; exact ws_aload_n hx hb hd (hl.2.2 _ _ hx1) (k H locs ls hR hS hl)
      · cases h
    · split at h
      · rename_i hk
        obtain ⟨x, r, rfl, h⟩ := xi1_some h
        cases h
        obtain ⟨ls', e, hl'⟩ := xset_ok (v := .inl x) hl (hml ▸ hk) rfl
        exact ws_istore_n hx hb hd e (k H locs ls' hR hS hl')
      · cases h
    · split at h
      · rename_i hk
        obtain ⟨x, r, rfl, h⟩ := xa1_some h
        cases h
        obtain ⟨ls', e, hl'⟩ := xset_ok (v := .inr (.inr x)) hl (hml ▸ hk) (xr_cat x)
        exact ws_astore_n hx hb hd e (k H locs ls' hR hS hl')
      · cases h
    · split at h
      · rename_i hk
        obtain ⟨x, r, rfl, h⟩ := xl1_some h
        cases h
        obtain ⟨ls', e, hl'⟩ := xset2_ok (v := .inr (.inl x)) hl (hml ▸ hk) rfl
        exact ws_lstore_n hx hb hd e (k H locs ls' hR hS hl')
      · cases h
    · obtain ⟨x, y, r, rfl, h⟩ := xi2_some h; cases h
      refine lv_iadd hx hb hd ?_
      rw [← Int32.ofInt_add]; exact k H locs ls hR hS hl
    · obtain ⟨x, y, r, rfl, h⟩ := xi2_some h; cases h
      refine lv_isub hx hb hd ?_
      rw [← Int32.ofInt_sub]; exact k H locs ls hR hS hl
    · obtain ⟨x, y, r, rfl, h⟩ := xi2_some h; cases h
      refine lv_imul hx hb hd ?_
      rw [← Int32.ofInt_mul]; exact k H locs ls hR hS hl
    · obtain ⟨x, r, rfl, h⟩ := xi1_some h; cases h
      refine lv_ineg hx hb hd ?_
      rw [← Int32.ofInt_neg]; exact k H locs ls hR hS hl
    · obtain ⟨x, y, r, rfl, h⟩ := xi2_some h; cases h
      refine lv_iand hx hb hd ?_
      rw [← zAnd_of]; exact k H locs ls hR hS hl
    · obtain ⟨x, y, r, rfl, h⟩ := xi2_some h; cases h
      refine lv_ishl hx hb hd ?_
      rw [← zShl_of]; exact k H locs ls hR hS hl
    · obtain ⟨x, y, r, rfl, h⟩ := xi2_some h; cases h
      refine lv_ishr hx hb hd ?_
      rw [← zShr_of]; exact k H locs ls hR hS hl
    · obtain ⟨x, y, r, rfl, h⟩ := xi2_some h; cases h
      exact lv_iushr hx hb hd (zUsh_of x y).symm (k H locs ls hR hS hl)
    · obtain ⟨x, y, r, rfl, h⟩ := xi2_some h; cases h
      obtain ⟨e1, e2, e3⟩ := xdiv32 (And.left hP) (And.right hP)
      refine lv_idiv hx hb hd e3 ?_
      rw [e1]; exact k H locs ls hR hS hl
    · obtain ⟨x, y, r, rfl, h⟩ := xi2_some h; cases h
      obtain ⟨e1, e2, e3⟩ := xdiv32 (And.left hP) (And.right hP)
      refine lv_irem hx hb hd e3 ?_
      rw [e2]; exact k H locs ls hR hS hl
    · obtain ⟨x, y, r, rfl, h⟩ := xl2_some h; cases h
      refine lv_ladd hx hb hd ?_
      rw [← Int64.ofInt_add]; exact k H locs ls hR hS hl
    · obtain ⟨x, y, r, rfl, h⟩ := xl2_some h; cases h
      refine lv_lmul hx hb hd ?_
      rw [← Int64.ofInt_mul]; exact k H locs ls hR hS hl
    · obtain ⟨x, y, r, rfl, h⟩ := xl2_some h; cases h
      refine lv_land hx hb hd ?_
      rw [← zLand_of]; exact k H locs ls hR hS hl
    · obtain ⟨x, y, r, rfl, h⟩ := xl2_some h; cases h
      refine lv_lor hx hb hd ?_
      rw [← zLor_of]; exact k H locs ls hR hS hl
    · obtain ⟨x, y, r, rfl, h⟩ := xl2_some h; cases h
      obtain ⟨e1, e2, e3⟩ := xdiv64 (And.left hP) (And.right hP)
      refine lv_ldiv hx hb hd e3 ?_
      rw [e1]; exact k H locs ls hR hS hl
    · obtain ⟨x, y, r, rfl, h⟩ := xl2_some h; cases h
      obtain ⟨e1, e2, e3⟩ := xdiv64 (And.left hP) (And.right hP)
      refine lv_lrem hx hb hd e3 ?_
      rw [e2]; exact k H locs ls hR hS hl
    · obtain ⟨x, y, r, rfl, h⟩ := xil_some h; cases h
      exact lv_lshl hx hb hd (zLsh_of x y).symm (k H locs ls hR hS hl)
    · obtain ⟨x, y, r, rfl, h⟩ := xil_some h; cases h
      exact lv_lushr hx hb hd (zLus_of x y).symm (k H locs ls hR hS hl)
    · obtain ⟨x, y, r, rfl, h⟩ := xl2_some h; cases h
      refine W.lcmp hx hb hd ?_
      rw [← zCmp_of (And.left hP) (And.right hP)]; exact k H locs ls hR hS hl
    · obtain ⟨x, r, rfl, h⟩ := xi1_some h; cases h
      exact lv_i2l hx hb hd (by rw [← Int64.toInt_inj, Int32.toInt_toInt64, x32 (show xIn x from hP), x64 (by have hP : xIn x := hP; unfold xIl; unfold xIn at hP; omega)]) (k H locs ls hR hS hl)
    · obtain ⟨x, r, rfl, h⟩ := xl1_some h; cases h
      exact lv_l2i hx hb hd (Int64.toInt32_ofInt ..) (k H locs ls hR hS hl)
    · obtain ⟨x, r, rfl, h⟩ := xi1_some h; cases h
      exact lv_i2b hx hb hd (zB_of x).symm (k H locs ls hR hS hl)
    · split at h
      · cases h; exact lv_dup hx hb hd rfl (k H locs ls hR hS hl)
      · cases h; exact lv_dup hx hb hd (xr_cat _) (k H locs ls hR hS hl)
      · cases h
    · split at h
      · cases h; exact lv_dup2_11 hx hb hd rfl (xr_cat _) (k H locs ls hR hS hl)
      · cases h
    · obtain ⟨a, j, r, rfl, h⟩ := xia_some h; cases h
      obtain ⟨n, hT, h0, h1⟩ := hP
      obtain ⟨q1, q2, q3, q4, q5⟩ := hR.arr hT
      obtain ⟨i1, i2, i3⟩ := xidx h0 h1 q2
      show W _ _ _ _ _ _ _ _ _ _ _ _ _ _ _ (F0 _ _ _ (.int (Int32.ofInt j) :: xr a :: r.map xv))
      rw [xr_pos q5]
      exact W.iald hx hb q1 ((hK.arr q3).1 n _) (fun q => by cases q) (by rw [arrV_size]; exact i3) (by rw [i1]; exact arrV_read _ _ i2) rfl rfl hd (k H locs ls hR hS hl)
    · obtain ⟨a, j, r, rfl, h⟩ := xia_some h; cases h
      obtain ⟨n, hT, h0, h1⟩ := hP
      obtain ⟨q1, q2, q3, q4, q5⟩ := hR.arr hT
      obtain ⟨i1, i2, i3⟩ := xidx h0 h1 q2
      show W _ _ _ _ _ _ _ _ _ _ _ _ _ _ _ (F0 _ _ _ (.int (Int32.ofInt j) :: xr a :: r.map xv))
      rw [xr_pos q5]
      exact W.bald hx hb q1 ((hK.arr q3).1 n _) (fun q => by cases q) (by rw [arrV_size]; exact i3) (by rw [i1]; exact arrV_read _ _ i2) rfl rfl hd (k H locs ls hR hS hl)
    · obtain ⟨a, j, r, rfl, h⟩ := xia_some h; cases h
      obtain ⟨n, hT, h0, h1⟩ := hP
      obtain ⟨q1, q2, q3, q4, q5⟩ := hR.arr hT
      obtain ⟨i1, i2, i3⟩ := xidx h0 h1 q2
      show W _ _ _ _ _ _ _ _ _ _ _ _ _ _ _ (F0 _ _ _ (.int (Int32.ofInt j) :: xr a :: r.map xv))
      rw [xr_pos q5]
      exact W.lald hx hb q1 ((hK.arr q3).1 n _) (fun q => by cases q) (by rw [arrV_size]; exact i3) (by rw [i1]; exact arrV_read _ _ i2) rfl rfl hd (k H locs ls hR hS hl)
    · obtain ⟨a, j, r, rfl, h⟩ := xia_some h; cases h
      obtain ⟨kk, hk3, n, hT, h0, h1⟩ := hP
      obtain ⟨q1, q2, q3, q4, q5⟩ := hR.arr hT
      obtain ⟨i1, i2, i3⟩ := xidx h0 h1 q2
      show W _ _ _ _ _ _ _ _ _ _ _ _ _ _ _ (F0 _ _ _ (.int (Int32.ofInt j) :: xr a :: r.map xv))
      rw [xr_pos q5]
      have hav : ∀ (x : Int) (y : Nat), xav kk x y = xr y := fun x y => by unfold xav; rw [if_neg (by omega), if_neg (by omega)]
      have href : (xat kk).isReference = true := by
        rcases (by omega : kk = 3 ∨ kk = 4 ∨ kk = 5 ∨ kk = 6) with h | h | h | h <;> subst h <;> rfl
      exact W.aald hx hb q1 ((hK.arr q3).1 n _) href (fun q => by cases q) (by rw [arrV_size]; exact i3) (by rw [i1, arrV_read _ _ i2, hav]; rfl) rfl rfl hd (k H locs ls hR hS hl)
    · obtain ⟨x, st', rfl, h⟩ := xi1_some h
      obtain ⟨a, j, r, rfl, h⟩ := xia_some h; cases h
      obtain ⟨n, hT, h0, h1⟩ := hP
      obtain ⟨q1, q2, q3, q4, q5⟩ := hR.arr hT
      obtain ⟨i1, i2, i3⟩ := xidx h0 h1 q2
      show W _ _ _ _ _ _ _ _ _ _ _ _ _ _ _ (F0 _ _ _ (.int (Int32.ofInt x) :: .int (Int32.ofInt j) :: xr a :: r.map xv))
      rw [xr_pos q5]
      refine W.iast hx hb q1 ((hK.arr q3).1 n _) (fun q => by cases q) (by rw [arrV_size]; exact i3) rfl rfl hd fun H' e1 e2 e3 => ?_
      obtain ⟨r1, r2⟩ := x_arr_put (Γ := Γ) (i := (Int32.ofInt j).toNatClampNeg) (I' := xup I a j.toNat x) (N' := N) (j := j.toNat) (v := .int (Int32.ofInt x)) hR hS hT (fun q hq => xup_ne hq) (fun q hq => rfl) (fun q => by rw [xup_at]; unfold va_up; by_cases hq : q = j.toNat <;> simp [hq, xav]) (by rw [← i1]; exact e1) e2 e3
      exact k H' _ ls r1 r2 hl
    · obtain ⟨x, st', rfl, h⟩ := xi1_some h
      obtain ⟨a, j, r, rfl, h⟩ := xia_some h; cases h
      obtain ⟨n, hT, h0, h1⟩ := hP
      obtain ⟨q1, q2, q3, q4, q5⟩ := hR.arr hT
      obtain ⟨i1, i2, i3⟩ := xidx h0 h1 q2
      show W _ _ _ _ _ _ _ _ _ _ _ _ _ _ _ (F0 _ _ _ (.int (Int32.ofInt x) :: .int (Int32.ofInt j) :: xr a :: r.map xv))
      rw [xr_pos q5]
      refine W.bast hx hb q1 ((hK.arr q3).1 n _) (fun q => by cases q) (by rw [arrV_size]; exact i3) rfl rfl hd fun H' e1 e2 e3 => ?_
      obtain ⟨r1, r2⟩ := x_arr_put (Γ := Γ) (i := (Int32.ofInt j).toNatClampNeg) (I' := xup I a j.toNat (zB x)) (N' := N) (j := j.toNat) (v := narrow .byte (.int (Int32.ofInt x))) hR hS hT (fun q hq => xup_ne hq) (fun q hq => rfl) (fun q => by rw [xup_at]; unfold va_up; by_cases hq : q = j.toNat <;> simp [hq, xav, narrow, zB_of]) (by rw [← i1]; exact e1) e2 e3
      exact k H' _ ls r1 r2 hl
    · obtain ⟨x, st', rfl, h⟩ := xl1_some h
      obtain ⟨a, j, r, rfl, h⟩ := xia_some h; cases h
      obtain ⟨n, hT, h0, h1⟩ := hP
      obtain ⟨q1, q2, q3, q4, q5⟩ := hR.arr hT
      obtain ⟨i1, i2, i3⟩ := xidx h0 h1 q2
      show W _ _ _ _ _ _ _ _ _ _ _ _ _ _ _ (F0 _ _ _ (.long (Int64.ofInt x) :: .int (Int32.ofInt j) :: xr a :: r.map xv))
      rw [xr_pos q5]
      refine W.last hx hb q1 ((hK.arr q3).1 n _) (fun q => by cases q) (by rw [arrV_size]; exact i3) rfl rfl hd fun H' e1 e2 e3 => ?_
      obtain ⟨r1, r2⟩ := x_arr_put (Γ := Γ) (i := (Int32.ofInt j).toNatClampNeg) (I' := xup I a j.toNat x) (N' := N) (j := j.toNat) (v := .long (Int64.ofInt x)) hR hS hT (fun q hq => xup_ne hq) (fun q hq => rfl) (fun q => by rw [xup_at]; unfold va_up; by_cases hq : q = j.toNat <;> simp [hq, xav]) (by rw [← i1]; exact e1) e2 e3
      exact k H' _ ls r1 r2 hl
    · obtain ⟨x, st', rfl, h⟩ := xa1_some h
      obtain ⟨a, j, r, rfl, h⟩ := xia_some h; cases h
      obtain ⟨kk, hk3, ⟨n, hT, h0, h1⟩, hTx⟩ := hP
      obtain ⟨q1, q2, q3, q4, q5⟩ := hR.arr hT
      obtain ⟨i1, i2, i3⟩ := xidx h0 h1 q2
      obtain ⟨hc, ⟨cellV, g1, g2, g3, -⟩, -, hxp⟩ := hR.obj hTx
      show W _ _ _ _ _ _ _ _ _ _ _ _ _ _ _ (F0 _ _ _ (xr x :: .int (Int32.ofInt j) :: xr a :: r.map xv))
      rw [xr_pos q5, xr_pos hxp]
      have hav : ∀ (x : Int) (y : Nat), xav kk x y = xr y := fun x y => by unfold xav; rw [if_neg (by omega), if_neg (by omega)]
      have hcls := (hK.cls hc).2
      have hra : ∃ (kA : Class) (comp : ClassId), (gs Γ).vm.classes[E.2.1 kk]? = some kA ∧ kA.kind = .array comp (xat kk) ∧ (gs Γ).vm.findClass (xRn (xec kk)) = some comp ∧ (xat kk).isReference = true := by
        have h9 := (hK.arr q3).2
        rcases (by omega : kk = 3 ∨ kk = 4 ∨ kk = 5 ∨ kk = 6) with h | h | h | h <;> subst h <;> (obtain ⟨kA, comp, k1, k2, k3, -⟩ := h9; exact ⟨kA, comp, k1, k2, k3, rfl⟩)
      obtain ⟨kA, comp, k1, k2, k3, k4⟩ := hra
      have hcomp : comp = E.1.1 (xec kk) := Option.some.inj (k3.symm.trans hcls.1)
      subst hcomp
      obtain ⟨kC, hkC, hkd⟩ := hcls.2
      refine W.aast hx hb q1 (fun q h => by cases h) (fun h => by cases h) k1 k2 k4 hkC ⟨fun h => i3 (Or.inl h), by rw [arrV_size, i1]; exact i2⟩ g1 (fun q h => by rw [g3] at h; cases h) (by rw [g2]; exact hkC) (by rw [g2]; exact va_assign hcls) rfl rfl hd fun H' e1 e2 e3 => ?_
      obtain ⟨r1, r2⟩ := x_arr_put (Γ := Γ) (i := (Int32.ofInt j).toNatClampNeg) (I' := I) (N' := xup N a j.toNat x) (j := j.toNat) (v := .ref x) hR hS hT (fun q hq => rfl) (fun q hq => xup_ne hq) (fun q => by rw [hav, hav, xup_at]; unfold va_up; by_cases hq : q = j.toNat <;> simp [hq, xr_pos hxp]) (by rw [← i1]; exact e1) e2 e3
      exact k H' _ ls r1 r2 hl
    · obtain ⟨a, r, rfl, h⟩ := xa1_some h; cases h
      obtain ⟨kk, n, hT⟩ := hP
      obtain ⟨q1, q2, q3, q4, q5⟩ := hR.arr hT
      show W _ _ _ _ _ _ _ _ _ _ _ _ _ _ _ (F0 _ _ _ (xr a :: r.map xv))
      rw [xr_pos q5]
      have hlen : xlen T a = n := by unfold xlen; rw [hT]
      rw [hlen] at k
      exact W.alen (n := Int32.ofInt (n : Int)) hx hb q1 ((hK.arr q3).1 n _) (by rw [arrV_size]; exact Int32.ofInt_eq_ofNat.symm) rfl rfl hd (k H locs ls hR hS hl)
    · cases h
  · split at h
    · rename_i hlen
      subst hlen
      split at h
      · split at h
        · rename_i hn
          cases h
          exact lv_bipush hx hb hd (by rw [← Int32.toInt_inj, Int8.toInt_toInt32, Int8.toInt_ofInt_of_le (by omega) (by omega), x32 (by unfold xIn; omega)]) (k H locs ls hR hS hl)
        · cases h
      · split at h
        · rename_i x hx1; cases h
          exact lv_ldc hx hb hown (hW.use (xcr_in _ (List.mem_range.mpr ho) _ (xlook2 hx1)) rfl) hd (k H locs ls hR hS hl)
        · cases h
      · split at h
        · rename_i x hx1; cases h; exact lv_iload hx hb hd (hl.2.2 _ _ hx1) (k H locs ls hR hS hl)
        · cases h
      · split at h
        · rename_i x hx1; cases h; exact lv_lload hx hb hd (hl.2.2 _ _ hx1) (k H locs ls hR hS hl)
        · cases h
      · split at h
        · rename_i x hx1; cases h; exact ws_aload hx hb hd (hl.2.2 _ _ hx1) (k H locs ls hR hS hl)
        · cases h
      · split at h
        · rename_i hk
          obtain ⟨x, r, rfl, h⟩ := xi1_some h
          cases h
          obtain ⟨ls', e, hl'⟩ := xset_ok (v := .inl x) hl (hml ▸ hk) rfl
          exact ws_istore hx hb hd e (k H locs ls' hR hS hl')
        · cases h
      · split at h
        · rename_i hk
          obtain ⟨x, r, rfl, h⟩ := xa1_some h
          cases h
          obtain ⟨ls', e, hl'⟩ := xset_ok (v := .inr (.inr x)) hl (hml ▸ hk) (xr_cat x)
          exact ws_astore hx hb hd e (k H locs ls' hR hS hl')
        · cases h
      · cases h
    · split at h
      · rename_i hlen
        subst hlen
        split at h
        · split at h
          · rename_i hn
            cases h
            exact lv_sipush hx hb hd (by rw [← Int32.toInt_inj, Int16.toInt_toInt32, Int16.toInt_ofInt_of_le (by omega) (by omega), x32 (by unfold xIn; omega)]) (k H locs ls hR hS hl)
          · cases h
        · split at h
          · rename_i x hx1; cases h
            exact lv_ldc2 hx hb hown (hW.use (xlr_in _ (List.mem_range.mpr ho) _ (xlook2 hx1)) rfl) hd (k H locs ls hR hS hl)
          · cases h
        · split at h
          · rename_i hk
            split at h
            · rename_i x hx1
              cases h
              obtain ⟨ls', e, hl'⟩ := xset_ok (v := .inl (x + _)) hl (hml ▸ hk) rfl
              refine ws_iinc hx hb hd (hl.2.2 _ _ hx1) ?_ (k H locs ls' hR hS hl')
              rw [← Int32.ofInt_add]; exact e
            · cases h
          · cases h
        · split at h
          · rename_i t ht
            cases h
            exact lv_goto hx hb hd ht (k H locs ls hR hS hl)
          · cases h
        · split at h
          · rename_i c f b hf
            obtain ⟨a, r, rfl, h⟩ := xa1_some h; cases h
            refine x_getf C hR hf hP hd ?_
            have := k H locs ls hR hS hl
            rcases xfk_cases c f with h1 | h1 | h1 <;> rw [h1] at this ⊢ <;> exact this
          · cases h
        · split at h
          · rename_i c f b hf
            split at h
            · cases h
            · rename_i hfin
              have hfin : (xTT c f).2.2.2 = false := by simpa using hfin
              split at h
              · rename_i h1
                obtain ⟨x, st', rfl, h⟩ := xi1_some h
                obtain ⟨a, r, rfl, h⟩ := xa1_some h; cases h
                have h2 := x_putf (I' := xup I a f x) (N' := N) (v := x) (w := 0) (rest := r.map xv) (ls := ls) (pc := pc) C hR hS hf hfin hP hd (fun h => by rw [h1] at h; cases h) (fun q hq => xup_ne hq) (fun _ _ => rfl) (fun j hj => by rw [xup_at]; unfold va_up; rw [if_neg hj]) (fun _ _ => rfl) (fun _ => by rw [xup_at]; unfold va_up; rw [if_pos rfl]) (fun h => by rw [h1] at h; cases h) (fun H' locs' r1 r2 => k H' locs' ls r1 r2 hl)
                rw [h1] at h2
                exact h2
              · rename_i h1
                obtain ⟨x, st', rfl, h9⟩ := xa1_some h
                obtain ⟨a, r, rfl, h8⟩ := xa1_some h9; cases h8
                have h2 := x_putf (I' := I) (N' := xup N a f x) (v := 0) (w := x) (rest := r.map xv) (ls := ls) (pc := pc) C hR hS hf hfin hP hd (fun h => by rw [h1] at h; cases h) (fun _ _ => rfl) (fun q hq => xup_ne hq) (fun _ _ => rfl) (fun j hj => by rw [xup_at]; unfold va_up; rw [if_neg hj]) (fun h => absurd h1 h) (fun _ => by rw [xup_at]; unfold va_up; rw [if_pos rfl]) (fun H' locs' r1 r2 => k H' locs' ls r1 r2 hl)
                rw [h1] at h2
                exact h2
              · rename_i h0 h1
                obtain ⟨x, st', rfl, h⟩ := xi1_some h
                obtain ⟨a, r, rfl, h⟩ := xa1_some h; cases h
                have hk2 : xfk c f = 2 := by
                  rcases xfk_cases c f with h | h | h
                  · exact absurd h h0
                  · exact absurd h h1
                  · exact h
                have h2 := x_putf (I' := xup I a f x) (N' := N) (v := x) (w := 0) (rest := r.map xv) (ls := ls) (pc := pc) C hR hS hf hfin (And.left hP) hd (fun _ => And.right hP) (fun q hq => xup_ne hq) (fun _ _ => rfl) (fun j hj => by rw [xup_at]; unfold va_up; rw [if_neg hj]) (fun _ _ => rfl) (fun _ => by rw [xup_at]; unfold va_up; rw [if_pos rfl]) (fun h => by rw [hk2] at h; cases h) (fun H' locs' r1 r2 => k H' locs' ls r1 r2 hl)
                rw [hk2] at h2
                exact h2
          · cases h
        · cases h
      · cases h
theorem xgo_ok (C : xC Γ E M) (stop : List Nat) : ∀ (n : Nat) (P0 : Prop) (pc : Nat) (lv : xL) (st : List xV) (I : xI) (N : xN) (P : Prop) (g : xF), xgo M T stop n P0 pc lv st I N = some (P, g) → P → P0 ∧ (V Γ E Q z T g.2.2.2.1 g.2.2.2.2 ce sl g.1 g.2.1 g.2.2.1 → V Γ E Q z T I N ce sl pc lv st)
  | 0, P0, pc, lv, st, I, N, P, g, h, hP => by
    cases h
    exact ⟨hP, id⟩
  | n + 1, P0, pc, lv, st, I, N, P, g, h, hP => by
    unfold xgo at h
    split at h
    · cases h; exact ⟨hP, id⟩
    · rename_i i len hf
      split at h
      · cases h; exact ⟨hP, id⟩
      · rename_i pc' lv' st' I' N' h1
        split at h
        · cases h
          exact ⟨hP, fun k => V_2 C (C.dec hf) h1 trivial k⟩
        · obtain ⟨h3, h4⟩ := xgo_ok C stop n P0 pc' lv' st' I' N' P g h hP
          exact ⟨h3, fun k => V_2 C (C.dec hf) h1 trivial (h4 k)⟩
      · rename_i p pc' lv' st' I' N' h1
        split at h
        · cases h
          exact ⟨hP.2, fun k => V_2 C (C.dec hf) h1 hP.1 k⟩
        · obtain ⟨⟨h2, h3⟩, h4⟩ := xgo_ok C stop n (p ∧ P0) pc' lv' st' I' N' P g h hP
          exact ⟨h3, fun k => V_2 C (C.dec hf) h1 h2 (h4 k)⟩
/-- a straight stretch -/
theorem V_go (C : xC Γ E M) (stop : List Nat) (pc' : Nat) {P : Prop} {lv' : xL} {st' : List xV} {I' : xI} {N' : xN} (h : xgo M T stop 90 True pc lv st I N = some (P, pc', lv', st', I', N')) (hP : P) (k : V Γ E Q z T I' N' ce sl pc' lv' st') : V Γ E Q z T I N ce sl pc lv st :=
  (xgo_ok C stop 90 True _ _ _ _ _ P _ h hP).2 k
end XWalk
