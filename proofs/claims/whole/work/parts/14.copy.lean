/-! System.arraycopy of bytes -/
theorem V_copy {Γ : xG} {E : xE} {M : xM} {T : xY} {I : xI} {N : xN} {z : Nat} {ce sl pc lev mc ms idx : Nat} {Q : State → Prop} {lv : xL} {st : List xV} (D : xD Γ E M lev mc ms) (hf : xfe M pc = some (.invokestatic idx, 3)) (hlk : Cond.methodLink (xRn M.2.2.2.2.1) idx arraycopyName ∈ lw_tbl) {a0 a n0 n1 : Nat} {sp dp n : Int}
    (hT0 : T a0 = some (.inl (0, n0))) (hT1 : T a = some (.inl (0, n1))) (h1 : 0 ≤ sp ∧ 0 ≤ dp ∧ 0 ≤ n) (hn : n0 ≤ 1000000 ∧ n1 ≤ 1000000) (h2 : sp + n ≤ n0 ∧ dp + n ≤ n1) (hfit : ∀ i : Nat, (i : Int) < n → -128 ≤ I a0 (sp.toNat + i) ∧ I a0 (sp.toNat + i) ≤ 127)
    (hr : ((1).ble lev && (xwd st + (nativeFrameWords "java/lang/System" "arraycopy" 5 + 11)).ble (32 * lev)) = true)
    (k : V Γ E Q z T (va_up I a (va_cpy (I a0) (I a) sp.toNat dp.toNat n.toNat)) N ce sl (pc + 3) lv st) : V Γ E Q z T I N ce sl pc lv (.inl n :: .inl dp :: .inr (.inr a) :: .inl sp :: .inr (.inr a0) :: st) := by
  intro H locs ls hR hSS hl
  simp only [Bool.and_eq_true] at hr
  have hr1 : 1 ≤ lev := Nat.le_of_ble_eq_true hr.1
  have hr3 := Nat.le_of_ble_eq_true hr.2
  obtain ⟨⟨hx, hb, -, hml, hown, -⟩, -, ho, hK, hW, hX, hz⟩ := id D.1
  obtain ⟨q1, q2, q3, q4, q5⟩ := hR.arr hT0
  obtain ⟨r1, r2, r3, r4, r5⟩ := hR.arr hT1
  obtain ⟨s1, s2, s3⟩ := xidx (i := sp) (n := n0 + 1) h1.1 (by omega) (by omega)
  obtain ⟨d1, d2, d3⟩ := xidx (i := dp) (n := n1 + 1) h1.2.1 (by omega) (by omega)
  obtain ⟨m1, m2, m3⟩ := xidx (i := n) (n := n0 + 1) h1.2.2 (by omega) (by omega)
  have tS : (Int32.ofInt sp).toInt = sp := x32 (by constructor <;> omega)
  have tD : (Int32.ofInt dp).toInt = dp := x32 (by constructor <;> omega)
  have tN : (Int32.ofInt n).toInt = n := x32 (by constructor <;> omega)
  have hc0 : H[a0]? = some (vp_cell (E.2.1 0) (n0, .inl (fun j => Int32.ofInt (I a0 j)))) := q1
  have hc1 : H[a]? = some (vp_cell (E.2.1 0) (n1, .inl (fun j => Int32.ofInt (I a j)))) := r1
  show W _ _ _ _ _ _ _ _ _ _ _ _ _ _ _ (F0 _ _ _ (.int (Int32.ofInt n) :: .int (Int32.ofInt dp) :: xr a :: .int (Int32.ofInt sp) :: xr a0 :: st.map xv))
  rw [xr_pos q5, xr_pos r5]
  obtain ⟨-, k0, hk0, cm0, hkk0⟩ := (hK.arr q3).1 n0 (fun j => .int (Int32.ofInt (I a0 j)))
  intro T9 hT X
  obtain ⟨vm', X', step⟩ := X.arraycopy hx hown (hW.use hlk rfl) (hW.use xcpy_in.1 rfl) (hW.use xcpy_in.2.1 rfl) (hW.use xcpy_in.2.2 rfl) (src := a0) (dst := a) (cs := vp_cell (E.2.1 0) (n0, .inl (fun j => Int32.ofInt (I a0 j)))) (cd := vp_cell (E.2.1 0) (n1, .inl (fun j => Int32.ofInt (I a j)))) (srcPos := Int32.ofInt sp) (destPos := Int32.ofInt dp) (n := Int32.ofInt n) (by rw [hT]; exact hc0) (by rw [hT]; exact hc1)
    (fun _ h => by cases h) (fun _ h => by cases h) (fun h => by cases h) (fun h => by cases h) hk0 hk0 hkk0 hkk0 (by simp [xat, refKind]) (fun h => s3 (Or.inl h)) (fun h => d3 (Or.inl h)) (fun h => m3 (Or.inl h))
    (by rw [tS, tN]; show ¬ _ > ((arrV (E.2.1 0) n0 (fun j => .int (Int32.ofInt (I a0 j)))).slots.size : Int); rw [arrV_size]; omega)
    (by rw [tD, tN]; show ¬ _ > ((arrV (E.2.1 0) n1 (fun j => .int (Int32.ofInt (I a j)))).slots.size : Int); rw [arrV_size]; omega)
    (fun vm₁ _ i hi => by
      rw [m1] at hi
      have e : (vp_cell (E.2.1 0) (n0, .inl (fun j => Int32.ofInt (I a0 j)))).slots.getD ((Int32.ofInt sp).toNatClampNeg + i) .null = .int (Int32.ofInt (I a0 (sp.toNat + i))) := by
        show (arrV (E.2.1 0) n0 (fun j => .int (Int32.ofInt (I a0 j)))).slots.getD _ _ = _
        rw [Array.getD_eq_getD_getElem?, s1, arrV_read _ _ (by omega)]
        rfl
      have hf9 := hfit i (by omega)
      refine ⟨?_, ?_⟩
      · rw [e]
        show (decide ((-128 : Int32) ≤ Int32.ofInt (I a0 (sp.toNat + i))) && decide (Int32.ofInt (I a0 (sp.toNat + i)) ≤ 127)) = true
        have t9 : (Int32.ofInt (I a0 (sp.toNat + i))).toInt = I a0 (sp.toNat + i) := x32 (by constructor <;> omega)
        rw [Bool.and_eq_true, decide_eq_true_eq, decide_eq_true_eq, Int32.le_iff_toInt_le, Int32.le_iff_toInt_le, t9]
        exact ⟨hf9.1, hf9.2⟩
      · rw [e]
        exact trivial)
    (g := F0 (gm Γ) pc ls (.int (Int32.ofInt n) :: .int (Int32.ofInt dp) :: .ref a :: .int (Int32.ofInt sp) :: .ref a0 :: st.map xv)) rfl hl.1 (rest := st.map xv) rfl (by rw [hb]; exact D.1.dec hf) (by rw [D.2]; exact hr1) (by rw [D.2, xwd_sum]; show 2 * 0 + _ + _ ≤ 32 * lev; omega)
  have h4 : (Int32.ofInt sp).toNatClampNeg + (Int32.ofInt n).toNatClampNeg ≤ n0 := by rw [s1, m1]; omega
  have e1 : copied (vp_cell (E.2.1 0) (n0, .inl (fun j => Int32.ofInt (I a0 j)))) (vp_cell (E.2.1 0) (n1, .inl (fun j => Int32.ofInt (I a j)))) (Int32.ofInt sp) (Int32.ofInt dp) (Int32.ofInt n) = vp_cell (E.2.1 0) (n1, .inl (va_cpy (fun j => Int32.ofInt (I a0 j)) (fun j => Int32.ofInt (I a j)) (Int32.ofInt sp).toNatClampNeg (Int32.ofInt dp).toNatClampNeg (Int32.ofInt n).toNatClampNeg)) := va_copied (fun z => .int z) (E.2.1 0) (E.2.1 0) (fun j => Int32.ofInt (I a0 j)) (fun j => Int32.ofInt (I a j)) h4
  rw [e1] at X' step
  have hlt : a < H.size := (Array.getElem?_eq_some_iff.mp hc1).1
  generalize hcell : vp_cell (E.2.1 0) (n1, .inl (va_cpy (fun j => Int32.ofInt (I a0 j)) (fun j => Int32.ofInt (I a j)) (Int32.ofInt sp).toNatClampNeg (Int32.ofInt dp).toNatClampNeg (Int32.ofInt n).toNatClampNeg)) = cellN at X' step
  have hheap : ((T9.setVm vm').setCell a cellN).heap = H.setIfInBounds a cellN := by rw [← hT]; rfl
  have hat : (H.setIfInBounds a cellN)[a]? = some cellN := by simp [Array.getElem?_setIfInBounds, hlt]
  have hsz : (H.setIfInBounds a cellN).size = H.size := by simp
  have oq : ∀ q : Nat, q ≠ a → (H.setIfInBounds a cellN)[q]? = H[q]? := fun q hq => by simp [Array.getElem?_setIfInBounds, Ne.symm hq]
  have hxa : xAt E T (va_up I a (va_cpy (I a0) (I a) sp.toNat dp.toNat n.toNat)) N (H.setIfInBounds a cellN) a := by
    unfold xAt
    rw [hT1]
    refine ⟨?_, r2, r4, by omega⟩
    rw [hat, ← hcell]
    rw [vp_cell_i]
    congr 2
    funext j
    have e9 : va_up I a (va_cpy (I a0) (I a) sp.toNat dp.toNat n.toNat) a = va_cpy (I a0) (I a) sp.toNat dp.toNat n.toNat := by unfold va_up; rw [if_pos rfl]
    rw [e9, s1, d1, m1]
    unfold va_cpy
    by_cases h : dp.toNat ≤ j ∧ j < dp.toNat + n.toNat
    · rw [if_pos h, if_pos h]; rfl
    · rw [if_neg h, if_neg h]; rfl
  obtain ⟨t, a1, b1⟩ := k (H.setIfInBounds a cellN) _ ls (hR.put hsz oq (fun q hq => by unfold va_up; rw [if_neg hq]) (fun _ _ => rfl) hxa) ⟨by rw [hsz]; exact hSS.1, fun q g1 g2 => by
      rw [oq q (fun e => g2 (by rw [e]; exact r4))]
      exact hSS.2.1 q g1 g2, fun q hq => by
      rcases List.mem_append.mp hq with h | h
      · exact hSS.2.2 q h
      · first
        | (obtain ⟨i, -, rfl⟩ := List.mem_map.mp h; exact r4)
        | (simp at h; obtain ⟨i, -, rfl⟩ := h; exact r4)⟩ hl ((T9.setVm vm').setCell a cellN) hheap X'
  exact ⟨t, step t a1, b1⟩
