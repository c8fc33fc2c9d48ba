/-! CoapDesk$Server: what it asks of a request -/
theorem MAt.opt {T : xY} {I : xI} {N : xN} {m most : Nat} {g : Msg} {lat : Option Nat} (h : MAt T I N m most g lat) {j : Nat} (hj : j < g.2.2.2.2.1.length) : OAt T I N (N (m + 5) j) (od g.2.2.2.2.1 j).1 (od g.2.2.2.2.1 j).2 ∧ m + 6 ≤ N (m + 5) j ∧ N (m + 5) j + 3 ≤ m + 6 + 3 * most := by
  obtain ⟨⟨a1, a2, a3, a4, a5, a6, a7, a8⟩, ⟨b1, b2, b3⟩, c1, c2, ⟨f, f1, f2, f3, f4⟩, l1⟩ := h
  have h1 := f1 j (by omega)
  rw [h1.2]
  exact ⟨f4 j hj, by omega, by omega⟩
theorem zLand7 (x : Int) : zLand x 7 = x % 8 := by
  unfold zLand
  have h : (Int64.ofInt x &&& Int64.ofInt 7).toBitVec.toNat = (x % 18446744073709551616).toNat % 8 := by
    rw [Int64.toBitVec_and, BitVec.toNat_and, x64b]
    have e : (Int64.ofInt (7 : Int)).toBitVec.toNat = 2 ^ 3 - 1 := by decide
    rw [e, Nat.and_two_pow_sub_one_eq_mod]
  show (Int64.ofInt x &&& Int64.ofInt 7).toBitVec.toInt = _
  rw [BitVec.toInt_eq_toNat_of_lt (by rw [h]; omega), h]
  omega
def oBad (q : Opt) : Bool := if q.1 = 1 then decide (8 < q.2.length) else if q.1 = 23 then decide (wn q.2 = -1 ∨ 1048575 < wn q.2 ∨ wn q.2 % 8 = 7) else if q.1 = 5 ∨ q.1 = 11 ∨ q.1 = 15 then false else decide (q.1 % 2 = 1)
theorem zCmp_in (x y : Int) : xIn (zCmp x y) := by unfold zCmp; split; omega; split <;> omega
theorem zCmp_0 {x y : Int} : zCmp x y = 0 ↔ x = y := by
  unfold zCmp
  split
  · constructor <;> intro h <;> omega
  · split
    · constructor <;> intro h <;> omega
    · constructor <;> intro h <;> omega
theorem zCmp_gt {x y : Int} : 0 < zCmp x y ↔ y < x := by
  unfold zCmp
  split
  · constructor <;> intro h <;> omega
  · split
    · constructor <;> intro h <;> omega
    · constructor <;> intro h <;> omega
def b01 (b : Bool) : Int := if b then 1 else 0
theorem b01_in (b : Bool) : xIn (b01 b) := by unfold b01; split <;> omega
theorem b01_or (b : Bool) : b01 b = 0 ∨ b01 b = 1 := by unfold b01; split; exact Or.inr rfl; exact Or.inl rfl
theorem b01_0 {b : Bool} : b01 b = 0 ↔ b = false := by cases b <;> simp [b01]
section XSv1
variable {Γ : xG} {E : xE} {z : Nat} {T : xY} {I : xI} {N : xN} {o m most : Nat} {n : Int} {v : List Int} {g : Msg} {lat : Option Nat}
theorem s_isBad (h : OAt T I N o n v) (hn : xIn n) : Spec mX7_isBad 2 [.inr (.inr o)] z T I N 0 0 (xSame z T I N (some (.inl (b01 (oBad (n, v)))))) := by
  obtain ⟨h1, h2, h3, h4⟩ := h
  have hv := wn_rng h4.2.2.2.2.2.2.1
  refine Spec_of okX7_isBad (by decide) (by decide) (Nat.le_of_ble_eq_true rfl) fun Γ E D => ?_
  refine V_run D [] 4 rfl ⟨h1, trivial⟩ ?_
  rw [h3]
  by_cases c1 : n = 1
  · subst c1
    refine V_lsw D 56 rfl (by decide) hn rfl rfl ?_
    refine V_run D [] 65 rfl ⟨by rw [h2]; exact h4.1, h1, trivial⟩ ?_
    rw [h2, h4.2.2.2.1]
    have h5 := h4.2.2.2.2.1
    refine V_ile D 72 rfl rfl (by omega) (by omega) (fun q1 => ?_) (fun q1 => ?_)
    · refine V_run D [] 73 rfl trivial ?_
      exact V_zret D rfl rfl (Or.inl rfl) ⟨by unfold oBad b01; rw [if_pos rfl, if_neg (by simp; omega)], rfl, rfl, rfl, rfl⟩
    · refine V_run D [] 73 rfl trivial ?_
      exact V_zret D rfl rfl (Or.inr rfl) ⟨by unfold oBad b01; rw [if_pos rfl, if_pos (by simp; omega)], rfl, rfl, rfl, rfl⟩
  · by_cases c2 : n = 23
    · subst c2
      refine V_lsw D 74 rfl (by decide) hn rfl rfl ?_
      refine V_run D [] 78 rfl ⟨h1, trivial⟩ ?_
      rw [h2]
      refine V_askV (av := []) (st := []) D mwX0_wholeNumber rfl lkX7_X0_wholeNumber (s_whole h4) h4.1 rfl ⟨Nat.le_refl _, Nat.le_refl _⟩ ?_
      have e0 : oBad (23, v) = decide (wn v = -1 ∨ 1048575 < wn v ∨ wn v % 8 = 7) := by unfold oBad; rw [if_neg (by show ¬ (23 : Int) = 1; decide), if_pos rfl]
      rw [e0]
      refine V_run D [] 87 rfl ⟨⟨by constructor <;> omega, by decide⟩, trivial⟩ ?_
      refine V_eq D 110 rfl rfl (zCmp_in _ _) (fun q1 => ?_) (fun q1 => ?_)
      · rw [zCmp_0] at q1
        refine V_run D [] 115 rfl trivial ?_
        exact V_zret D rfl rfl (Or.inr rfl) ⟨by unfold b01; rw [if_pos (by simp; omega)], rfl, rfl, rfl, rfl⟩
      · rw [zCmp_0] at q1
        refine V_run D [] 95 rfl ⟨⟨by constructor <;> omega, by decide⟩, trivial⟩ ?_
        refine V_gt D 110 rfl rfl (zCmp_in _ _) (fun q2 => ?_) (fun q2 => ?_)
        · rw [zCmp_gt] at q2
          refine V_run D [] 115 rfl trivial ?_
          exact V_zret D rfl rfl (Or.inr rfl) ⟨by unfold b01; rw [if_pos (by simp; omega)], rfl, rfl, rfl, rfl⟩
        · rw [zCmp_gt] at q2
          refine V_run D [] 107 rfl ⟨⟨by rw [zLand7]; constructor <;> omega, by decide⟩, trivial⟩ ?_
          rw [zLand7]
          refine V_ne D 114 rfl rfl (zCmp_in _ _) (fun q3 => ?_) (fun q3 => ?_)
          · rw [zCmp_0] at q3
            refine V_run D [] 115 rfl trivial ?_
            exact V_zret D rfl rfl (Or.inl rfl) ⟨by unfold b01; rw [if_neg (by simp; omega)], rfl, rfl, rfl, rfl⟩
          · rw [zCmp_0] at q3
            refine V_run D [] 115 rfl trivial ?_
            exact V_zret D rfl rfl (Or.inr rfl) ⟨by unfold b01; rw [if_pos (by simp; omega)], rfl, rfl, rfl, rfl⟩
    · by_cases c3 : n = 5 ∨ n = 11 ∨ n = 15
      · have e0 : oBad (n, v) = false := by unfold oBad; rw [if_neg c1, if_neg c2, if_pos c3]
        rw [e0]
        rcases c3 with c3 | c3 | c3 <;> subst c3 <;> refine V_lsw D 116 rfl (by decide) hn rfl rfl ?_ <;> refine V_run D [] 117 rfl trivial ?_ <;> exact V_zret D rfl rfl (Or.inl rfl) ⟨rfl, rfl, rfl, rfl, rfl⟩
      · have e0 : oBad (n, v) = decide (n % 2 = 1) := by unfold oBad; rw [if_neg c1, if_neg c2, if_neg c3]
        rw [e0]
        refine V_lsw D 118 (off := 114) rfl (by decide) hn ?_ rfl ?_
        · simp [Op.lookupswitch.offset, show ¬ 1 = n by omega, show ¬ 5 = n by omega, show ¬ 11 = n by omega, show ¬ 15 = n by omega, show ¬ 23 = n by omega]
        refine V_run D [] 125 rfl ⟨h1, trivial⟩ ?_
        rw [h3, zAndM _ 1 1 (by omega) (by decide)]
        refine V_ine D 132 rfl rfl (by omega) (by omega) (fun q1 => ?_) (fun q1 => ?_)
        · refine V_run D [] 133 rfl trivial ?_
          exact V_zret D rfl rfl (Or.inl rfl) ⟨by unfold b01; rw [if_neg (by simp; omega)], rfl, rfl, rfl, rfl⟩
        · refine V_run D [] 133 rfl trivial ?_
          exact V_zret D rfl rfl (Or.inr rfl) ⟨by unfold b01; rw [if_pos (by simp; omega)], rfl, rfl, rfl, rfl⟩
def cnt (k : Int) (os : List Opt) : Nat := os.countP (fun q => q.1 == k)
def hBad (os : List Opt) : Bool := os.any oBad || decide (1 < cnt 5 os) || decide (1 < cnt 23 os)
theorem cnt_snoc (k : Int) (os : List Opt) (q : Opt) : (cnt k (os ++ [q]) : Int) = cnt k os + (if q.1 = k then 1 else 0) := by
  unfold cnt
  rw [List.countP_append]
  by_cases h : q.1 = k
  · simp [h]
  · simp [h]
theorem cnt_le (k : Int) (os : List Opt) : cnt k os ≤ os.length := List.countP_le_length
theorem any_take {os : List Opt} {i : Nat} (hi : i < os.length) (p : Opt → Bool) (h : p (od os i) = true) : os.any p = true := by
  rw [List.any_eq_true]
  exact ⟨od os i, by rw [od_get hi]; exact List.getElem_mem _, h⟩
theorem l_hasBad (D : xD Γ E mX7_hasBadOption 3 0 0) (h : MAt T I N m most g lat) (hr : ∀ q ∈ g.2.2.2.2.1, xIn q.1) : ∀ (d i : Nat), i + d = g.2.2.2.2.1.length → (g.2.2.2.2.1.take i).any oBad = false →
    V Γ E (xQ Γ E (xSame z T I N (some (.inl (b01 (hBad g.2.2.2.2.1))))) 0 0) z T I N 0 0 6 (xlv [some (.inr (.inr m)), some (.inl ((cnt 5 (g.2.2.2.2.1.take i) : Nat) : Int)), some (.inl ((cnt 23 (g.2.2.2.2.1.take i) : Nat) : Int)), some (.inl (i : Int))]) []
  | 0, i, hi, hb => by
    obtain ⟨⟨a1, a2, a3, a4, a5, a6, a7, a8⟩, -⟩ := h
    obtain rfl : i = g.2.2.2.2.1.length := by omega
    rw [List.take_length] at hb ⊢
    have l5 := cnt_le 5 g.2.2.2.2.1
    have l23 := cnt_le 23 g.2.2.2.2.1
    refine V_run D [] 11 rfl ⟨a1, trivial⟩ ?_
    rw [a7]
    refine V_ige D 73 rfl rfl (by omega) (by omega) (fun q1 => ?_) (fun q1 => absurd (Int.le_refl _) q1)
    refine V_run D [] 75 rfl trivial ?_
    refine V_igt D 83 rfl rfl (by omega) (by omega) (fun q2 => ?_) (fun q2 => ?_)
    · refine V_run D [] 88 rfl trivial ?_
      exact V_zret D rfl rfl (Or.inr rfl) ⟨by unfold b01 hBad; rw [if_pos (by simp; omega)], rfl, rfl, rfl, rfl⟩
    · refine V_run D [] 80 rfl trivial ?_
      refine V_ile D 87 rfl rfl (by omega) (by omega) (fun q3 => ?_) (fun q3 => ?_)
      · refine V_run D [] 88 rfl trivial ?_
        exact V_zret D rfl rfl (Or.inl rfl) ⟨by unfold b01 hBad; rw [hb, if_neg (by simp; omega)], rfl, rfl, rfl, rfl⟩
      · refine V_run D [] 88 rfl trivial ?_
        exact V_zret D rfl rfl (Or.inr rfl) ⟨by unfold b01 hBad; rw [if_pos (by simp; omega)], rfl, rfl, rfl, rfl⟩
  | d + 1, i, hi, hb => by
    obtain ⟨⟨a1, a2, a3, a4, a5, a6, a7, a8⟩, -⟩ := id h
    obtain ⟨o1, -, -⟩ := h.opt (j := i) (by omega)
    have hx := hr (od g.2.2.2.2.1 i) (by rw [od_get (by omega)]; exact List.getElem_mem _)
    refine V_run D [] 11 rfl ⟨a1, trivial⟩ ?_
    rw [a7]
    refine V_ige D 73 rfl rfl (by omega) (by omega) (fun q1 => absurd q1 (by omega)) (fun q1 => ?_)
    refine V_run D [] 24 rfl ⟨⟨3, by omega, most, by rw [a4]; exact a5, by omega, by omega⟩, a1, trivial⟩ ?_
    rw [a4, Int.toNat_natCast]
    refine V_askS (av := [.inr (.inr (N (m + 5) i))]) (st := []) D mwX7_isBad rfl lkX7_X7_isBad (s_isBad o1 hx) rfl ⟨Nat.le_refl _, Nat.le_refl _⟩ ?_
    refine V_eq D 32 rfl rfl (b01_in _) (fun q2 => ?_) (fun q2 => ?_)
    · rw [b01_0] at q2
      have e5 := cnt_snoc 5 (g.2.2.2.2.1.take i) (od g.2.2.2.2.1 i)
      have e23 := cnt_snoc 23 (g.2.2.2.2.1.take i) (od g.2.2.2.2.1 i)
      rw [← otake_snoc (by omega)] at e5 e23
      have hb' : (g.2.2.2.2.1.take (i + 1)).any oBad = false := by rw [otake_snoc (by omega), List.any_append, hb]; simpa using q2
      have next : ∀ (c5 c23 : Int), c5 = (cnt 5 (g.2.2.2.2.1.take (i + 1)) : Int) → c23 = (cnt 23 (g.2.2.2.2.1.take (i + 1)) : Int) → V Γ E (xQ Γ E (xSame z T I N (some (.inl (b01 (hBad g.2.2.2.2.1))))) 0 0) z T I N 0 0 6 (xlv [some (.inr (.inr m)), some (.inl c5), some (.inl c23), some (.inl ((i + 1 : Nat) : Int))]) [] := fun c5 c23 h5 h23 => by
        rw [h5, h23]; exact l_hasBad D h hr d (i + 1) (by omega) hb'
      refine V_run D [] 39 rfl ⟨o1.1, trivial⟩ ?_
      rw [o1.2.2.1]
      refine V_ine D 46 rfl rfl hx (by omega) (fun q3 => ?_) (fun q3 => ?_)
      · rw [if_neg q3] at e5
        refine V_run D [] 57 rfl ⟨o1.1, trivial⟩ ?_
        rw [o1.2.2.1]
        refine V_ine D 64 rfl rfl hx (by omega) (fun q4 => ?_) (fun q4 => ?_)
        · rw [if_neg q4] at e23
          refine V_run D [6] 6 rfl trivial ?_
          refine V_loc [some (.inr (.inr m)), some (.inl ((cnt 5 (g.2.2.2.2.1.take i) : Nat) + 0 : Int)), some (.inl ((cnt 23 (g.2.2.2.2.1.take i) : Nat) + 0 : Int)), some (.inl ((i + 1 : Nat) : Int))] rfl ?_
          exact next _ _ e5.symm e23.symm
        · rw [if_pos q4] at e23
          refine V_run D [6] 6 rfl trivial ?_
          refine V_loc [some (.inr (.inr m)), some (.inl ((cnt 5 (g.2.2.2.2.1.take i) : Nat) + 0 : Int)), some (.inl ((cnt 23 (g.2.2.2.2.1.take i) : Nat) + 1 : Int)), some (.inl ((i + 1 : Nat) : Int))] rfl ?_
          exact next _ _ e5.symm e23.symm
      · rw [if_pos q3] at e5
        refine V_run D [] 57 rfl ⟨o1.1, trivial⟩ ?_
        rw [o1.2.2.1]
        refine V_ine D 64 rfl rfl hx (by omega) (fun q4 => ?_) (fun q4 => ?_)
        · rw [if_neg q4] at e23
          refine V_run D [6] 6 rfl trivial ?_
          refine V_loc [some (.inr (.inr m)), some (.inl ((cnt 5 (g.2.2.2.2.1.take i) : Nat) + 1 : Int)), some (.inl ((cnt 23 (g.2.2.2.2.1.take i) : Nat) + 0 : Int)), some (.inl ((i + 1 : Nat) : Int))] rfl ?_
          exact next _ _ e5.symm e23.symm
        · rw [if_pos q4] at e23
          refine V_run D [6] 6 rfl trivial ?_
          refine V_loc [some (.inr (.inr m)), some (.inl ((cnt 5 (g.2.2.2.2.1.take i) : Nat) + 1 : Int)), some (.inl ((cnt 23 (g.2.2.2.2.1.take i) : Nat) + 1 : Int)), some (.inl ((i + 1 : Nat) : Int))] rfl ?_
          exact next _ _ e5.symm e23.symm
    · refine V_run D [] 31 rfl trivial ?_
      have hq : oBad (od g.2.2.2.2.1 i) = true := by
        cases hh : oBad (od g.2.2.2.2.1 i)
        · exact absurd (b01_0.mpr hh) q2
        · rfl
      exact V_zret D rfl rfl (Or.inr rfl) ⟨by unfold b01 hBad; rw [any_take (by omega) oBad hq]; rfl, rfl, rfl, rfl, rfl⟩
theorem s_hasBad (h : MAt T I N m most g lat) (hr : ∀ q ∈ g.2.2.2.2.1, xIn q.1) : Spec mX7_hasBadOption 3 [.inr (.inr m)] z T I N 0 0 (xSame z T I N (some (.inl (b01 (hBad g.2.2.2.2.1))))) := by
  refine Spec_of okX7_hasBadOption (by decide) (by decide) (Nat.le_of_ble_eq_true rfl) fun Γ E D => ?_
  refine V_run D [6] 6 rfl trivial ?_
  refine V_loc [some (.inr (.inr m)), some (.inl ((cnt 5 (g.2.2.2.2.1.take 0) : Nat) : Int)), some (.inl ((cnt 23 (g.2.2.2.2.1.take 0) : Nat) : Int)), some (.inl ((0 : Nat) : Int))] rfl ?_
  exact l_hasBad D h hr _ 0 (Nat.zero_add _) rfl
end XSv1
